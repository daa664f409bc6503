/-! decode rows (printed by program) -/
theorem dX0_init_0 : decode cX0_init 0 = .ok (.aload_n 0, 1) := by decide +kernel
theorem dX0_init_1 : decode cX0_init 1 = .ok (.invokespecial 3, 3) := by decide +kernel
theorem dX0_init_4 : decode cX0_init 4 = .ok (.aload_n 0, 1) := by decide +kernel
theorem dX0_init_5 : decode cX0_init 5 = .ok (.iconst 5, 1) := by decide +kernel
theorem dX0_init_6 : decode cX0_init 6 = .ok (.newarray .int, 2) := by decide +kernel
theorem dX0_init_8 : decode cX0_init 8 = .ok (.putfield 9, 3) := by decide +kernel
theorem dX0_init_11 : decode cX0_init 11 = .ok (.aload_n 0, 1) := by decide +kernel
theorem dX0_init_12 : decode cX0_init 12 = .ok (.iconst 5, 1) := by decide +kernel
theorem dX0_init_13 : decode cX0_init 13 = .ok (.newarray .int, 2) := by decide +kernel
theorem dX0_init_15 : decode cX0_init 15 = .ok (.putfield 15, 3) := by decide +kernel
theorem dX0_init_18 : decode cX0_init 18 = .ok (.aload_n 0, 1) := by decide +kernel
theorem dX0_init_19 : decode cX0_init 19 = .ok (.iconst 5, 1) := by decide +kernel
theorem dX0_init_20 : decode cX0_init 20 = .ok (.newarray .int, 2) := by decide +kernel
theorem dX0_init_22 : decode cX0_init 22 = .ok (.putfield 18, 3) := by decide +kernel
theorem dX0_init_25 : decode cX0_init 25 = .ok (.aload_n 0, 1) := by decide +kernel
theorem dX0_init_26 : decode cX0_init 26 = .ok (.iconst 5, 1) := by decide +kernel
theorem dX0_init_27 : decode cX0_init 27 = .ok (.newarray .int, 2) := by decide +kernel
theorem dX0_init_29 : decode cX0_init 29 = .ok (.putfield 21, 3) := by decide +kernel
theorem dX0_init_32 : decode cX0_init 32 = .ok (.aload_n 0, 1) := by decide +kernel
theorem dX0_init_33 : decode cX0_init 33 = .ok (.sipush 255, 3) := by decide +kernel
theorem dX0_init_36 : decode cX0_init 36 = .ok (.putfield 24, 3) := by decide +kernel
theorem dX0_init_39 : decode cX0_init 39 = .ok (.aload_n 0, 1) := by decide +kernel
theorem dX0_init_40 : decode cX0_init 40 = .ok (.iconst (-1), 1) := by decide +kernel
theorem dX0_init_41 : decode cX0_init 41 = .ok (.putfield 28, 3) := by decide +kernel
theorem dX0_init_44 : decode cX0_init 44 = .ok (.aload_n 0, 1) := by decide +kernel
theorem dX0_init_45 : decode cX0_init 45 = .ok (.bipush 6, 2) := by decide +kernel
theorem dX0_init_47 : decode cX0_init 47 = .ok (.newarray .int, 2) := by decide +kernel
theorem dX0_init_49 : decode cX0_init 49 = .ok (.putfield 31, 3) := by decide +kernel
theorem dX0_init_52 : decode cX0_init 52 = .ok (.aload_n 0, 1) := by decide +kernel
theorem dX0_init_53 : decode cX0_init 53 = .ok (.sipush 160, 3) := by decide +kernel
theorem dX0_init_56 : decode cX0_init 56 = .ok (.newarray .int, 2) := by decide +kernel
theorem dX0_init_58 : decode cX0_init 58 = .ok (.putfield 34, 3) := by decide +kernel
theorem dX0_init_61 : decode cX0_init 61 = .ok (.aload_n 0, 1) := by decide +kernel
theorem dX0_init_62 : decode cX0_init 62 = .ok (.aload_n 1, 1) := by decide +kernel
theorem dX0_init_63 : decode cX0_init 63 = .ok (.putfield 37, 3) := by decide +kernel
theorem dX0_init_66 : decode cX0_init 66 = .ok (.return_, 1) := by decide +kernel
theorem dX0_becomeLike_0 : decode cX0_becomeLike 0 = .ok (.iconst 0, 1) := by decide +kernel
theorem dX0_becomeLike_1 : decode cX0_becomeLike 1 = .ok (.istore_n 2, 1) := by decide +kernel
theorem dX0_becomeLike_2 : decode cX0_becomeLike 2 = .ok (.iload_n 2, 1) := by decide +kernel
theorem dX0_becomeLike_3 : decode cX0_becomeLike 3 = .ok (.iconst 5, 1) := by decide +kernel
theorem dX0_becomeLike_4 : decode cX0_becomeLike 4 = .ok (.if_icmp .ge 45, 3) := by decide +kernel
theorem dX0_becomeLike_7 : decode cX0_becomeLike 7 = .ok (.aload_n 0, 1) := by decide +kernel
theorem dX0_becomeLike_8 : decode cX0_becomeLike 8 = .ok (.getfield 9, 3) := by decide +kernel
theorem dX0_becomeLike_11 : decode cX0_becomeLike 11 = .ok (.iload_n 2, 1) := by decide +kernel
theorem dX0_becomeLike_12 : decode cX0_becomeLike 12 = .ok (.aload_n 1, 1) := by decide +kernel
theorem dX0_becomeLike_13 : decode cX0_becomeLike 13 = .ok (.getfield 9, 3) := by decide +kernel
theorem dX0_becomeLike_16 : decode cX0_becomeLike 16 = .ok (.iload_n 2, 1) := by decide +kernel
theorem dX0_becomeLike_17 : decode cX0_becomeLike 17 = .ok (.iaload, 1) := by decide +kernel
theorem dX0_becomeLike_18 : decode cX0_becomeLike 18 = .ok (.iastore, 1) := by decide +kernel
theorem dX0_becomeLike_19 : decode cX0_becomeLike 19 = .ok (.aload_n 0, 1) := by decide +kernel
theorem dX0_becomeLike_20 : decode cX0_becomeLike 20 = .ok (.getfield 15, 3) := by decide +kernel
theorem dX0_becomeLike_23 : decode cX0_becomeLike 23 = .ok (.iload_n 2, 1) := by decide +kernel
theorem dX0_becomeLike_24 : decode cX0_becomeLike 24 = .ok (.aload_n 1, 1) := by decide +kernel
theorem dX0_becomeLike_25 : decode cX0_becomeLike 25 = .ok (.getfield 15, 3) := by decide +kernel
theorem dX0_becomeLike_28 : decode cX0_becomeLike 28 = .ok (.iload_n 2, 1) := by decide +kernel
theorem dX0_becomeLike_29 : decode cX0_becomeLike 29 = .ok (.iaload, 1) := by decide +kernel
theorem dX0_becomeLike_30 : decode cX0_becomeLike 30 = .ok (.iastore, 1) := by decide +kernel
theorem dX0_becomeLike_31 : decode cX0_becomeLike 31 = .ok (.aload_n 0, 1) := by decide +kernel
theorem dX0_becomeLike_32 : decode cX0_becomeLike 32 = .ok (.getfield 18, 3) := by decide +kernel
theorem dX0_becomeLike_35 : decode cX0_becomeLike 35 = .ok (.iload_n 2, 1) := by decide +kernel
theorem dX0_becomeLike_36 : decode cX0_becomeLike 36 = .ok (.aload_n 1, 1) := by decide +kernel
theorem dX0_becomeLike_37 : decode cX0_becomeLike 37 = .ok (.getfield 18, 3) := by decide +kernel
theorem dX0_becomeLike_40 : decode cX0_becomeLike 40 = .ok (.iload_n 2, 1) := by decide +kernel
theorem dX0_becomeLike_41 : decode cX0_becomeLike 41 = .ok (.iaload, 1) := by decide +kernel
theorem dX0_becomeLike_42 : decode cX0_becomeLike 42 = .ok (.iastore, 1) := by decide +kernel
theorem dX0_becomeLike_43 : decode cX0_becomeLike 43 = .ok (.iinc 2 1, 3) := by decide +kernel
theorem dX0_becomeLike_46 : decode cX0_becomeLike 46 = .ok (.goto (-44), 3) := by decide +kernel
theorem dX0_becomeLike_49 : decode cX0_becomeLike 49 = .ok (.aload_n 0, 1) := by decide +kernel
theorem dX0_becomeLike_50 : decode cX0_becomeLike 50 = .ok (.aload_n 1, 1) := by decide +kernel
theorem dX0_becomeLike_51 : decode cX0_becomeLike 51 = .ok (.getfield 41, 3) := by decide +kernel
theorem dX0_becomeLike_54 : decode cX0_becomeLike 54 = .ok (.putfield 41, 3) := by decide +kernel
theorem dX0_becomeLike_57 : decode cX0_becomeLike 57 = .ok (.aload_n 0, 1) := by decide +kernel
theorem dX0_becomeLike_58 : decode cX0_becomeLike 58 = .ok (.aload_n 1, 1) := by decide +kernel
theorem dX0_becomeLike_59 : decode cX0_becomeLike 59 = .ok (.getfield 24, 3) := by decide +kernel
theorem dX0_becomeLike_62 : decode cX0_becomeLike 62 = .ok (.putfield 24, 3) := by decide +kernel
theorem dX0_becomeLike_65 : decode cX0_becomeLike 65 = .ok (.aload_n 0, 1) := by decide +kernel
theorem dX0_becomeLike_66 : decode cX0_becomeLike 66 = .ok (.aload_n 1, 1) := by decide +kernel
theorem dX0_becomeLike_67 : decode cX0_becomeLike 67 = .ok (.getfield 44, 3) := by decide +kernel
theorem dX0_becomeLike_70 : decode cX0_becomeLike 70 = .ok (.putfield 44, 3) := by decide +kernel
theorem dX0_becomeLike_73 : decode cX0_becomeLike 73 = .ok (.aload_n 0, 1) := by decide +kernel
theorem dX0_becomeLike_74 : decode cX0_becomeLike 74 = .ok (.aload_n 1, 1) := by decide +kernel
theorem dX0_becomeLike_75 : decode cX0_becomeLike 75 = .ok (.getfield 47, 3) := by decide +kernel
theorem dX0_becomeLike_78 : decode cX0_becomeLike 78 = .ok (.putfield 47, 3) := by decide +kernel
theorem dX0_becomeLike_81 : decode cX0_becomeLike 81 = .ok (.aload_n 0, 1) := by decide +kernel
theorem dX0_becomeLike_82 : decode cX0_becomeLike 82 = .ok (.aload_n 1, 1) := by decide +kernel
theorem dX0_becomeLike_83 : decode cX0_becomeLike 83 = .ok (.getfield 28, 3) := by decide +kernel
theorem dX0_becomeLike_86 : decode cX0_becomeLike 86 = .ok (.putfield 28, 3) := by decide +kernel
theorem dX0_becomeLike_89 : decode cX0_becomeLike 89 = .ok (.return_, 1) := by decide +kernel
theorem dX0_takeIn_0 : decode cX0_takeIn 0 = .ok (.aload_n 0, 1) := by decide +kernel
theorem dX0_takeIn_1 : decode cX0_takeIn 1 = .ok (.getfield 41, 3) := by decide +kernel
theorem dX0_takeIn_4 : decode cX0_takeIn 4 = .ok (.iconst 5, 1) := by decide +kernel
theorem dX0_takeIn_5 : decode cX0_takeIn 5 = .ok (.if_icmp .lt 6, 3) := by decide +kernel
theorem dX0_takeIn_8 : decode cX0_takeIn 8 = .ok (.bipush (-4), 2) := by decide +kernel
theorem dX0_takeIn_10 : decode cX0_takeIn 10 = .ok (.ireturn, 1) := by decide +kernel
theorem dX0_takeIn_11 : decode cX0_takeIn 11 = .ok (.aload_n 0, 1) := by decide +kernel
theorem dX0_takeIn_12 : decode cX0_takeIn 12 = .ok (.getfield 9, 3) := by decide +kernel
theorem dX0_takeIn_15 : decode cX0_takeIn 15 = .ok (.aload_n 0, 1) := by decide +kernel
theorem dX0_takeIn_16 : decode cX0_takeIn 16 = .ok (.getfield 41, 3) := by decide +kernel
theorem dX0_takeIn_19 : decode cX0_takeIn 19 = .ok (.iload_n 1, 1) := by decide +kernel
theorem dX0_takeIn_20 : decode cX0_takeIn 20 = .ok (.iastore, 1) := by decide +kernel
theorem dX0_takeIn_21 : decode cX0_takeIn 21 = .ok (.aload_n 0, 1) := by decide +kernel
theorem dX0_takeIn_22 : decode cX0_takeIn 22 = .ok (.getfield 15, 3) := by decide +kernel
theorem dX0_takeIn_25 : decode cX0_takeIn 25 = .ok (.aload_n 0, 1) := by decide +kernel
theorem dX0_takeIn_26 : decode cX0_takeIn 26 = .ok (.getfield 41, 3) := by decide +kernel
theorem dX0_takeIn_29 : decode cX0_takeIn 29 = .ok (.iload_n 2, 1) := by decide +kernel
theorem dX0_takeIn_30 : decode cX0_takeIn 30 = .ok (.iastore, 1) := by decide +kernel
theorem dX0_takeIn_31 : decode cX0_takeIn 31 = .ok (.aload_n 0, 1) := by decide +kernel
theorem dX0_takeIn_32 : decode cX0_takeIn 32 = .ok (.getfield 18, 3) := by decide +kernel
theorem dX0_takeIn_35 : decode cX0_takeIn 35 = .ok (.aload_n 0, 1) := by decide +kernel
theorem dX0_takeIn_36 : decode cX0_takeIn 36 = .ok (.getfield 41, 3) := by decide +kernel
theorem dX0_takeIn_39 : decode cX0_takeIn 39 = .ok (.iconst 0, 1) := by decide +kernel
theorem dX0_takeIn_40 : decode cX0_takeIn 40 = .ok (.iastore, 1) := by decide +kernel
theorem dX0_takeIn_41 : decode cX0_takeIn 41 = .ok (.aload_n 0, 1) := by decide +kernel
theorem dX0_takeIn_42 : decode cX0_takeIn 42 = .ok (.dup, 1) := by decide +kernel
theorem dX0_takeIn_43 : decode cX0_takeIn 43 = .ok (.getfield 41, 3) := by decide +kernel
theorem dX0_takeIn_46 : decode cX0_takeIn 46 = .ok (.iconst 1, 1) := by decide +kernel
theorem dX0_takeIn_47 : decode cX0_takeIn 47 = .ok (.iadd, 1) := by decide +kernel
theorem dX0_takeIn_48 : decode cX0_takeIn 48 = .ok (.putfield 41, 3) := by decide +kernel
theorem dX0_takeIn_51 : decode cX0_takeIn 51 = .ok (.aload_n 0, 1) := by decide +kernel
theorem dX0_takeIn_52 : decode cX0_takeIn 52 = .ok (.getfield 41, 3) := by decide +kernel
theorem dX0_takeIn_55 : decode cX0_takeIn 55 = .ok (.iconst 1, 1) := by decide +kernel
theorem dX0_takeIn_56 : decode cX0_takeIn 56 = .ok (.isub, 1) := by decide +kernel
theorem dX0_takeIn_57 : decode cX0_takeIn 57 = .ok (.ireturn, 1) := by decide +kernel
theorem dX0_glad_0 : decode cX0_glad 0 = .ok (.iconst 0, 1) := by decide +kernel
theorem dX0_glad_1 : decode cX0_glad 1 = .ok (.istore_n 1, 1) := by decide +kernel
theorem dX0_glad_2 : decode cX0_glad 2 = .ok (.iconst 0, 1) := by decide +kernel
theorem dX0_glad_3 : decode cX0_glad 3 = .ok (.istore_n 2, 1) := by decide +kernel
theorem dX0_glad_4 : decode cX0_glad 4 = .ok (.iload_n 2, 1) := by decide +kernel
theorem dX0_glad_5 : decode cX0_glad 5 = .ok (.aload_n 0, 1) := by decide +kernel
theorem dX0_glad_6 : decode cX0_glad 6 = .ok (.getfield 41, 3) := by decide +kernel
theorem dX0_glad_9 : decode cX0_glad 9 = .ok (.if_icmp .ge 18, 3) := by decide +kernel
theorem dX0_glad_12 : decode cX0_glad 12 = .ok (.iload_n 1, 1) := by decide +kernel
theorem dX0_glad_13 : decode cX0_glad 13 = .ok (.aload_n 0, 1) := by decide +kernel
theorem dX0_glad_14 : decode cX0_glad 14 = .ok (.getfield 18, 3) := by decide +kernel
theorem dX0_glad_17 : decode cX0_glad 17 = .ok (.iload_n 2, 1) := by decide +kernel
theorem dX0_glad_18 : decode cX0_glad 18 = .ok (.iaload, 1) := by decide +kernel
theorem dX0_glad_19 : decode cX0_glad 19 = .ok (.iadd, 1) := by decide +kernel
theorem dX0_glad_20 : decode cX0_glad 20 = .ok (.istore_n 1, 1) := by decide +kernel
theorem dX0_glad_21 : decode cX0_glad 21 = .ok (.iinc 2 1, 3) := by decide +kernel
theorem dX0_glad_24 : decode cX0_glad 24 = .ok (.goto (-20), 3) := by decide +kernel
theorem dX0_glad_27 : decode cX0_glad 27 = .ok (.iload_n 1, 1) := by decide +kernel
theorem dX0_glad_28 : decode cX0_glad 28 = .ok (.ireturn, 1) := by decide +kernel
theorem dX0_allMoods_0 : decode cX0_allMoods 0 = .ok (.iconst 0, 1) := by decide +kernel
theorem dX0_allMoods_1 : decode cX0_allMoods 1 = .ok (.istore_n 1, 1) := by decide +kernel
theorem dX0_allMoods_2 : decode cX0_allMoods 2 = .ok (.iconst 0, 1) := by decide +kernel
theorem dX0_allMoods_3 : decode cX0_allMoods 3 = .ok (.istore_n 2, 1) := by decide +kernel
theorem dX0_allMoods_4 : decode cX0_allMoods 4 = .ok (.iload_n 2, 1) := by decide +kernel
theorem dX0_allMoods_5 : decode cX0_allMoods 5 = .ok (.aload_n 0, 1) := by decide +kernel
theorem dX0_allMoods_6 : decode cX0_allMoods 6 = .ok (.getfield 41, 3) := by decide +kernel
theorem dX0_allMoods_9 : decode cX0_allMoods 9 = .ok (.if_icmp .ge 24, 3) := by decide +kernel
theorem dX0_allMoods_12 : decode cX0_allMoods 12 = .ok (.iload_n 1, 1) := by decide +kernel
theorem dX0_allMoods_13 : decode cX0_allMoods 13 = .ok (.bipush 41, 2) := by decide +kernel
theorem dX0_allMoods_15 : decode cX0_allMoods 15 = .ok (.imul, 1) := by decide +kernel
theorem dX0_allMoods_16 : decode cX0_allMoods 16 = .ok (.aload_n 0, 1) := by decide +kernel
theorem dX0_allMoods_17 : decode cX0_allMoods 17 = .ok (.getfield 18, 3) := by decide +kernel
theorem dX0_allMoods_20 : decode cX0_allMoods 20 = .ok (.iload_n 2, 1) := by decide +kernel
theorem dX0_allMoods_21 : decode cX0_allMoods 21 = .ok (.iaload, 1) := by decide +kernel
theorem dX0_allMoods_22 : decode cX0_allMoods 22 = .ok (.iadd, 1) := by decide +kernel
theorem dX0_allMoods_23 : decode cX0_allMoods 23 = .ok (.bipush 20, 2) := by decide +kernel
theorem dX0_allMoods_25 : decode cX0_allMoods 25 = .ok (.iadd, 1) := by decide +kernel
theorem dX0_allMoods_26 : decode cX0_allMoods 26 = .ok (.istore_n 1, 1) := by decide +kernel
theorem dX0_allMoods_27 : decode cX0_allMoods 27 = .ok (.iinc 2 1, 3) := by decide +kernel
theorem dX0_allMoods_30 : decode cX0_allMoods 30 = .ok (.goto (-26), 3) := by decide +kernel
theorem dX0_allMoods_33 : decode cX0_allMoods 33 = .ok (.iload_n 1, 1) := by decide +kernel
theorem dX0_allMoods_34 : decode cX0_allMoods 34 = .ok (.ireturn, 1) := by decide +kernel
theorem dX0_drawMoods_0 : decode cX0_drawMoods 0 = .ok (.iload_n 1, 1) := by decide +kernel
theorem dX0_drawMoods_1 : decode cX0_drawMoods 1 = .ok (.istore_n 2, 1) := by decide +kernel
theorem dX0_drawMoods_2 : decode cX0_drawMoods 2 = .ok (.iconst 0, 1) := by decide +kernel
theorem dX0_drawMoods_3 : decode cX0_drawMoods 3 = .ok (.istore_n 3, 1) := by decide +kernel
theorem dX0_drawMoods_4 : decode cX0_drawMoods 4 = .ok (.iload_n 3, 1) := by decide +kernel
theorem dX0_drawMoods_5 : decode cX0_drawMoods 5 = .ok (.aload_n 0, 1) := by decide +kernel
theorem dX0_drawMoods_6 : decode cX0_drawMoods 6 = .ok (.getfield 41, 3) := by decide +kernel
theorem dX0_drawMoods_9 : decode cX0_drawMoods 9 = .ok (.if_icmp .ge 34, 3) := by decide +kernel
theorem dX0_drawMoods_12 : decode cX0_drawMoods 12 = .ok (.iload_n 2, 1) := by decide +kernel
theorem dX0_drawMoods_13 : decode cX0_drawMoods 13 = .ok (.ldc 50, 2) := by decide +kernel
theorem dX0_drawMoods_15 : decode cX0_drawMoods 15 = .ok (.imul, 1) := by decide +kernel
theorem dX0_drawMoods_16 : decode cX0_drawMoods 16 = .ok (.sipush 12345, 3) := by decide +kernel
theorem dX0_drawMoods_19 : decode cX0_drawMoods 19 = .ok (.iadd, 1) := by decide +kernel
theorem dX0_drawMoods_20 : decode cX0_drawMoods 20 = .ok (.istore_n 2, 1) := by decide +kernel
theorem dX0_drawMoods_21 : decode cX0_drawMoods 21 = .ok (.aload_n 0, 1) := by decide +kernel
theorem dX0_drawMoods_22 : decode cX0_drawMoods 22 = .ok (.getfield 18, 3) := by decide +kernel
theorem dX0_drawMoods_25 : decode cX0_drawMoods 25 = .ok (.iload_n 3, 1) := by decide +kernel
theorem dX0_drawMoods_26 : decode cX0_drawMoods 26 = .ok (.iload_n 2, 1) := by decide +kernel
theorem dX0_drawMoods_27 : decode cX0_drawMoods 27 = .ok (.bipush 9, 2) := by decide +kernel
theorem dX0_drawMoods_29 : decode cX0_drawMoods 29 = .ok (.iushr, 1) := by decide +kernel
theorem dX0_drawMoods_30 : decode cX0_drawMoods 30 = .ok (.bipush 41, 2) := by decide +kernel
theorem dX0_drawMoods_32 : decode cX0_drawMoods 32 = .ok (.irem, 1) := by decide +kernel
theorem dX0_drawMoods_33 : decode cX0_drawMoods 33 = .ok (.bipush 20, 2) := by decide +kernel
theorem dX0_drawMoods_35 : decode cX0_drawMoods 35 = .ok (.isub, 1) := by decide +kernel
theorem dX0_drawMoods_36 : decode cX0_drawMoods 36 = .ok (.iastore, 1) := by decide +kernel
theorem dX0_drawMoods_37 : decode cX0_drawMoods 37 = .ok (.iinc 3 1, 3) := by decide +kernel
theorem dX0_drawMoods_40 : decode cX0_drawMoods 40 = .ok (.goto (-36), 3) := by decide +kernel
theorem dX0_drawMoods_43 : decode cX0_drawMoods 43 = .ok (.return_, 1) := by decide +kernel
theorem dX0_sendsTo_0 : decode cX0_sendsTo 0 = .ok (.aload_n 0, 1) := by decide +kernel
theorem dX0_sendsTo_1 : decode cX0_sendsTo 1 = .ok (.iconst 0, 1) := by decide +kernel
theorem dX0_sendsTo_2 : decode cX0_sendsTo 2 = .ok (.iload_n 1, 1) := by decide +kernel
theorem dX0_sendsTo_3 : decode cX0_sendsTo 3 = .ok (.iload_n 2, 1) := by decide +kernel
theorem dX0_sendsTo_4 : decode cX0_sendsTo 4 = .ok (.iload_n 1, 1) := by decide +kernel
theorem dX0_sendsTo_5 : decode cX0_sendsTo 5 = .ok (.iload_n 2, 1) := by decide +kernel
theorem dX0_sendsTo_6 : decode cX0_sendsTo 6 = .ok (.invokevirtual 51, 3) := by decide +kernel
theorem dX0_sendsTo_9 : decode cX0_sendsTo 9 = .ok (.aload_n 0, 1) := by decide +kernel
theorem dX0_sendsTo_10 : decode cX0_sendsTo 10 = .ok (.getfield 37, 3) := by decide +kernel
theorem dX0_sendsTo_13 : decode cX0_sendsTo 13 = .ok (.aload_n 0, 1) := by decide +kernel
theorem dX0_sendsTo_14 : decode cX0_sendsTo 14 = .ok (.getfield 47, 3) := by decide +kernel
theorem dX0_sendsTo_17 : decode cX0_sendsTo 17 = .ok (.aaload, 1) := by decide +kernel
theorem dX0_sendsTo_18 : decode cX0_sendsTo 18 = .ok (.iconst 2, 1) := by decide +kernel
theorem dX0_sendsTo_19 : decode cX0_sendsTo 19 = .ok (.aload_n 0, 1) := by decide +kernel
theorem dX0_sendsTo_20 : decode cX0_sendsTo 20 = .ok (.getfield 31, 3) := by decide +kernel
theorem dX0_sendsTo_23 : decode cX0_sendsTo 23 = .ok (.aload_n 0, 1) := by decide +kernel
theorem dX0_sendsTo_24 : decode cX0_sendsTo 24 = .ok (.getfield 34, 3) := by decide +kernel
theorem dX0_sendsTo_27 : decode cX0_sendsTo 27 = .ok (.invokevirtual 55, 3) := by decide +kernel
theorem dX0_sendsTo_30 : decode cX0_sendsTo 30 = .ok (.ifCond .eq 7, 3) := by decide +kernel
theorem dX0_sendsTo_33 : decode cX0_sendsTo 33 = .ok (.iconst 1, 1) := by decide +kernel
theorem dX0_sendsTo_34 : decode cX0_sendsTo 34 = .ok (.goto 4, 3) := by decide +kernel
theorem dX0_sendsTo_37 : decode cX0_sendsTo 37 = .ok (.iconst 0, 1) := by decide +kernel
theorem dX0_sendsTo_38 : decode cX0_sendsTo 38 = .ok (.istore_n 3, 1) := by decide +kernel
theorem dX0_sendsTo_39 : decode cX0_sendsTo 39 = .ok (.aload_n 0, 1) := by decide +kernel
theorem dX0_sendsTo_40 : decode cX0_sendsTo 40 = .ok (.getfield 9, 3) := by decide +kernel
theorem dX0_sendsTo_43 : decode cX0_sendsTo 43 = .ok (.iload_n 1, 1) := by decide +kernel
theorem dX0_sendsTo_44 : decode cX0_sendsTo 44 = .ok (.iaload, 1) := by decide +kernel
theorem dX0_sendsTo_45 : decode cX0_sendsTo 45 = .ok (.tableswitch 65 1 4 #[31, 33, 31, 40], 31) := by decide +kernel
theorem dX0_sendsTo_76 : decode cX0_sendsTo 76 = .ok (.iconst 1, 1) := by decide +kernel
theorem dX0_sendsTo_77 : decode cX0_sendsTo 77 = .ok (.ireturn, 1) := by decide +kernel
theorem dX0_sendsTo_78 : decode cX0_sendsTo 78 = .ok (.aload_n 0, 1) := by decide +kernel
theorem dX0_sendsTo_79 : decode cX0_sendsTo 79 = .ok (.iload_n 1, 1) := by decide +kernel
theorem dX0_sendsTo_80 : decode cX0_sendsTo 80 = .ok (.iload_n 3, 1) := by decide +kernel
theorem dX0_sendsTo_81 : decode cX0_sendsTo 81 = .ok (.invokevirtual 61, 3) := by decide +kernel
theorem dX0_sendsTo_84 : decode cX0_sendsTo 84 = .ok (.ireturn, 1) := by decide +kernel
theorem dX0_sendsTo_85 : decode cX0_sendsTo 85 = .ok (.aload_n 0, 1) := by decide +kernel
theorem dX0_sendsTo_86 : decode cX0_sendsTo 86 = .ok (.iload_n 1, 1) := by decide +kernel
theorem dX0_sendsTo_87 : decode cX0_sendsTo 87 = .ok (.iload_n 3, 1) := by decide +kernel
theorem dX0_sendsTo_88 : decode cX0_sendsTo 88 = .ok (.invokevirtual 61, 3) := by decide +kernel
theorem dX0_sendsTo_91 : decode cX0_sendsTo 91 = .ok (.ifCond .ne 13, 3) := by decide +kernel
theorem dX0_sendsTo_94 : decode cX0_sendsTo 94 = .ok (.iload_n 2, 1) := by decide +kernel
theorem dX0_sendsTo_95 : decode cX0_sendsTo 95 = .ok (.aload_n 0, 1) := by decide +kernel
theorem dX0_sendsTo_96 : decode cX0_sendsTo 96 = .ok (.getfield 15, 3) := by decide +kernel
theorem dX0_sendsTo_99 : decode cX0_sendsTo 99 = .ok (.iload_n 1, 1) := by decide +kernel
theorem dX0_sendsTo_100 : decode cX0_sendsTo 100 = .ok (.iaload, 1) := by decide +kernel
theorem dX0_sendsTo_101 : decode cX0_sendsTo 101 = .ok (.if_icmp .ne 7, 3) := by decide +kernel
theorem dX0_sendsTo_104 : decode cX0_sendsTo 104 = .ok (.iconst 1, 1) := by decide +kernel
theorem dX0_sendsTo_105 : decode cX0_sendsTo 105 = .ok (.goto 4, 3) := by decide +kernel
theorem dX0_sendsTo_108 : decode cX0_sendsTo 108 = .ok (.iconst 0, 1) := by decide +kernel
theorem dX0_sendsTo_109 : decode cX0_sendsTo 109 = .ok (.ireturn, 1) := by decide +kernel
theorem dX0_sendsTo_110 : decode cX0_sendsTo 110 = .ok (.iload_n 3, 1) := by decide +kernel
theorem dX0_sendsTo_111 : decode cX0_sendsTo 111 = .ok (.ireturn, 1) := by decide +kernel
theorem dX0_inlawSends_0 : decode cX0_inlawSends 0 = .ok (.iload_n 2, 1) := by decide +kernel
theorem dX0_inlawSends_1 : decode cX0_inlawSends 1 = .ok (.ifCond .eq 18, 3) := by decide +kernel
theorem dX0_inlawSends_4 : decode cX0_inlawSends 4 = .ok (.aload_n 0, 1) := by decide +kernel
theorem dX0_inlawSends_5 : decode cX0_inlawSends 5 = .ok (.getfield 18, 3) := by decide +kernel
theorem dX0_inlawSends_8 : decode cX0_inlawSends 8 = .ok (.iload_n 1, 1) := by decide +kernel
theorem dX0_inlawSends_9 : decode cX0_inlawSends 9 = .ok (.iaload, 1) := by decide +kernel
theorem dX0_inlawSends_10 : decode cX0_inlawSends 10 = .ok (.bipush (-5), 2) := by decide +kernel
theorem dX0_inlawSends_12 : decode cX0_inlawSends 12 = .ok (.if_icmp .lt 7, 3) := by decide +kernel
theorem dX0_inlawSends_15 : decode cX0_inlawSends 15 = .ok (.iconst 1, 1) := by decide +kernel
theorem dX0_inlawSends_16 : decode cX0_inlawSends 16 = .ok (.goto 4, 3) := by decide +kernel
theorem dX0_inlawSends_19 : decode cX0_inlawSends 19 = .ok (.iconst 0, 1) := by decide +kernel
theorem dX0_inlawSends_20 : decode cX0_inlawSends 20 = .ok (.ireturn, 1) := by decide +kernel
theorem dX0_layersOf_0 : decode cX0_layersOf 0 = .ok (.iload_n 1, 1) := by decide +kernel
theorem dX0_layersOf_1 : decode cX0_layersOf 1 = .ok (.aload_n 0, 1) := by decide +kernel
theorem dX0_layersOf_2 : decode cX0_layersOf 2 = .ok (.getfield 28, 3) := by decide +kernel
theorem dX0_layersOf_5 : decode cX0_layersOf 5 = .ok (.if_icmp .eq 11, 3) := by decide +kernel
theorem dX0_layersOf_8 : decode cX0_layersOf 8 = .ok (.iload_n 2, 1) := by decide +kernel
theorem dX0_layersOf_9 : decode cX0_layersOf 9 = .ok (.aload_n 0, 1) := by decide +kernel
theorem dX0_layersOf_10 : decode cX0_layersOf 10 = .ok (.getfield 28, 3) := by decide +kernel
theorem dX0_layersOf_13 : decode cX0_layersOf 13 = .ok (.if_icmp .ne 7, 3) := by decide +kernel
theorem dX0_layersOf_16 : decode cX0_layersOf 16 = .ok (.iconst 1, 1) := by decide +kernel
theorem dX0_layersOf_17 : decode cX0_layersOf 17 = .ok (.goto 4, 3) := by decide +kernel
theorem dX0_layersOf_20 : decode cX0_layersOf 20 = .ok (.iconst 0, 1) := by decide +kernel
theorem dX0_layersOf_21 : decode cX0_layersOf 21 = .ok (.istore_n 3, 1) := by decide +kernel
theorem dX0_layersOf_22 : decode cX0_layersOf 22 = .ok (.iload_n 1, 1) := by decide +kernel
theorem dX0_layersOf_23 : decode cX0_layersOf 23 = .ok (.iload_n 2, 1) := by decide +kernel
theorem dX0_layersOf_24 : decode cX0_layersOf 24 = .ok (.if_icmp .eq 16, 3) := by decide +kernel
theorem dX0_layersOf_27 : decode cX0_layersOf 27 = .ok (.iload_n 3, 1) := by decide +kernel
theorem dX0_layersOf_28 : decode cX0_layersOf 28 = .ok (.ifCond .ne 12, 3) := by decide +kernel
theorem dX0_layersOf_31 : decode cX0_layersOf 31 = .ok (.aload_n 0, 1) := by decide +kernel
theorem dX0_layersOf_32 : decode cX0_layersOf 32 = .ok (.iload_n 1, 1) := by decide +kernel
theorem dX0_layersOf_33 : decode cX0_layersOf 33 = .ok (.iload_n 2, 1) := by decide +kernel
theorem dX0_layersOf_34 : decode cX0_layersOf 34 = .ok (.invokevirtual 65, 3) := by decide +kernel
theorem dX0_layersOf_37 : decode cX0_layersOf 37 = .ok (.ifCond .ne 5, 3) := by decide +kernel
theorem dX0_layersOf_40 : decode cX0_layersOf 40 = .ok (.iconst 0, 1) := by decide +kernel
theorem dX0_layersOf_41 : decode cX0_layersOf 41 = .ok (.ireturn, 1) := by decide +kernel
theorem dX0_layersOf_42 : decode cX0_layersOf 42 = .ok (.iconst 0, 1) := by decide +kernel
theorem dX0_layersOf_43 : decode cX0_layersOf 43 = .ok (.istore 4, 2) := by decide +kernel
theorem dX0_layersOf_45 : decode cX0_layersOf 45 = .ok (.iconst 0, 1) := by decide +kernel
theorem dX0_layersOf_46 : decode cX0_layersOf 46 = .ok (.istore 5, 2) := by decide +kernel
theorem dX0_layersOf_48 : decode cX0_layersOf 48 = .ok (.iload 5, 2) := by decide +kernel
theorem dX0_layersOf_50 : decode cX0_layersOf 50 = .ok (.bipush 8, 2) := by decide +kernel
theorem dX0_layersOf_52 : decode cX0_layersOf 52 = .ok (.if_icmp .ge 41, 3) := by decide +kernel
theorem dX0_layersOf_55 : decode cX0_layersOf 55 = .ok (.aload_n 0, 1) := by decide +kernel
theorem dX0_layersOf_56 : decode cX0_layersOf 56 = .ok (.getfield 24, 3) := by decide +kernel
theorem dX0_layersOf_59 : decode cX0_layersOf 59 = .ok (.iload 5, 2) := by decide +kernel
theorem dX0_layersOf_61 : decode cX0_layersOf 61 = .ok (.ishr, 1) := by decide +kernel
theorem dX0_layersOf_62 : decode cX0_layersOf 62 = .ok (.iconst 1, 1) := by decide +kernel
theorem dX0_layersOf_63 : decode cX0_layersOf 63 = .ok (.iand, 1) := by decide +kernel
theorem dX0_layersOf_64 : decode cX0_layersOf 64 = .ok (.ifCond .eq 23, 3) := by decide +kernel
theorem dX0_layersOf_67 : decode cX0_layersOf 67 = .ok (.aload_n 0, 1) := by decide +kernel
theorem dX0_layersOf_68 : decode cX0_layersOf 68 = .ok (.iload_n 1, 1) := by decide +kernel
theorem dX0_layersOf_69 : decode cX0_layersOf 69 = .ok (.iload_n 2, 1) := by decide +kernel
theorem dX0_layersOf_70 : decode cX0_layersOf 70 = .ok (.iload 5, 2) := by decide +kernel
theorem dX0_layersOf_72 : decode cX0_layersOf 72 = .ok (.invokevirtual 69, 3) := by decide +kernel
theorem dX0_layersOf_75 : decode cX0_layersOf 75 = .ok (.ifCond .eq 12, 3) := by decide +kernel
theorem dX0_layersOf_78 : decode cX0_layersOf 78 = .ok (.iload 4, 2) := by decide +kernel
theorem dX0_layersOf_80 : decode cX0_layersOf 80 = .ok (.iconst 1, 1) := by decide +kernel
theorem dX0_layersOf_81 : decode cX0_layersOf 81 = .ok (.iload 5, 2) := by decide +kernel
theorem dX0_layersOf_83 : decode cX0_layersOf 83 = .ok (.ishl, 1) := by decide +kernel
theorem dX0_layersOf_84 : decode cX0_layersOf 84 = .ok (.ior, 1) := by decide +kernel
theorem dX0_layersOf_85 : decode cX0_layersOf 85 = .ok (.istore 4, 2) := by decide +kernel
theorem dX0_layersOf_87 : decode cX0_layersOf 87 = .ok (.iinc 5 1, 3) := by decide +kernel
theorem dX0_layersOf_90 : decode cX0_layersOf 90 = .ok (.goto (-42), 3) := by decide +kernel
theorem dX0_layersOf_93 : decode cX0_layersOf 93 = .ok (.iload 4, 2) := by decide +kernel
theorem dX0_layersOf_95 : decode cX0_layersOf 95 = .ok (.ireturn, 1) := by decide +kernel
theorem dX0_cutsFor_0 : decode cX0_cutsFor 0 = .ok (.aload_n 0, 1) := by decide +kernel
theorem dX0_cutsFor_1 : decode cX0_cutsFor 1 = .ok (.iload_n 3, 1) := by decide +kernel
theorem dX0_cutsFor_2 : decode cX0_cutsFor 2 = .ok (.iload_n 1, 1) := by decide +kernel
theorem dX0_cutsFor_3 : decode cX0_cutsFor 3 = .ok (.iload_n 2, 1) := by decide +kernel
theorem dX0_cutsFor_4 : decode cX0_cutsFor 4 = .ok (.iload_n 1, 1) := by decide +kernel
theorem dX0_cutsFor_5 : decode cX0_cutsFor 5 = .ok (.iload_n 2, 1) := by decide +kernel
theorem dX0_cutsFor_6 : decode cX0_cutsFor 6 = .ok (.invokevirtual 51, 3) := by decide +kernel
theorem dX0_cutsFor_9 : decode cX0_cutsFor 9 = .ok (.aload_n 0, 1) := by decide +kernel
theorem dX0_cutsFor_10 : decode cX0_cutsFor 10 = .ok (.getfield 37, 3) := by decide +kernel
theorem dX0_cutsFor_13 : decode cX0_cutsFor 13 = .ok (.aload_n 0, 1) := by decide +kernel
theorem dX0_cutsFor_14 : decode cX0_cutsFor 14 = .ok (.getfield 47, 3) := by decide +kernel
theorem dX0_cutsFor_17 : decode cX0_cutsFor 17 = .ok (.aaload, 1) := by decide +kernel
theorem dX0_cutsFor_18 : decode cX0_cutsFor 18 = .ok (.iconst 0, 1) := by decide +kernel
theorem dX0_cutsFor_19 : decode cX0_cutsFor 19 = .ok (.aload_n 0, 1) := by decide +kernel
theorem dX0_cutsFor_20 : decode cX0_cutsFor 20 = .ok (.getfield 31, 3) := by decide +kernel
theorem dX0_cutsFor_23 : decode cX0_cutsFor 23 = .ok (.aload_n 0, 1) := by decide +kernel
theorem dX0_cutsFor_24 : decode cX0_cutsFor 24 = .ok (.getfield 34, 3) := by decide +kernel
theorem dX0_cutsFor_27 : decode cX0_cutsFor 27 = .ok (.invokevirtual 55, 3) := by decide +kernel
theorem dX0_cutsFor_30 : decode cX0_cutsFor 30 = .ok (.ifCond .eq 7, 3) := by decide +kernel
theorem dX0_cutsFor_33 : decode cX0_cutsFor 33 = .ok (.iconst 1, 1) := by decide +kernel
theorem dX0_cutsFor_34 : decode cX0_cutsFor 34 = .ok (.goto 4, 3) := by decide +kernel
theorem dX0_cutsFor_37 : decode cX0_cutsFor 37 = .ok (.iconst 0, 1) := by decide +kernel
theorem dX0_cutsFor_38 : decode cX0_cutsFor 38 = .ok (.istore 4, 2) := by decide +kernel
theorem dX0_cutsFor_40 : decode cX0_cutsFor 40 = .ok (.aload_n 0, 1) := by decide +kernel
theorem dX0_cutsFor_41 : decode cX0_cutsFor 41 = .ok (.getfield 9, 3) := by decide +kernel
theorem dX0_cutsFor_44 : decode cX0_cutsFor 44 = .ok (.iload_n 1, 1) := by decide +kernel
theorem dX0_cutsFor_45 : decode cX0_cutsFor 45 = .ok (.iaload, 1) := by decide +kernel
theorem dX0_cutsFor_46 : decode cX0_cutsFor 46 = .ok (.tableswitch 124 1 5 #[34, 43, 50, 73, 102], 34) := by decide +kernel
theorem dX0_cutsFor_80 : decode cX0_cutsFor 80 = .ok (.aload_n 0, 1) := by decide +kernel
theorem dX0_cutsFor_81 : decode cX0_cutsFor 81 = .ok (.iload_n 1, 1) := by decide +kernel
theorem dX0_cutsFor_82 : decode cX0_cutsFor 82 = .ok (.iload_n 3, 1) := by decide +kernel
theorem dX0_cutsFor_83 : decode cX0_cutsFor 83 = .ok (.iload 4, 2) := by decide +kernel
theorem dX0_cutsFor_85 : decode cX0_cutsFor 85 = .ok (.invokevirtual 73, 3) := by decide +kernel
theorem dX0_cutsFor_88 : decode cX0_cutsFor 88 = .ok (.ireturn, 1) := by decide +kernel
theorem dX0_cutsFor_89 : decode cX0_cutsFor 89 = .ok (.iload_n 3, 1) := by decide +kernel
theorem dX0_cutsFor_90 : decode cX0_cutsFor 90 = .ok (.iload 4, 2) := by decide +kernel
theorem dX0_cutsFor_92 : decode cX0_cutsFor 92 = .ok (.invokestatic 77, 3) := by decide +kernel
theorem dX0_cutsFor_95 : decode cX0_cutsFor 95 = .ok (.ireturn, 1) := by decide +kernel
theorem dX0_cutsFor_96 : decode cX0_cutsFor 96 = .ok (.aload_n 0, 1) := by decide +kernel
theorem dX0_cutsFor_97 : decode cX0_cutsFor 97 = .ok (.iload_n 1, 1) := by decide +kernel
theorem dX0_cutsFor_98 : decode cX0_cutsFor 98 = .ok (.iload_n 3, 1) := by decide +kernel
theorem dX0_cutsFor_99 : decode cX0_cutsFor 99 = .ok (.iload 4, 2) := by decide +kernel
theorem dX0_cutsFor_101 : decode cX0_cutsFor 101 = .ok (.invokevirtual 73, 3) := by decide +kernel
theorem dX0_cutsFor_104 : decode cX0_cutsFor 104 = .ok (.ifCond .eq 13, 3) := by decide +kernel
theorem dX0_cutsFor_107 : decode cX0_cutsFor 107 = .ok (.iload_n 3, 1) := by decide +kernel
theorem dX0_cutsFor_108 : decode cX0_cutsFor 108 = .ok (.bipush 7, 2) := by decide +kernel
theorem dX0_cutsFor_110 : decode cX0_cutsFor 110 = .ok (.if_icmp .eq 7, 3) := by decide +kernel
theorem dX0_cutsFor_113 : decode cX0_cutsFor 113 = .ok (.iconst 1, 1) := by decide +kernel
theorem dX0_cutsFor_114 : decode cX0_cutsFor 114 = .ok (.goto 4, 3) := by decide +kernel
theorem dX0_cutsFor_117 : decode cX0_cutsFor 117 = .ok (.iconst 0, 1) := by decide +kernel
theorem dX0_cutsFor_118 : decode cX0_cutsFor 118 = .ok (.ireturn, 1) := by decide +kernel
theorem dX0_cutsFor_119 : decode cX0_cutsFor 119 = .ok (.iload_n 3, 1) := by decide +kernel
theorem dX0_cutsFor_120 : decode cX0_cutsFor 120 = .ok (.iload 4, 2) := by decide +kernel
theorem dX0_cutsFor_122 : decode cX0_cutsFor 122 = .ok (.invokestatic 77, 3) := by decide +kernel
theorem dX0_cutsFor_125 : decode cX0_cutsFor 125 = .ok (.ifCond .ne 17, 3) := by decide +kernel
theorem dX0_cutsFor_128 : decode cX0_cutsFor 128 = .ok (.iload_n 3, 1) := by decide +kernel
theorem dX0_cutsFor_129 : decode cX0_cutsFor 129 = .ok (.iconst 3, 1) := by decide +kernel
theorem dX0_cutsFor_130 : decode cX0_cutsFor 130 = .ok (.if_icmp .ne 16, 3) := by decide +kernel
theorem dX0_cutsFor_133 : decode cX0_cutsFor 133 = .ok (.aload_n 0, 1) := by decide +kernel
theorem dX0_cutsFor_134 : decode cX0_cutsFor 134 = .ok (.getfield 18, 3) := by decide +kernel
theorem dX0_cutsFor_137 : decode cX0_cutsFor 137 = .ok (.iload_n 1, 1) := by decide +kernel
theorem dX0_cutsFor_138 : decode cX0_cutsFor 138 = .ok (.iaload, 1) := by decide +kernel
theorem dX0_cutsFor_139 : decode cX0_cutsFor 139 = .ok (.ifCond .ge 7, 3) := by decide +kernel
theorem dX0_cutsFor_142 : decode cX0_cutsFor 142 = .ok (.iconst 1, 1) := by decide +kernel
theorem dX0_cutsFor_143 : decode cX0_cutsFor 143 = .ok (.goto 4, 3) := by decide +kernel
theorem dX0_cutsFor_146 : decode cX0_cutsFor 146 = .ok (.iconst 0, 1) := by decide +kernel
theorem dX0_cutsFor_147 : decode cX0_cutsFor 147 = .ok (.ireturn, 1) := by decide +kernel
theorem dX0_cutsFor_148 : decode cX0_cutsFor 148 = .ok (.iload_n 3, 1) := by decide +kernel
theorem dX0_cutsFor_149 : decode cX0_cutsFor 149 = .ok (.iconst 3, 1) := by decide +kernel
theorem dX0_cutsFor_150 : decode cX0_cutsFor 150 = .ok (.if_icmp .lt 14, 3) := by decide +kernel
theorem dX0_cutsFor_153 : decode cX0_cutsFor 153 = .ok (.aload_n 0, 1) := by decide +kernel
theorem dX0_cutsFor_154 : decode cX0_cutsFor 154 = .ok (.getfield 18, 3) := by decide +kernel
theorem dX0_cutsFor_157 : decode cX0_cutsFor 157 = .ok (.iload_n 1, 1) := by decide +kernel
theorem dX0_cutsFor_158 : decode cX0_cutsFor 158 = .ok (.iaload, 1) := by decide +kernel
theorem dX0_cutsFor_159 : decode cX0_cutsFor 159 = .ok (.bipush 10, 2) := by decide +kernel
theorem dX0_cutsFor_161 : decode cX0_cutsFor 161 = .ok (.if_icmp .lt 7, 3) := by decide +kernel
theorem dX0_cutsFor_164 : decode cX0_cutsFor 164 = .ok (.iconst 1, 1) := by decide +kernel
theorem dX0_cutsFor_165 : decode cX0_cutsFor 165 = .ok (.goto 4, 3) := by decide +kernel
theorem dX0_cutsFor_168 : decode cX0_cutsFor 168 = .ok (.iconst 0, 1) := by decide +kernel
theorem dX0_cutsFor_169 : decode cX0_cutsFor 169 = .ok (.ireturn, 1) := by decide +kernel
theorem dX0_cutsFor_170 : decode cX0_cutsFor 170 = .ok (.iload 4, 2) := by decide +kernel
theorem dX0_cutsFor_172 : decode cX0_cutsFor 172 = .ok (.ireturn, 1) := by decide +kernel
theorem dX0_motherCuts_0 : decode cX0_motherCuts 0 = .ok (.iload_n 3, 1) := by decide +kernel
theorem dX0_motherCuts_1 : decode cX0_motherCuts 1 = .ok (.ifCond .ne 16, 3) := by decide +kernel
theorem dX0_motherCuts_4 : decode cX0_motherCuts 4 = .ok (.iload_n 2, 1) := by decide +kernel
theorem dX0_motherCuts_5 : decode cX0_motherCuts 5 = .ok (.aload_n 0, 1) := by decide +kernel
theorem dX0_motherCuts_6 : decode cX0_motherCuts 6 = .ok (.getfield 15, 3) := by decide +kernel
theorem dX0_motherCuts_9 : decode cX0_motherCuts 9 = .ok (.iload_n 1, 1) := by decide +kernel
theorem dX0_motherCuts_10 : decode cX0_motherCuts 10 = .ok (.iaload, 1) := by decide +kernel
theorem dX0_motherCuts_11 : decode cX0_motherCuts 11 = .ok (.bipush 8, 2) := by decide +kernel
theorem dX0_motherCuts_13 : decode cX0_motherCuts 13 = .ok (.irem, 1) := by decide +kernel
theorem dX0_motherCuts_14 : decode cX0_motherCuts 14 = .ok (.if_icmp .ne 7, 3) := by decide +kernel
theorem dX0_motherCuts_17 : decode cX0_motherCuts 17 = .ok (.iconst 1, 1) := by decide +kernel
theorem dX0_motherCuts_18 : decode cX0_motherCuts 18 = .ok (.goto 4, 3) := by decide +kernel
theorem dX0_motherCuts_21 : decode cX0_motherCuts 21 = .ok (.iconst 0, 1) := by decide +kernel
theorem dX0_motherCuts_22 : decode cX0_motherCuts 22 = .ok (.ireturn, 1) := by decide +kernel
theorem dX0_inlawCuts_0 : decode cX0_inlawCuts 0 = .ok (.iload_n 1, 1) := by decide +kernel
theorem dX0_inlawCuts_1 : decode cX0_inlawCuts 1 = .ok (.ifCond .eq 13, 3) := by decide +kernel
theorem dX0_inlawCuts_4 : decode cX0_inlawCuts 4 = .ok (.iload_n 0, 1) := by decide +kernel
theorem dX0_inlawCuts_5 : decode cX0_inlawCuts 5 = .ok (.iconst 2, 1) := by decide +kernel
theorem dX0_inlawCuts_6 : decode cX0_inlawCuts 6 = .ok (.irem, 1) := by decide +kernel
theorem dX0_inlawCuts_7 : decode cX0_inlawCuts 7 = .ok (.ifCond .ne 7, 3) := by decide +kernel
theorem dX0_inlawCuts_10 : decode cX0_inlawCuts 10 = .ok (.iconst 1, 1) := by decide +kernel
theorem dX0_inlawCuts_11 : decode cX0_inlawCuts 11 = .ok (.goto 4, 3) := by decide +kernel
theorem dX0_inlawCuts_14 : decode cX0_inlawCuts 14 = .ok (.iconst 0, 1) := by decide +kernel
theorem dX0_inlawCuts_15 : decode cX0_inlawCuts 15 = .ok (.ireturn, 1) := by decide +kernel
theorem dX0_feelsBy_0 : decode cX0_feelsBy 0 = .ok (.aload_n 0, 1) := by decide +kernel
theorem dX0_feelsBy_1 : decode cX0_feelsBy 1 = .ok (.iload_n 3, 1) := by decide +kernel
theorem dX0_feelsBy_2 : decode cX0_feelsBy 2 = .ok (.iload_n 1, 1) := by decide +kernel
theorem dX0_feelsBy_3 : decode cX0_feelsBy 3 = .ok (.iload_n 2, 1) := by decide +kernel
theorem dX0_feelsBy_4 : decode cX0_feelsBy 4 = .ok (.iload_n 2, 1) := by decide +kernel
theorem dX0_feelsBy_5 : decode cX0_feelsBy 5 = .ok (.iload_n 1, 1) := by decide +kernel
theorem dX0_feelsBy_6 : decode cX0_feelsBy 6 = .ok (.invokevirtual 51, 3) := by decide +kernel
theorem dX0_feelsBy_9 : decode cX0_feelsBy 9 = .ok (.aload_n 0, 1) := by decide +kernel
theorem dX0_feelsBy_10 : decode cX0_feelsBy 10 = .ok (.getfield 37, 3) := by decide +kernel
theorem dX0_feelsBy_13 : decode cX0_feelsBy 13 = .ok (.aload_n 0, 1) := by decide +kernel
theorem dX0_feelsBy_14 : decode cX0_feelsBy 14 = .ok (.getfield 47, 3) := by decide +kernel
theorem dX0_feelsBy_17 : decode cX0_feelsBy 17 = .ok (.aaload, 1) := by decide +kernel
theorem dX0_feelsBy_18 : decode cX0_feelsBy 18 = .ok (.iconst 1, 1) := by decide +kernel
theorem dX0_feelsBy_19 : decode cX0_feelsBy 19 = .ok (.aload_n 0, 1) := by decide +kernel
theorem dX0_feelsBy_20 : decode cX0_feelsBy 20 = .ok (.getfield 31, 3) := by decide +kernel
theorem dX0_feelsBy_23 : decode cX0_feelsBy 23 = .ok (.aload_n 0, 1) := by decide +kernel
theorem dX0_feelsBy_24 : decode cX0_feelsBy 24 = .ok (.getfield 34, 3) := by decide +kernel
theorem dX0_feelsBy_27 : decode cX0_feelsBy 27 = .ok (.invokevirtual 55, 3) := by decide +kernel
theorem dX0_feelsBy_30 : decode cX0_feelsBy 30 = .ok (.invokestatic 80, 3) := by decide +kernel
theorem dX0_feelsBy_33 : decode cX0_feelsBy 33 = .ok (.istore 4, 2) := by decide +kernel
theorem dX0_feelsBy_35 : decode cX0_feelsBy 35 = .ok (.aload_n 0, 1) := by decide +kernel
theorem dX0_feelsBy_36 : decode cX0_feelsBy 36 = .ok (.getfield 9, 3) := by decide +kernel
theorem dX0_feelsBy_39 : decode cX0_feelsBy 39 = .ok (.iload_n 1, 1) := by decide +kernel
theorem dX0_feelsBy_40 : decode cX0_feelsBy 40 = .ok (.iaload, 1) := by decide +kernel
theorem dX0_feelsBy_41 : decode cX0_feelsBy 41 = .ok (.tableswitch 94 1 5 #[35, 42, 50, 62, 82], 35) := by decide +kernel
theorem dX0_feelsBy_76 : decode cX0_feelsBy 76 = .ok (.iconst (-1), 1) := by decide +kernel
theorem dX0_feelsBy_77 : decode cX0_feelsBy 77 = .ok (.iload 4, 2) := by decide +kernel
theorem dX0_feelsBy_79 : decode cX0_feelsBy 79 = .ok (.invokestatic 84, 3) := by decide +kernel
theorem dX0_feelsBy_82 : decode cX0_feelsBy 82 = .ok (.ireturn, 1) := by decide +kernel
theorem dX0_feelsBy_83 : decode cX0_feelsBy 83 = .ok (.iconst 2, 1) := by decide +kernel
theorem dX0_feelsBy_84 : decode cX0_feelsBy 84 = .ok (.iload 4, 2) := by decide +kernel
theorem dX0_feelsBy_86 : decode cX0_feelsBy 86 = .ok (.imul, 1) := by decide +kernel
theorem dX0_feelsBy_87 : decode cX0_feelsBy 87 = .ok (.invokestatic 80, 3) := by decide +kernel
theorem dX0_feelsBy_90 : decode cX0_feelsBy 90 = .ok (.ireturn, 1) := by decide +kernel
theorem dX0_feelsBy_91 : decode cX0_feelsBy 91 = .ok (.iconst (-1), 1) := by decide +kernel
theorem dX0_feelsBy_92 : decode cX0_feelsBy 92 = .ok (.iload 4, 2) := by decide +kernel
theorem dX0_feelsBy_94 : decode cX0_feelsBy 94 = .ok (.invokestatic 84, 3) := by decide +kernel
theorem dX0_feelsBy_97 : decode cX0_feelsBy 97 = .ok (.iconst 1, 1) := by decide +kernel
theorem dX0_feelsBy_98 : decode cX0_feelsBy 98 = .ok (.iadd, 1) := by decide +kernel
theorem dX0_feelsBy_99 : decode cX0_feelsBy 99 = .ok (.invokestatic 80, 3) := by decide +kernel
theorem dX0_feelsBy_102 : decode cX0_feelsBy 102 = .ok (.ireturn, 1) := by decide +kernel
theorem dX0_feelsBy_103 : decode cX0_feelsBy 103 = .ok (.iconst 2, 1) := by decide +kernel
theorem dX0_feelsBy_104 : decode cX0_feelsBy 104 = .ok (.iload 4, 2) := by decide +kernel
theorem dX0_feelsBy_106 : decode cX0_feelsBy 106 = .ok (.imul, 1) := by decide +kernel
theorem dX0_feelsBy_107 : decode cX0_feelsBy 107 = .ok (.invokestatic 80, 3) := by decide +kernel
theorem dX0_feelsBy_110 : decode cX0_feelsBy 110 = .ok (.iconst 2, 1) := by decide +kernel
theorem dX0_feelsBy_111 : decode cX0_feelsBy 111 = .ok (.idiv, 1) := by decide +kernel
theorem dX0_feelsBy_112 : decode cX0_feelsBy 112 = .ok (.aload_n 0, 1) := by decide +kernel
theorem dX0_feelsBy_113 : decode cX0_feelsBy 113 = .ok (.getfield 15, 3) := by decide +kernel
theorem dX0_feelsBy_116 : decode cX0_feelsBy 116 = .ok (.iload_n 1, 1) := by decide +kernel
theorem dX0_feelsBy_117 : decode cX0_feelsBy 117 = .ok (.iaload, 1) := by decide +kernel
theorem dX0_feelsBy_118 : decode cX0_feelsBy 118 = .ok (.isub, 1) := by decide +kernel
theorem dX0_feelsBy_119 : decode cX0_feelsBy 119 = .ok (.invokestatic 80, 3) := by decide +kernel
theorem dX0_feelsBy_122 : decode cX0_feelsBy 122 = .ok (.ireturn, 1) := by decide +kernel
theorem dX0_feelsBy_123 : decode cX0_feelsBy 123 = .ok (.iload_n 3, 1) := by decide +kernel
theorem dX0_feelsBy_124 : decode cX0_feelsBy 124 = .ok (.iconst 4, 1) := by decide +kernel
theorem dX0_feelsBy_125 : decode cX0_feelsBy 125 = .ok (.if_icmp .lt 7, 3) := by decide +kernel
theorem dX0_feelsBy_128 : decode cX0_feelsBy 128 = .ok (.iconst 0, 1) := by decide +kernel
theorem dX0_feelsBy_129 : decode cX0_feelsBy 129 = .ok (.goto 5, 3) := by decide +kernel
theorem dX0_feelsBy_132 : decode cX0_feelsBy 132 = .ok (.iload 4, 2) := by decide +kernel
theorem dX0_feelsBy_134 : decode cX0_feelsBy 134 = .ok (.ireturn, 1) := by decide +kernel
theorem dX0_feelsBy_135 : decode cX0_feelsBy 135 = .ok (.iload 4, 2) := by decide +kernel
theorem dX0_feelsBy_137 : decode cX0_feelsBy 137 = .ok (.ireturn, 1) := by decide +kernel
theorem dX0_nameAll_0 : decode cX0_nameAll 0 = .ok (.aload_n 0, 1) := by decide +kernel
theorem dX0_nameAll_1 : decode cX0_nameAll 1 = .ok (.getfield 31, 3) := by decide +kernel
theorem dX0_nameAll_4 : decode cX0_nameAll 4 = .ok (.iconst 0, 1) := by decide +kernel
theorem dX0_nameAll_5 : decode cX0_nameAll 5 = .ok (.iload_n 1, 1) := by decide +kernel
theorem dX0_nameAll_6 : decode cX0_nameAll 6 = .ok (.iastore, 1) := by decide +kernel
theorem dX0_nameAll_7 : decode cX0_nameAll 7 = .ok (.aload_n 0, 1) := by decide +kernel
theorem dX0_nameAll_8 : decode cX0_nameAll 8 = .ok (.getfield 31, 3) := by decide +kernel
theorem dX0_nameAll_11 : decode cX0_nameAll 11 = .ok (.iconst 1, 1) := by decide +kernel
theorem dX0_nameAll_12 : decode cX0_nameAll 12 = .ok (.aload_n 0, 1) := by decide +kernel
theorem dX0_nameAll_13 : decode cX0_nameAll 13 = .ok (.getfield 18, 3) := by decide +kernel
theorem dX0_nameAll_16 : decode cX0_nameAll 16 = .ok (.iload_n 2, 1) := by decide +kernel
theorem dX0_nameAll_17 : decode cX0_nameAll 17 = .ok (.iaload, 1) := by decide +kernel
theorem dX0_nameAll_18 : decode cX0_nameAll 18 = .ok (.iastore, 1) := by decide +kernel
theorem dX0_nameAll_19 : decode cX0_nameAll 19 = .ok (.aload_n 0, 1) := by decide +kernel
theorem dX0_nameAll_20 : decode cX0_nameAll 20 = .ok (.getfield 31, 3) := by decide +kernel
theorem dX0_nameAll_23 : decode cX0_nameAll 23 = .ok (.iconst 2, 1) := by decide +kernel
theorem dX0_nameAll_24 : decode cX0_nameAll 24 = .ok (.aload_n 0, 1) := by decide +kernel
theorem dX0_nameAll_25 : decode cX0_nameAll 25 = .ok (.getfield 15, 3) := by decide +kernel
theorem dX0_nameAll_28 : decode cX0_nameAll 28 = .ok (.iload_n 2, 1) := by decide +kernel
theorem dX0_nameAll_29 : decode cX0_nameAll 29 = .ok (.iaload, 1) := by decide +kernel
theorem dX0_nameAll_30 : decode cX0_nameAll 30 = .ok (.iastore, 1) := by decide +kernel
theorem dX0_nameAll_31 : decode cX0_nameAll 31 = .ok (.aload_n 0, 1) := by decide +kernel
theorem dX0_nameAll_32 : decode cX0_nameAll 32 = .ok (.getfield 31, 3) := by decide +kernel
theorem dX0_nameAll_35 : decode cX0_nameAll 35 = .ok (.iconst 3, 1) := by decide +kernel
theorem dX0_nameAll_36 : decode cX0_nameAll 36 = .ok (.aload_n 0, 1) := by decide +kernel
theorem dX0_nameAll_37 : decode cX0_nameAll 37 = .ok (.getfield 18, 3) := by decide +kernel
theorem dX0_nameAll_40 : decode cX0_nameAll 40 = .ok (.iload_n 3, 1) := by decide +kernel
theorem dX0_nameAll_41 : decode cX0_nameAll 41 = .ok (.iaload, 1) := by decide +kernel
theorem dX0_nameAll_42 : decode cX0_nameAll 42 = .ok (.iastore, 1) := by decide +kernel
theorem dX0_nameAll_43 : decode cX0_nameAll 43 = .ok (.aload_n 0, 1) := by decide +kernel
theorem dX0_nameAll_44 : decode cX0_nameAll 44 = .ok (.getfield 31, 3) := by decide +kernel
theorem dX0_nameAll_47 : decode cX0_nameAll 47 = .ok (.iconst 4, 1) := by decide +kernel
theorem dX0_nameAll_48 : decode cX0_nameAll 48 = .ok (.iload 4, 2) := by decide +kernel
theorem dX0_nameAll_50 : decode cX0_nameAll 50 = .ok (.iastore, 1) := by decide +kernel
theorem dX0_nameAll_51 : decode cX0_nameAll 51 = .ok (.aload_n 0, 1) := by decide +kernel
theorem dX0_nameAll_52 : decode cX0_nameAll 52 = .ok (.getfield 31, 3) := by decide +kernel
theorem dX0_nameAll_55 : decode cX0_nameAll 55 = .ok (.iconst 5, 1) := by decide +kernel
theorem dX0_nameAll_56 : decode cX0_nameAll 56 = .ok (.iload 5, 2) := by decide +kernel
theorem dX0_nameAll_58 : decode cX0_nameAll 58 = .ok (.iastore, 1) := by decide +kernel
theorem dX0_nameAll_59 : decode cX0_nameAll 59 = .ok (.return_, 1) := by decide +kernel
theorem dX0_feltFrom_0 : decode cX0_feltFrom 0 = .ok (.aload_n 0, 1) := by decide +kernel
theorem dX0_feltFrom_1 : decode cX0_feltFrom 1 = .ok (.iload_n 1, 1) := by decide +kernel
theorem dX0_feltFrom_2 : decode cX0_feltFrom 2 = .ok (.iload_n 2, 1) := by decide +kernel
theorem dX0_feltFrom_3 : decode cX0_feltFrom 3 = .ok (.invokevirtual 90, 3) := by decide +kernel
theorem dX0_feltFrom_6 : decode cX0_feltFrom 6 = .ok (.istore_n 3, 1) := by decide +kernel
theorem dX0_feltFrom_7 : decode cX0_feltFrom 7 = .ok (.iconst 0, 1) := by decide +kernel
theorem dX0_feltFrom_8 : decode cX0_feltFrom 8 = .ok (.istore 4, 2) := by decide +kernel
theorem dX0_feltFrom_10 : decode cX0_feltFrom 10 = .ok (.iconst 0, 1) := by decide +kernel
theorem dX0_feltFrom_11 : decode cX0_feltFrom 11 = .ok (.istore 5, 2) := by decide +kernel
theorem dX0_feltFrom_13 : decode cX0_feltFrom 13 = .ok (.iload 5, 2) := by decide +kernel
theorem dX0_feltFrom_15 : decode cX0_feltFrom 15 = .ok (.bipush 8, 2) := by decide +kernel
theorem dX0_feltFrom_17 : decode cX0_feltFrom 17 = .ok (.if_icmp .ge 31, 3) := by decide +kernel
theorem dX0_feltFrom_20 : decode cX0_feltFrom 20 = .ok (.iload_n 3, 1) := by decide +kernel
theorem dX0_feltFrom_21 : decode cX0_feltFrom 21 = .ok (.iload 5, 2) := by decide +kernel
theorem dX0_feltFrom_23 : decode cX0_feltFrom 23 = .ok (.ishr, 1) := by decide +kernel
theorem dX0_feltFrom_24 : decode cX0_feltFrom 24 = .ok (.iconst 1, 1) := by decide +kernel
theorem dX0_feltFrom_25 : decode cX0_feltFrom 25 = .ok (.iand, 1) := by decide +kernel
theorem dX0_feltFrom_26 : decode cX0_feltFrom 26 = .ok (.ifCond .eq 16, 3) := by decide +kernel
theorem dX0_feltFrom_29 : decode cX0_feltFrom 29 = .ok (.iload 4, 2) := by decide +kernel
theorem dX0_feltFrom_31 : decode cX0_feltFrom 31 = .ok (.aload_n 0, 1) := by decide +kernel
theorem dX0_feltFrom_32 : decode cX0_feltFrom 32 = .ok (.iload_n 2, 1) := by decide +kernel
theorem dX0_feltFrom_33 : decode cX0_feltFrom 33 = .ok (.iload_n 1, 1) := by decide +kernel
theorem dX0_feltFrom_34 : decode cX0_feltFrom 34 = .ok (.iload 5, 2) := by decide +kernel
theorem dX0_feltFrom_36 : decode cX0_feltFrom 36 = .ok (.invokevirtual 93, 3) := by decide +kernel
theorem dX0_feltFrom_39 : decode cX0_feltFrom 39 = .ok (.iadd, 1) := by decide +kernel
theorem dX0_feltFrom_40 : decode cX0_feltFrom 40 = .ok (.istore 4, 2) := by decide +kernel
theorem dX0_feltFrom_42 : decode cX0_feltFrom 42 = .ok (.iinc 5 1, 3) := by decide +kernel
theorem dX0_feltFrom_45 : decode cX0_feltFrom 45 = .ok (.goto (-32), 3) := by decide +kernel
theorem dX0_feltFrom_48 : decode cX0_feltFrom 48 = .ok (.iload 4, 2) := by decide +kernel
theorem dX0_feltFrom_50 : decode cX0_feltFrom 50 = .ok (.ireturn, 1) := by decide +kernel
theorem dX0_passSunday_0 : decode cX0_passSunday 0 = .ok (.iconst 0, 1) := by decide +kernel
theorem dX0_passSunday_1 : decode cX0_passSunday 1 = .ok (.istore_n 1, 1) := by decide +kernel
theorem dX0_passSunday_2 : decode cX0_passSunday 2 = .ok (.iload_n 1, 1) := by decide +kernel
theorem dX0_passSunday_3 : decode cX0_passSunday 3 = .ok (.aload_n 0, 1) := by decide +kernel
theorem dX0_passSunday_4 : decode cX0_passSunday 4 = .ok (.getfield 41, 3) := by decide +kernel
theorem dX0_passSunday_7 : decode cX0_passSunday 7 = .ok (.if_icmp .ge 47, 3) := by decide +kernel
theorem dX0_passSunday_10 : decode cX0_passSunday 10 = .ok (.aload_n 0, 1) := by decide +kernel
theorem dX0_passSunday_11 : decode cX0_passSunday 11 = .ok (.getfield 21, 3) := by decide +kernel
theorem dX0_passSunday_14 : decode cX0_passSunday 14 = .ok (.iload_n 1, 1) := by decide +kernel
theorem dX0_passSunday_15 : decode cX0_passSunday 15 = .ok (.iconst 0, 1) := by decide +kernel
theorem dX0_passSunday_16 : decode cX0_passSunday 16 = .ok (.iastore, 1) := by decide +kernel
theorem dX0_passSunday_17 : decode cX0_passSunday 17 = .ok (.iconst 0, 1) := by decide +kernel
theorem dX0_passSunday_18 : decode cX0_passSunday 18 = .ok (.istore_n 2, 1) := by decide +kernel
theorem dX0_passSunday_19 : decode cX0_passSunday 19 = .ok (.iload_n 2, 1) := by decide +kernel
theorem dX0_passSunday_20 : decode cX0_passSunday 20 = .ok (.aload_n 0, 1) := by decide +kernel
theorem dX0_passSunday_21 : decode cX0_passSunday 21 = .ok (.getfield 41, 3) := by decide +kernel
theorem dX0_passSunday_24 : decode cX0_passSunday 24 = .ok (.if_icmp .ge 24, 3) := by decide +kernel
theorem dX0_passSunday_27 : decode cX0_passSunday 27 = .ok (.aload_n 0, 1) := by decide +kernel
theorem dX0_passSunday_28 : decode cX0_passSunday 28 = .ok (.getfield 21, 3) := by decide +kernel
theorem dX0_passSunday_31 : decode cX0_passSunday 31 = .ok (.iload_n 1, 1) := by decide +kernel
theorem dX0_passSunday_32 : decode cX0_passSunday 32 = .ok (.dup2, 1) := by decide +kernel
theorem dX0_passSunday_33 : decode cX0_passSunday 33 = .ok (.iaload, 1) := by decide +kernel
theorem dX0_passSunday_34 : decode cX0_passSunday 34 = .ok (.aload_n 0, 1) := by decide +kernel
theorem dX0_passSunday_35 : decode cX0_passSunday 35 = .ok (.iload_n 2, 1) := by decide +kernel
theorem dX0_passSunday_36 : decode cX0_passSunday 36 = .ok (.iload_n 1, 1) := by decide +kernel
theorem dX0_passSunday_37 : decode cX0_passSunday 37 = .ok (.invokevirtual 97, 3) := by decide +kernel
theorem dX0_passSunday_40 : decode cX0_passSunday 40 = .ok (.iadd, 1) := by decide +kernel
theorem dX0_passSunday_41 : decode cX0_passSunday 41 = .ok (.iastore, 1) := by decide +kernel
theorem dX0_passSunday_42 : decode cX0_passSunday 42 = .ok (.iinc 2 1, 3) := by decide +kernel
theorem dX0_passSunday_45 : decode cX0_passSunday 45 = .ok (.goto (-26), 3) := by decide +kernel
theorem dX0_passSunday_48 : decode cX0_passSunday 48 = .ok (.iinc 1 1, 3) := by decide +kernel
theorem dX0_passSunday_51 : decode cX0_passSunday 51 = .ok (.goto (-49), 3) := by decide +kernel
theorem dX0_passSunday_54 : decode cX0_passSunday 54 = .ok (.iconst 0, 1) := by decide +kernel
theorem dX0_passSunday_55 : decode cX0_passSunday 55 = .ok (.istore_n 1, 1) := by decide +kernel
theorem dX0_passSunday_56 : decode cX0_passSunday 56 = .ok (.iconst 0, 1) := by decide +kernel
theorem dX0_passSunday_57 : decode cX0_passSunday 57 = .ok (.istore_n 2, 1) := by decide +kernel
theorem dX0_passSunday_58 : decode cX0_passSunday 58 = .ok (.iload_n 2, 1) := by decide +kernel
theorem dX0_passSunday_59 : decode cX0_passSunday 59 = .ok (.aload_n 0, 1) := by decide +kernel
theorem dX0_passSunday_60 : decode cX0_passSunday 60 = .ok (.getfield 41, 3) := by decide +kernel
theorem dX0_passSunday_63 : decode cX0_passSunday 63 = .ok (.if_icmp .ge 53, 3) := by decide +kernel
theorem dX0_passSunday_66 : decode cX0_passSunday 66 = .ok (.aload_n 0, 1) := by decide +kernel
theorem dX0_passSunday_67 : decode cX0_passSunday 67 = .ok (.getfield 18, 3) := by decide +kernel
theorem dX0_passSunday_70 : decode cX0_passSunday 70 = .ok (.iload_n 2, 1) := by decide +kernel
theorem dX0_passSunday_71 : decode cX0_passSunday 71 = .ok (.iaload, 1) := by decide +kernel
theorem dX0_passSunday_72 : decode cX0_passSunday 72 = .ok (.aload_n 0, 1) := by decide +kernel
theorem dX0_passSunday_73 : decode cX0_passSunday 73 = .ok (.getfield 21, 3) := by decide +kernel
theorem dX0_passSunday_76 : decode cX0_passSunday 76 = .ok (.iload_n 2, 1) := by decide +kernel
theorem dX0_passSunday_77 : decode cX0_passSunday 77 = .ok (.iaload, 1) := by decide +kernel
theorem dX0_passSunday_78 : decode cX0_passSunday 78 = .ok (.iadd, 1) := by decide +kernel
theorem dX0_passSunday_79 : decode cX0_passSunday 79 = .ok (.invokestatic 80, 3) := by decide +kernel
theorem dX0_passSunday_82 : decode cX0_passSunday 82 = .ok (.istore_n 3, 1) := by decide +kernel
theorem dX0_passSunday_83 : decode cX0_passSunday 83 = .ok (.iload_n 1, 1) := by decide +kernel
theorem dX0_passSunday_84 : decode cX0_passSunday 84 = .ok (.ifCond .ne 13, 3) := by decide +kernel
theorem dX0_passSunday_87 : decode cX0_passSunday 87 = .ok (.iload_n 3, 1) := by decide +kernel
theorem dX0_passSunday_88 : decode cX0_passSunday 88 = .ok (.aload_n 0, 1) := by decide +kernel
theorem dX0_passSunday_89 : decode cX0_passSunday 89 = .ok (.getfield 18, 3) := by decide +kernel
theorem dX0_passSunday_92 : decode cX0_passSunday 92 = .ok (.iload_n 2, 1) := by decide +kernel
theorem dX0_passSunday_93 : decode cX0_passSunday 93 = .ok (.iaload, 1) := by decide +kernel
theorem dX0_passSunday_94 : decode cX0_passSunday 94 = .ok (.if_icmp .eq 7, 3) := by decide +kernel
theorem dX0_passSunday_97 : decode cX0_passSunday 97 = .ok (.iconst 1, 1) := by decide +kernel
theorem dX0_passSunday_98 : decode cX0_passSunday 98 = .ok (.goto 4, 3) := by decide +kernel
theorem dX0_passSunday_101 : decode cX0_passSunday 101 = .ok (.iconst 0, 1) := by decide +kernel
theorem dX0_passSunday_102 : decode cX0_passSunday 102 = .ok (.istore_n 1, 1) := by decide +kernel
theorem dX0_passSunday_103 : decode cX0_passSunday 103 = .ok (.aload_n 0, 1) := by decide +kernel
theorem dX0_passSunday_104 : decode cX0_passSunday 104 = .ok (.getfield 18, 3) := by decide +kernel
theorem dX0_passSunday_107 : decode cX0_passSunday 107 = .ok (.iload_n 2, 1) := by decide +kernel
theorem dX0_passSunday_108 : decode cX0_passSunday 108 = .ok (.iload_n 3, 1) := by decide +kernel
theorem dX0_passSunday_109 : decode cX0_passSunday 109 = .ok (.iastore, 1) := by decide +kernel
theorem dX0_passSunday_110 : decode cX0_passSunday 110 = .ok (.iinc 2 1, 3) := by decide +kernel
theorem dX0_passSunday_113 : decode cX0_passSunday 113 = .ok (.goto (-55), 3) := by decide +kernel
theorem dX0_passSunday_116 : decode cX0_passSunday 116 = .ok (.iload_n 1, 1) := by decide +kernel
theorem dX0_passSunday_117 : decode cX0_passSunday 117 = .ok (.ireturn, 1) := by decide +kernel
theorem dX0_gladBehind_0 : decode cX0_gladBehind 0 = .ok (.iconst 1, 1) := by decide +kernel
theorem dX0_gladBehind_1 : decode cX0_gladBehind 1 = .ok (.istore_n 2, 1) := by decide +kernel
theorem dX0_gladBehind_2 : decode cX0_gladBehind 2 = .ok (.iconst 0, 1) := by decide +kernel
theorem dX0_gladBehind_3 : decode cX0_gladBehind 3 = .ok (.istore_n 3, 1) := by decide +kernel
theorem dX0_gladBehind_4 : decode cX0_gladBehind 4 = .ok (.iload_n 3, 1) := by decide +kernel
theorem dX0_gladBehind_5 : decode cX0_gladBehind 5 = .ok (.iload_n 1, 1) := by decide +kernel
theorem dX0_gladBehind_6 : decode cX0_gladBehind 6 = .ok (.if_icmp .ge 18, 3) := by decide +kernel
theorem dX0_gladBehind_9 : decode cX0_gladBehind 9 = .ok (.iload_n 2, 1) := by decide +kernel
theorem dX0_gladBehind_10 : decode cX0_gladBehind 10 = .ok (.ifCond .eq 14, 3) := by decide +kernel
theorem dX0_gladBehind_13 : decode cX0_gladBehind 13 = .ok (.aload_n 0, 1) := by decide +kernel
theorem dX0_gladBehind_14 : decode cX0_gladBehind 14 = .ok (.invokevirtual 100, 3) := by decide +kernel
theorem dX0_gladBehind_17 : decode cX0_gladBehind 17 = .ok (.istore_n 2, 1) := by decide +kernel
theorem dX0_gladBehind_18 : decode cX0_gladBehind 18 = .ok (.iinc 3 1, 3) := by decide +kernel
theorem dX0_gladBehind_21 : decode cX0_gladBehind 21 = .ok (.goto (-17), 3) := by decide +kernel
theorem dX0_gladBehind_24 : decode cX0_gladBehind 24 = .ok (.aload_n 0, 1) := by decide +kernel
theorem dX0_gladBehind_25 : decode cX0_gladBehind 25 = .ok (.invokevirtual 104, 3) := by decide +kernel
theorem dX0_gladBehind_28 : decode cX0_gladBehind 28 = .ok (.ireturn, 1) := by decide +kernel
theorem dX0_emptyBehind_0 : decode cX0_emptyBehind 0 = .ok (.iconst 0, 1) := by decide +kernel
theorem dX0_emptyBehind_1 : decode cX0_emptyBehind 1 = .ok (.istore_n 2, 1) := by decide +kernel
theorem dX0_emptyBehind_2 : decode cX0_emptyBehind 2 = .ok (.iconst 0, 1) := by decide +kernel
theorem dX0_emptyBehind_3 : decode cX0_emptyBehind 3 = .ok (.istore_n 3, 1) := by decide +kernel
theorem dX0_emptyBehind_4 : decode cX0_emptyBehind 4 = .ok (.iload_n 3, 1) := by decide +kernel
theorem dX0_emptyBehind_5 : decode cX0_emptyBehind 5 = .ok (.iload_n 1, 1) := by decide +kernel
theorem dX0_emptyBehind_6 : decode cX0_emptyBehind 6 = .ok (.if_icmp .ge 48, 3) := by decide +kernel
theorem dX0_emptyBehind_9 : decode cX0_emptyBehind 9 = .ok (.iconst 0, 1) := by decide +kernel
theorem dX0_emptyBehind_10 : decode cX0_emptyBehind 10 = .ok (.istore 4, 2) := by decide +kernel
theorem dX0_emptyBehind_12 : decode cX0_emptyBehind 12 = .ok (.iload 4, 2) := by decide +kernel
theorem dX0_emptyBehind_14 : decode cX0_emptyBehind 14 = .ok (.aload_n 0, 1) := by decide +kernel
theorem dX0_emptyBehind_15 : decode cX0_emptyBehind 15 = .ok (.getfield 41, 3) := by decide +kernel
theorem dX0_emptyBehind_18 : decode cX0_emptyBehind 18 = .ok (.if_icmp .ge 25, 3) := by decide +kernel
theorem dX0_emptyBehind_21 : decode cX0_emptyBehind 21 = .ok (.iload_n 2, 1) := by decide +kernel
theorem dX0_emptyBehind_22 : decode cX0_emptyBehind 22 = .ok (.aload_n 0, 1) := by decide +kernel
theorem dX0_emptyBehind_23 : decode cX0_emptyBehind 23 = .ok (.getfield 41, 3) := by decide +kernel
theorem dX0_emptyBehind_26 : decode cX0_emptyBehind 26 = .ok (.iconst 1, 1) := by decide +kernel
theorem dX0_emptyBehind_27 : decode cX0_emptyBehind 27 = .ok (.isub, 1) := by decide +kernel
theorem dX0_emptyBehind_28 : decode cX0_emptyBehind 28 = .ok (.aload_n 0, 1) := by decide +kernel
theorem dX0_emptyBehind_29 : decode cX0_emptyBehind 29 = .ok (.iload 4, 2) := by decide +kernel
theorem dX0_emptyBehind_31 : decode cX0_emptyBehind 31 = .ok (.invokevirtual 108, 3) := by decide +kernel
theorem dX0_emptyBehind_34 : decode cX0_emptyBehind 34 = .ok (.isub, 1) := by decide +kernel
theorem dX0_emptyBehind_35 : decode cX0_emptyBehind 35 = .ok (.iadd, 1) := by decide +kernel
theorem dX0_emptyBehind_36 : decode cX0_emptyBehind 36 = .ok (.istore_n 2, 1) := by decide +kernel
theorem dX0_emptyBehind_37 : decode cX0_emptyBehind 37 = .ok (.iinc 4 1, 3) := by decide +kernel
theorem dX0_emptyBehind_40 : decode cX0_emptyBehind 40 = .ok (.goto (-28), 3) := by decide +kernel
theorem dX0_emptyBehind_43 : decode cX0_emptyBehind 43 = .ok (.aload_n 0, 1) := by decide +kernel
theorem dX0_emptyBehind_44 : decode cX0_emptyBehind 44 = .ok (.invokevirtual 100, 3) := by decide +kernel
theorem dX0_emptyBehind_47 : decode cX0_emptyBehind 47 = .ok (.pop, 1) := by decide +kernel
theorem dX0_emptyBehind_48 : decode cX0_emptyBehind 48 = .ok (.iinc 3 1, 3) := by decide +kernel
theorem dX0_emptyBehind_51 : decode cX0_emptyBehind 51 = .ok (.goto (-47), 3) := by decide +kernel
theorem dX0_emptyBehind_54 : decode cX0_emptyBehind 54 = .ok (.iload_n 2, 1) := by decide +kernel
theorem dX0_emptyBehind_55 : decode cX0_emptyBehind 55 = .ok (.ireturn, 1) := by decide +kernel
theorem dX0_firstOtherwise_0 : decode cX0_firstOtherwise 0 = .ok (.iconst 0, 1) := by decide +kernel
theorem dX0_firstOtherwise_1 : decode cX0_firstOtherwise 1 = .ok (.istore_n 3, 1) := by decide +kernel
theorem dX0_firstOtherwise_2 : decode cX0_firstOtherwise 2 = .ok (.iload_n 3, 1) := by decide +kernel
theorem dX0_firstOtherwise_3 : decode cX0_firstOtherwise 3 = .ok (.aload_n 1, 1) := by decide +kernel
theorem dX0_firstOtherwise_4 : decode cX0_firstOtherwise 4 = .ok (.getfield 111, 3) := by decide +kernel
theorem dX0_firstOtherwise_7 : decode cX0_firstOtherwise 7 = .ok (.if_icmp .ge 31, 3) := by decide +kernel
theorem dX0_firstOtherwise_10 : decode cX0_firstOtherwise 10 = .ok (.aload_n 0, 1) := by decide +kernel
theorem dX0_firstOtherwise_11 : decode cX0_firstOtherwise 11 = .ok (.invokevirtual 100, 3) := by decide +kernel
theorem dX0_firstOtherwise_14 : decode cX0_firstOtherwise 14 = .ok (.pop, 1) := by decide +kernel
theorem dX0_firstOtherwise_15 : decode cX0_firstOtherwise 15 = .ok (.aload_n 1, 1) := by decide +kernel
theorem dX0_firstOtherwise_16 : decode cX0_firstOtherwise 16 = .ok (.getfield 114, 3) := by decide +kernel
theorem dX0_firstOtherwise_19 : decode cX0_firstOtherwise 19 = .ok (.iload_n 3, 1) := by decide +kernel
theorem dX0_firstOtherwise_20 : decode cX0_firstOtherwise 20 = .ok (.iaload, 1) := by decide +kernel
theorem dX0_firstOtherwise_21 : decode cX0_firstOtherwise 21 = .ok (.aload_n 0, 1) := by decide +kernel
theorem dX0_firstOtherwise_22 : decode cX0_firstOtherwise 22 = .ok (.getfield 18, 3) := by decide +kernel
theorem dX0_firstOtherwise_25 : decode cX0_firstOtherwise 25 = .ok (.iload_n 2, 1) := by decide +kernel
theorem dX0_firstOtherwise_26 : decode cX0_firstOtherwise 26 = .ok (.iaload, 1) := by decide +kernel
theorem dX0_firstOtherwise_27 : decode cX0_firstOtherwise 27 = .ok (.if_icmp .eq 5, 3) := by decide +kernel
theorem dX0_firstOtherwise_30 : decode cX0_firstOtherwise 30 = .ok (.iload_n 3, 1) := by decide +kernel
theorem dX0_firstOtherwise_31 : decode cX0_firstOtherwise 31 = .ok (.ireturn, 1) := by decide +kernel
theorem dX0_firstOtherwise_32 : decode cX0_firstOtherwise 32 = .ok (.iinc 3 1, 3) := by decide +kernel
theorem dX0_firstOtherwise_35 : decode cX0_firstOtherwise 35 = .ok (.goto (-33), 3) := by decide +kernel
theorem dX0_firstOtherwise_38 : decode cX0_firstOtherwise 38 = .ok (.iconst (-1), 1) := by decide +kernel
theorem dX0_firstOtherwise_39 : decode cX0_firstOtherwise 39 = .ok (.ireturn, 1) := by decide +kernel
theorem dX0_filledFrom_0 : decode cX0_filledFrom 0 = .ok (.iconst 0, 1) := by decide +kernel
theorem dX0_filledFrom_1 : decode cX0_filledFrom 1 = .ok (.istore_n 2, 1) := by decide +kernel
theorem dX0_filledFrom_2 : decode cX0_filledFrom 2 = .ok (.iconst 0, 1) := by decide +kernel
theorem dX0_filledFrom_3 : decode cX0_filledFrom 3 = .ok (.istore_n 3, 1) := by decide +kernel
theorem dX0_filledFrom_4 : decode cX0_filledFrom 4 = .ok (.iload_n 3, 1) := by decide +kernel
theorem dX0_filledFrom_5 : decode cX0_filledFrom 5 = .ok (.aload_n 0, 1) := by decide +kernel
theorem dX0_filledFrom_6 : decode cX0_filledFrom 6 = .ok (.getfield 41, 3) := by decide +kernel
theorem dX0_filledFrom_9 : decode cX0_filledFrom 9 = .ok (.if_icmp .ge 21, 3) := by decide +kernel
theorem dX0_filledFrom_12 : decode cX0_filledFrom 12 = .ok (.aload_n 0, 1) := by decide +kernel
theorem dX0_filledFrom_13 : decode cX0_filledFrom 13 = .ok (.iload_n 1, 1) := by decide +kernel
theorem dX0_filledFrom_14 : decode cX0_filledFrom 14 = .ok (.iload_n 3, 1) := by decide +kernel
theorem dX0_filledFrom_15 : decode cX0_filledFrom 15 = .ok (.invokevirtual 90, 3) := by decide +kernel
theorem dX0_filledFrom_18 : decode cX0_filledFrom 18 = .ok (.ifCond .eq 6, 3) := by decide +kernel
theorem dX0_filledFrom_21 : decode cX0_filledFrom 21 = .ok (.iinc 2 1, 3) := by decide +kernel
theorem dX0_filledFrom_24 : decode cX0_filledFrom 24 = .ok (.iinc 3 1, 3) := by decide +kernel
theorem dX0_filledFrom_27 : decode cX0_filledFrom 27 = .ok (.goto (-23), 3) := by decide +kernel
theorem dX0_filledFrom_30 : decode cX0_filledFrom 30 = .ok (.iload_n 2, 1) := by decide +kernel
theorem dX0_filledFrom_31 : decode cX0_filledFrom 31 = .ok (.ireturn, 1) := by decide +kernel
theorem dX0_layersTo_0 : decode cX0_layersTo 0 = .ok (.iconst 0, 1) := by decide +kernel
theorem dX0_layersTo_1 : decode cX0_layersTo 1 = .ok (.istore_n 2, 1) := by decide +kernel
theorem dX0_layersTo_2 : decode cX0_layersTo 2 = .ok (.iconst 0, 1) := by decide +kernel
theorem dX0_layersTo_3 : decode cX0_layersTo 3 = .ok (.istore_n 3, 1) := by decide +kernel
theorem dX0_layersTo_4 : decode cX0_layersTo 4 = .ok (.iload_n 3, 1) := by decide +kernel
theorem dX0_layersTo_5 : decode cX0_layersTo 5 = .ok (.aload_n 0, 1) := by decide +kernel
theorem dX0_layersTo_6 : decode cX0_layersTo 6 = .ok (.getfield 41, 3) := by decide +kernel
theorem dX0_layersTo_9 : decode cX0_layersTo 9 = .ok (.if_icmp .ge 21, 3) := by decide +kernel
theorem dX0_layersTo_12 : decode cX0_layersTo 12 = .ok (.iload_n 2, 1) := by decide +kernel
theorem dX0_layersTo_13 : decode cX0_layersTo 13 = .ok (.aload_n 0, 1) := by decide +kernel
theorem dX0_layersTo_14 : decode cX0_layersTo 14 = .ok (.iload_n 3, 1) := by decide +kernel
theorem dX0_layersTo_15 : decode cX0_layersTo 15 = .ok (.iload_n 1, 1) := by decide +kernel
theorem dX0_layersTo_16 : decode cX0_layersTo 16 = .ok (.invokevirtual 90, 3) := by decide +kernel
theorem dX0_layersTo_19 : decode cX0_layersTo 19 = .ok (.invokestatic 117, 3) := by decide +kernel
theorem dX0_layersTo_22 : decode cX0_layersTo 22 = .ok (.iadd, 1) := by decide +kernel
theorem dX0_layersTo_23 : decode cX0_layersTo 23 = .ok (.istore_n 2, 1) := by decide +kernel
theorem dX0_layersTo_24 : decode cX0_layersTo 24 = .ok (.iinc 3 1, 3) := by decide +kernel
theorem dX0_layersTo_27 : decode cX0_layersTo 27 = .ok (.goto (-23), 3) := by decide +kernel
theorem dX0_layersTo_30 : decode cX0_layersTo 30 = .ok (.iload_n 2, 1) := by decide +kernel
theorem dX0_layersTo_31 : decode cX0_layersTo 31 = .ok (.ireturn, 1) := by decide +kernel
theorem dX0_lettuceCount_0 : decode cX0_lettuceCount 0 = .ok (.iconst 0, 1) := by decide +kernel
theorem dX0_lettuceCount_1 : decode cX0_lettuceCount 1 = .ok (.istore_n 1, 1) := by decide +kernel
theorem dX0_lettuceCount_2 : decode cX0_lettuceCount 2 = .ok (.iconst 0, 1) := by decide +kernel
theorem dX0_lettuceCount_3 : decode cX0_lettuceCount 3 = .ok (.istore_n 2, 1) := by decide +kernel
theorem dX0_lettuceCount_4 : decode cX0_lettuceCount 4 = .ok (.iload_n 2, 1) := by decide +kernel
theorem dX0_lettuceCount_5 : decode cX0_lettuceCount 5 = .ok (.aload_n 0, 1) := by decide +kernel
theorem dX0_lettuceCount_6 : decode cX0_lettuceCount 6 = .ok (.getfield 41, 3) := by decide +kernel
theorem dX0_lettuceCount_9 : decode cX0_lettuceCount 9 = .ok (.if_icmp .ge 38, 3) := by decide +kernel
theorem dX0_lettuceCount_12 : decode cX0_lettuceCount 12 = .ok (.iconst 0, 1) := by decide +kernel
theorem dX0_lettuceCount_13 : decode cX0_lettuceCount 13 = .ok (.istore_n 3, 1) := by decide +kernel
theorem dX0_lettuceCount_14 : decode cX0_lettuceCount 14 = .ok (.iload_n 3, 1) := by decide +kernel
theorem dX0_lettuceCount_15 : decode cX0_lettuceCount 15 = .ok (.aload_n 0, 1) := by decide +kernel
theorem dX0_lettuceCount_16 : decode cX0_lettuceCount 16 = .ok (.getfield 41, 3) := by decide +kernel
theorem dX0_lettuceCount_19 : decode cX0_lettuceCount 19 = .ok (.if_icmp .ge 22, 3) := by decide +kernel
theorem dX0_lettuceCount_22 : decode cX0_lettuceCount 22 = .ok (.aload_n 0, 1) := by decide +kernel
theorem dX0_lettuceCount_23 : decode cX0_lettuceCount 23 = .ok (.iload_n 2, 1) := by decide +kernel
theorem dX0_lettuceCount_24 : decode cX0_lettuceCount 24 = .ok (.iload_n 3, 1) := by decide +kernel
theorem dX0_lettuceCount_25 : decode cX0_lettuceCount 25 = .ok (.invokevirtual 90, 3) := by decide +kernel
theorem dX0_lettuceCount_28 : decode cX0_lettuceCount 28 = .ok (.iconst 1, 1) := by decide +kernel
theorem dX0_lettuceCount_29 : decode cX0_lettuceCount 29 = .ok (.if_icmp .ne 6, 3) := by decide +kernel
theorem dX0_lettuceCount_32 : decode cX0_lettuceCount 32 = .ok (.iinc 1 1, 3) := by decide +kernel
theorem dX0_lettuceCount_35 : decode cX0_lettuceCount 35 = .ok (.iinc 3 1, 3) := by decide +kernel
theorem dX0_lettuceCount_38 : decode cX0_lettuceCount 38 = .ok (.goto (-24), 3) := by decide +kernel
theorem dX0_lettuceCount_41 : decode cX0_lettuceCount 41 = .ok (.iinc 2 1, 3) := by decide +kernel
theorem dX0_lettuceCount_44 : decode cX0_lettuceCount 44 = .ok (.goto (-40), 3) := by decide +kernel
theorem dX0_lettuceCount_47 : decode cX0_lettuceCount 47 = .ok (.iload_n 1, 1) := by decide +kernel
theorem dX0_lettuceCount_48 : decode cX0_lettuceCount 48 = .ok (.ireturn, 1) := by decide +kernel
theorem dX0_lettuceFirst_0 : decode cX0_lettuceFirst 0 = .ok (.iconst 0, 1) := by decide +kernel
theorem dX0_lettuceFirst_1 : decode cX0_lettuceFirst 1 = .ok (.istore_n 1, 1) := by decide +kernel
theorem dX0_lettuceFirst_2 : decode cX0_lettuceFirst 2 = .ok (.iload_n 1, 1) := by decide +kernel
theorem dX0_lettuceFirst_3 : decode cX0_lettuceFirst 3 = .ok (.aload_n 0, 1) := by decide +kernel
theorem dX0_lettuceFirst_4 : decode cX0_lettuceFirst 4 = .ok (.getfield 41, 3) := by decide +kernel
theorem dX0_lettuceFirst_7 : decode cX0_lettuceFirst 7 = .ok (.if_icmp .ge 42, 3) := by decide +kernel
theorem dX0_lettuceFirst_10 : decode cX0_lettuceFirst 10 = .ok (.iconst 0, 1) := by decide +kernel
theorem dX0_lettuceFirst_11 : decode cX0_lettuceFirst 11 = .ok (.istore_n 2, 1) := by decide +kernel
theorem dX0_lettuceFirst_12 : decode cX0_lettuceFirst 12 = .ok (.iload_n 2, 1) := by decide +kernel
theorem dX0_lettuceFirst_13 : decode cX0_lettuceFirst 13 = .ok (.aload_n 0, 1) := by decide +kernel
theorem dX0_lettuceFirst_14 : decode cX0_lettuceFirst 14 = .ok (.getfield 41, 3) := by decide +kernel
theorem dX0_lettuceFirst_17 : decode cX0_lettuceFirst 17 = .ok (.if_icmp .ge 26, 3) := by decide +kernel
theorem dX0_lettuceFirst_20 : decode cX0_lettuceFirst 20 = .ok (.aload_n 0, 1) := by decide +kernel
theorem dX0_lettuceFirst_21 : decode cX0_lettuceFirst 21 = .ok (.iload_n 1, 1) := by decide +kernel
theorem dX0_lettuceFirst_22 : decode cX0_lettuceFirst 22 = .ok (.iload_n 2, 1) := by decide +kernel
theorem dX0_lettuceFirst_23 : decode cX0_lettuceFirst 23 = .ok (.invokevirtual 90, 3) := by decide +kernel
theorem dX0_lettuceFirst_26 : decode cX0_lettuceFirst 26 = .ok (.iconst 1, 1) := by decide +kernel
theorem dX0_lettuceFirst_27 : decode cX0_lettuceFirst 27 = .ok (.if_icmp .ne 10, 3) := by decide +kernel
theorem dX0_lettuceFirst_30 : decode cX0_lettuceFirst 30 = .ok (.bipush 10, 2) := by decide +kernel
theorem dX0_lettuceFirst_32 : decode cX0_lettuceFirst 32 = .ok (.iload_n 1, 1) := by decide +kernel
theorem dX0_lettuceFirst_33 : decode cX0_lettuceFirst 33 = .ok (.imul, 1) := by decide +kernel
theorem dX0_lettuceFirst_34 : decode cX0_lettuceFirst 34 = .ok (.iload_n 2, 1) := by decide +kernel
theorem dX0_lettuceFirst_35 : decode cX0_lettuceFirst 35 = .ok (.iadd, 1) := by decide +kernel
theorem dX0_lettuceFirst_36 : decode cX0_lettuceFirst 36 = .ok (.ireturn, 1) := by decide +kernel
theorem dX0_lettuceFirst_37 : decode cX0_lettuceFirst 37 = .ok (.iinc 2 1, 3) := by decide +kernel
theorem dX0_lettuceFirst_40 : decode cX0_lettuceFirst 40 = .ok (.goto (-28), 3) := by decide +kernel
theorem dX0_lettuceFirst_43 : decode cX0_lettuceFirst 43 = .ok (.iinc 1 1, 3) := by decide +kernel
theorem dX0_lettuceFirst_46 : decode cX0_lettuceFirst 46 = .ok (.goto (-44), 3) := by decide +kernel
theorem dX0_lettuceFirst_49 : decode cX0_lettuceFirst 49 = .ok (.iconst (-1), 1) := by decide +kernel
theorem dX0_lettuceFirst_50 : decode cX0_lettuceFirst 50 = .ok (.ireturn, 1) := by decide +kernel
theorem dX0_leftAlone_0 : decode cX0_leftAlone 0 = .ok (.iconst 0, 1) := by decide +kernel
theorem dX0_leftAlone_1 : decode cX0_leftAlone 1 = .ok (.istore_n 1, 1) := by decide +kernel
theorem dX0_leftAlone_2 : decode cX0_leftAlone 2 = .ok (.iconst 0, 1) := by decide +kernel
theorem dX0_leftAlone_3 : decode cX0_leftAlone 3 = .ok (.istore_n 2, 1) := by decide +kernel
theorem dX0_leftAlone_4 : decode cX0_leftAlone 4 = .ok (.iload_n 2, 1) := by decide +kernel
theorem dX0_leftAlone_5 : decode cX0_leftAlone 5 = .ok (.aload_n 0, 1) := by decide +kernel
theorem dX0_leftAlone_6 : decode cX0_leftAlone 6 = .ok (.getfield 41, 3) := by decide +kernel
theorem dX0_leftAlone_9 : decode cX0_leftAlone 9 = .ok (.if_icmp .ge 23, 3) := by decide +kernel
theorem dX0_leftAlone_12 : decode cX0_leftAlone 12 = .ok (.aload_n 0, 1) := by decide +kernel
theorem dX0_leftAlone_13 : decode cX0_leftAlone 13 = .ok (.iload_n 2, 1) := by decide +kernel
theorem dX0_leftAlone_14 : decode cX0_leftAlone 14 = .ok (.invokevirtual 122, 3) := by decide +kernel
theorem dX0_leftAlone_17 : decode cX0_leftAlone 17 = .ok (.ifCond .ne 9, 3) := by decide +kernel
theorem dX0_leftAlone_20 : decode cX0_leftAlone 20 = .ok (.iload_n 1, 1) := by decide +kernel
theorem dX0_leftAlone_21 : decode cX0_leftAlone 21 = .ok (.iconst 1, 1) := by decide +kernel
theorem dX0_leftAlone_22 : decode cX0_leftAlone 22 = .ok (.iload_n 2, 1) := by decide +kernel
theorem dX0_leftAlone_23 : decode cX0_leftAlone 23 = .ok (.ishl, 1) := by decide +kernel
theorem dX0_leftAlone_24 : decode cX0_leftAlone 24 = .ok (.ior, 1) := by decide +kernel
theorem dX0_leftAlone_25 : decode cX0_leftAlone 25 = .ok (.istore_n 1, 1) := by decide +kernel
theorem dX0_leftAlone_26 : decode cX0_leftAlone 26 = .ok (.iinc 2 1, 3) := by decide +kernel
theorem dX0_leftAlone_29 : decode cX0_leftAlone 29 = .ok (.goto (-25), 3) := by decide +kernel
theorem dX0_leftAlone_32 : decode cX0_leftAlone 32 = .ok (.iload_n 1, 1) := by decide +kernel
theorem dX0_leftAlone_33 : decode cX0_leftAlone 33 = .ok (.ireturn, 1) := by decide +kernel
theorem dX1_init_0 : decode cX1_init 0 = .ok (.aload_n 0, 1) := by decide +kernel
theorem dX1_init_1 : decode cX1_init 1 = .ok (.invokespecial 3, 3) := by decide +kernel
theorem dX1_init_4 : decode cX1_init 4 = .ok (.aload_n 0, 1) := by decide +kernel
theorem dX1_init_5 : decode cX1_init 5 = .ok (.sipush 160, 3) := by decide +kernel
theorem dX1_init_8 : decode cX1_init 8 = .ok (.newarray .int, 2) := by decide +kernel
theorem dX1_init_10 : decode cX1_init 10 = .ok (.putfield 9, 3) := by decide +kernel
theorem dX1_init_13 : decode cX1_init 13 = .ok (.return_, 1) := by decide +kernel
theorem dX1_takeByte_0 : decode cX1_takeByte 0 = .ok (.aload_n 0, 1) := by decide +kernel
theorem dX1_takeByte_1 : decode cX1_takeByte 1 = .ok (.getfield 15, 3) := by decide +kernel
theorem dX1_takeByte_4 : decode cX1_takeByte 4 = .ok (.sipush 160, 3) := by decide +kernel
theorem dX1_takeByte_7 : decode cX1_takeByte 7 = .ok (.if_icmp .lt 5, 3) := by decide +kernel
theorem dX1_takeByte_10 : decode cX1_takeByte 10 = .ok (.iconst 0, 1) := by decide +kernel
theorem dX1_takeByte_11 : decode cX1_takeByte 11 = .ok (.ireturn, 1) := by decide +kernel
theorem dX1_takeByte_12 : decode cX1_takeByte 12 = .ok (.aload_n 0, 1) := by decide +kernel
theorem dX1_takeByte_13 : decode cX1_takeByte 13 = .ok (.getfield 9, 3) := by decide +kernel
theorem dX1_takeByte_16 : decode cX1_takeByte 16 = .ok (.aload_n 0, 1) := by decide +kernel
theorem dX1_takeByte_17 : decode cX1_takeByte 17 = .ok (.getfield 15, 3) := by decide +kernel
theorem dX1_takeByte_20 : decode cX1_takeByte 20 = .ok (.iload_n 1, 1) := by decide +kernel
theorem dX1_takeByte_21 : decode cX1_takeByte 21 = .ok (.iastore, 1) := by decide +kernel
theorem dX1_takeByte_22 : decode cX1_takeByte 22 = .ok (.aload_n 0, 1) := by decide +kernel
theorem dX1_takeByte_23 : decode cX1_takeByte 23 = .ok (.dup, 1) := by decide +kernel
theorem dX1_takeByte_24 : decode cX1_takeByte 24 = .ok (.getfield 15, 3) := by decide +kernel
theorem dX1_takeByte_27 : decode cX1_takeByte 27 = .ok (.iconst 1, 1) := by decide +kernel
theorem dX1_takeByte_28 : decode cX1_takeByte 28 = .ok (.iadd, 1) := by decide +kernel
theorem dX1_takeByte_29 : decode cX1_takeByte 29 = .ok (.putfield 15, 3) := by decide +kernel
theorem dX1_takeByte_32 : decode cX1_takeByte 32 = .ok (.iconst 1, 1) := by decide +kernel
theorem dX1_takeByte_33 : decode cX1_takeByte 33 = .ok (.ireturn, 1) := by decide +kernel
theorem dX1_readInto_0 : decode cX1_readInto 0 = .ok (.aload_n 0, 1) := by decide +kernel
theorem dX1_readInto_1 : decode cX1_readInto 1 = .ok (.aload_n 1, 1) := by decide +kernel
theorem dX1_readInto_2 : decode cX1_readInto 2 = .ok (.putfield 19, 3) := by decide +kernel
theorem dX1_readInto_5 : decode cX1_readInto 5 = .ok (.aload_n 0, 1) := by decide +kernel
theorem dX1_readInto_6 : decode cX1_readInto 6 = .ok (.getfield 19, 3) := by decide +kernel
theorem dX1_readInto_9 : decode cX1_readInto 9 = .ok (.invokevirtual 23, 3) := by decide +kernel
theorem dX1_readInto_12 : decode cX1_readInto 12 = .ok (.aload_n 0, 1) := by decide +kernel
theorem dX1_readInto_13 : decode cX1_readInto 13 = .ok (.iconst 0, 1) := by decide +kernel
theorem dX1_readInto_14 : decode cX1_readInto 14 = .ok (.putfield 28, 3) := by decide +kernel
theorem dX1_readInto_17 : decode cX1_readInto 17 = .ok (.aload_n 0, 1) := by decide +kernel
theorem dX1_readInto_18 : decode cX1_readInto 18 = .ok (.iconst 0, 1) := by decide +kernel
theorem dX1_readInto_19 : decode cX1_readInto 19 = .ok (.putfield 31, 3) := by decide +kernel
theorem dX1_readInto_22 : decode cX1_readInto 22 = .ok (.aload_n 0, 1) := by decide +kernel
theorem dX1_readInto_23 : decode cX1_readInto 23 = .ok (.iconst (-1), 1) := by decide +kernel
theorem dX1_readInto_24 : decode cX1_readInto 24 = .ok (.putfield 34, 3) := by decide +kernel
theorem dX1_readInto_27 : decode cX1_readInto 27 = .ok (.aload_n 0, 1) := by decide +kernel
theorem dX1_readInto_28 : decode cX1_readInto 28 = .ok (.invokevirtual 37, 3) := by decide +kernel
theorem dX1_readInto_31 : decode cX1_readInto 31 = .ok (.iconst 0, 1) := by decide +kernel
theorem dX1_readInto_32 : decode cX1_readInto 32 = .ok (.istore_n 2, 1) := by decide +kernel
theorem dX1_readInto_33 : decode cX1_readInto 33 = .ok (.iload_n 2, 1) := by decide +kernel
theorem dX1_readInto_34 : decode cX1_readInto 34 = .ok (.iconst 3, 1) := by decide +kernel
theorem dX1_readInto_35 : decode cX1_readInto 35 = .ok (.if_icmp .ge 34, 3) := by decide +kernel
theorem dX1_readInto_38 : decode cX1_readInto 38 = .ok (.aload_n 0, 1) := by decide +kernel
theorem dX1_readInto_39 : decode cX1_readInto 39 = .ok (.getfield 19, 3) := by decide +kernel
theorem dX1_readInto_42 : decode cX1_readInto 42 = .ok (.iload_n 2, 1) := by decide +kernel
theorem dX1_readInto_43 : decode cX1_readInto 43 = .ok (.invokevirtual 40, 3) := by decide +kernel
theorem dX1_readInto_46 : decode cX1_readInto 46 = .ok (.aload_n 0, 1) := by decide +kernel
theorem dX1_readInto_47 : decode cX1_readInto 47 = .ok (.iconst 4, 1) := by decide +kernel
theorem dX1_readInto_48 : decode cX1_readInto 48 = .ok (.iload_n 2, 1) := by decide +kernel
theorem dX1_readInto_49 : decode cX1_readInto 49 = .ok (.iadd, 1) := by decide +kernel
theorem dX1_readInto_50 : decode cX1_readInto 50 = .ok (.invokevirtual 44, 3) := by decide +kernel
theorem dX1_readInto_53 : decode cX1_readInto 53 = .ok (.aload_n 0, 1) := by decide +kernel
theorem dX1_readInto_54 : decode cX1_readInto 54 = .ok (.invokevirtual 47, 3) := by decide +kernel
theorem dX1_readInto_57 : decode cX1_readInto 57 = .ok (.aload_n 0, 1) := by decide +kernel
theorem dX1_readInto_58 : decode cX1_readInto 58 = .ok (.bipush 59, 2) := by decide +kernel
theorem dX1_readInto_60 : decode cX1_readInto 60 = .ok (.invokevirtual 44, 3) := by decide +kernel
theorem dX1_readInto_63 : decode cX1_readInto 63 = .ok (.iinc 2 1, 3) := by decide +kernel
theorem dX1_readInto_66 : decode cX1_readInto 66 = .ok (.goto (-33), 3) := by decide +kernel
theorem dX1_readInto_69 : decode cX1_readInto 69 = .ok (.aload_n 0, 1) := by decide +kernel
theorem dX1_readInto_70 : decode cX1_readInto 70 = .ok (.getfield 19, 3) := by decide +kernel
theorem dX1_readInto_73 : decode cX1_readInto 73 = .ok (.iconst 3, 1) := by decide +kernel
theorem dX1_readInto_74 : decode cX1_readInto 74 = .ok (.invokevirtual 40, 3) := by decide +kernel
theorem dX1_readInto_77 : decode cX1_readInto 77 = .ok (.aload_n 0, 1) := by decide +kernel
theorem dX1_readInto_78 : decode cX1_readInto 78 = .ok (.iconst 0, 1) := by decide +kernel
theorem dX1_readInto_79 : decode cX1_readInto 79 = .ok (.invokevirtual 44, 3) := by decide +kernel
theorem dX1_readInto_82 : decode cX1_readInto 82 = .ok (.aload_n 0, 1) := by decide +kernel
theorem dX1_readInto_83 : decode cX1_readInto 83 = .ok (.getfield 34, 3) := by decide +kernel
theorem dX1_readInto_86 : decode cX1_readInto 86 = .ok (.ireturn, 1) := by decide +kernel
theorem dX1_pass_0 : decode cX1_pass 0 = .ok (.aload_n 0, 1) := by decide +kernel
theorem dX1_pass_1 : decode cX1_pass 1 = .ok (.getfield 50, 3) := by decide +kernel
theorem dX1_pass_4 : decode cX1_pass 4 = .ok (.iload_n 1, 1) := by decide +kernel
theorem dX1_pass_5 : decode cX1_pass 5 = .ok (.if_icmp .ne 10, 3) := by decide +kernel
theorem dX1_pass_8 : decode cX1_pass 8 = .ok (.aload_n 0, 1) := by decide +kernel
theorem dX1_pass_9 : decode cX1_pass 9 = .ok (.invokevirtual 37, 3) := by decide +kernel
theorem dX1_pass_12 : decode cX1_pass 12 = .ok (.goto 7, 3) := by decide +kernel
theorem dX1_pass_15 : decode cX1_pass 15 = .ok (.aload_n 0, 1) := by decide +kernel
theorem dX1_pass_16 : decode cX1_pass 16 = .ok (.invokevirtual 53, 3) := by decide +kernel
theorem dX1_pass_19 : decode cX1_pass 19 = .ok (.return_, 1) := by decide +kernel
theorem dX1_fail_0 : decode cX1_fail 0 = .ok (.aload_n 0, 1) := by decide +kernel
theorem dX1_fail_1 : decode cX1_fail 1 = .ok (.getfield 34, 3) := by decide +kernel
theorem dX1_fail_4 : decode cX1_fail 4 = .ok (.iconst (-1), 1) := by decide +kernel
theorem dX1_fail_5 : decode cX1_fail 5 = .ok (.if_icmp .ne 11, 3) := by decide +kernel
theorem dX1_fail_8 : decode cX1_fail 8 = .ok (.aload_n 0, 1) := by decide +kernel
theorem dX1_fail_9 : decode cX1_fail 9 = .ok (.aload_n 0, 1) := by decide +kernel
theorem dX1_fail_10 : decode cX1_fail 10 = .ok (.getfield 56, 3) := by decide +kernel
theorem dX1_fail_13 : decode cX1_fail 13 = .ok (.putfield 34, 3) := by decide +kernel
theorem dX1_fail_16 : decode cX1_fail 16 = .ok (.aload_n 0, 1) := by decide +kernel
theorem dX1_fail_17 : decode cX1_fail 17 = .ok (.iconst 1, 1) := by decide +kernel
theorem dX1_fail_18 : decode cX1_fail 18 = .ok (.putfield 50, 3) := by decide +kernel
theorem dX1_fail_21 : decode cX1_fail 21 = .ok (.return_, 1) := by decide +kernel
theorem dX1_readOr_0 : decode cX1_readOr 0 = .ok (.aload_n 0, 1) := by decide +kernel
theorem dX1_readOr_1 : decode cX1_readOr 1 = .ok (.invokevirtual 59, 3) := by decide +kernel
theorem dX1_readOr_4 : decode cX1_readOr 4 = .ok (.iconst 0, 1) := by decide +kernel
theorem dX1_readOr_5 : decode cX1_readOr 5 = .ok (.istore_n 1, 1) := by decide +kernel
theorem dX1_readOr_6 : decode cX1_readOr 6 = .ok (.iload_n 1, 1) := by decide +kernel
theorem dX1_readOr_7 : decode cX1_readOr 7 = .ok (.sipush 160, 3) := by decide +kernel
theorem dX1_readOr_10 : decode cX1_readOr 10 = .ok (.if_icmp .ge 35, 3) := by decide +kernel
theorem dX1_readOr_13 : decode cX1_readOr 13 = .ok (.aload_n 0, 1) := by decide +kernel
theorem dX1_readOr_14 : decode cX1_readOr 14 = .ok (.getfield 50, 3) := by decide +kernel
theorem dX1_readOr_17 : decode cX1_readOr 17 = .ok (.bipush 7, 2) := by decide +kernel
theorem dX1_readOr_19 : decode cX1_readOr 19 = .ok (.if_icmp .ne 26, 3) := by decide +kernel
theorem dX1_readOr_22 : decode cX1_readOr 22 = .ok (.aload_n 0, 1) := by decide +kernel
theorem dX1_readOr_23 : decode cX1_readOr 23 = .ok (.invokevirtual 37, 3) := by decide +kernel
theorem dX1_readOr_26 : decode cX1_readOr 26 = .ok (.aload_n 0, 1) := by decide +kernel
theorem dX1_readOr_27 : decode cX1_readOr 27 = .ok (.invokevirtual 59, 3) := by decide +kernel
theorem dX1_readOr_30 : decode cX1_readOr 30 = .ok (.aload_n 0, 1) := by decide +kernel
theorem dX1_readOr_31 : decode cX1_readOr 31 = .ok (.getfield 19, 3) := by decide +kernel
theorem dX1_readOr_34 : decode cX1_readOr 34 = .ok (.bipush (-9), 2) := by decide +kernel
theorem dX1_readOr_36 : decode cX1_readOr 36 = .ok (.invokevirtual 62, 3) := by decide +kernel
theorem dX1_readOr_39 : decode cX1_readOr 39 = .ok (.iinc 1 1, 3) := by decide +kernel
theorem dX1_readOr_42 : decode cX1_readOr 42 = .ok (.goto (-36), 3) := by decide +kernel
theorem dX1_readOr_45 : decode cX1_readOr 45 = .ok (.return_, 1) := by decide +kernel
theorem dX1_readAnd_0 : decode cX1_readAnd 0 = .ok (.aload_n 0, 1) := by decide +kernel
theorem dX1_readAnd_1 : decode cX1_readAnd 1 = .ok (.invokevirtual 65, 3) := by decide +kernel
theorem dX1_readAnd_4 : decode cX1_readAnd 4 = .ok (.iconst 0, 1) := by decide +kernel
theorem dX1_readAnd_5 : decode cX1_readAnd 5 = .ok (.istore_n 1, 1) := by decide +kernel
theorem dX1_readAnd_6 : decode cX1_readAnd 6 = .ok (.iload_n 1, 1) := by decide +kernel
theorem dX1_readAnd_7 : decode cX1_readAnd 7 = .ok (.sipush 160, 3) := by decide +kernel
theorem dX1_readAnd_10 : decode cX1_readAnd 10 = .ok (.if_icmp .ge 35, 3) := by decide +kernel
theorem dX1_readAnd_13 : decode cX1_readAnd 13 = .ok (.aload_n 0, 1) := by decide +kernel
theorem dX1_readAnd_14 : decode cX1_readAnd 14 = .ok (.getfield 50, 3) := by decide +kernel
theorem dX1_readAnd_17 : decode cX1_readAnd 17 = .ok (.bipush 8, 2) := by decide +kernel
theorem dX1_readAnd_19 : decode cX1_readAnd 19 = .ok (.if_icmp .ne 26, 3) := by decide +kernel
theorem dX1_readAnd_22 : decode cX1_readAnd 22 = .ok (.aload_n 0, 1) := by decide +kernel
theorem dX1_readAnd_23 : decode cX1_readAnd 23 = .ok (.invokevirtual 37, 3) := by decide +kernel
theorem dX1_readAnd_26 : decode cX1_readAnd 26 = .ok (.aload_n 0, 1) := by decide +kernel
theorem dX1_readAnd_27 : decode cX1_readAnd 27 = .ok (.invokevirtual 65, 3) := by decide +kernel
theorem dX1_readAnd_30 : decode cX1_readAnd 30 = .ok (.aload_n 0, 1) := by decide +kernel
theorem dX1_readAnd_31 : decode cX1_readAnd 31 = .ok (.getfield 19, 3) := by decide +kernel
theorem dX1_readAnd_34 : decode cX1_readAnd 34 = .ok (.bipush (-10), 2) := by decide +kernel
theorem dX1_readAnd_36 : decode cX1_readAnd 36 = .ok (.invokevirtual 62, 3) := by decide +kernel
theorem dX1_readAnd_39 : decode cX1_readAnd 39 = .ok (.iinc 1 1, 3) := by decide +kernel
theorem dX1_readAnd_42 : decode cX1_readAnd 42 = .ok (.goto (-36), 3) := by decide +kernel
theorem dX1_readAnd_45 : decode cX1_readAnd 45 = .ok (.return_, 1) := by decide +kernel
theorem dX1_readNot_0 : decode cX1_readNot 0 = .ok (.aload_n 0, 1) := by decide +kernel
theorem dX1_readNot_1 : decode cX1_readNot 1 = .ok (.getfield 50, 3) := by decide +kernel
theorem dX1_readNot_4 : decode cX1_readNot 4 = .ok (.bipush 9, 2) := by decide +kernel
theorem dX1_readNot_6 : decode cX1_readNot 6 = .ok (.if_icmp .eq 10, 3) := by decide +kernel
theorem dX1_readNot_9 : decode cX1_readNot 9 = .ok (.aload_n 0, 1) := by decide +kernel
theorem dX1_readNot_10 : decode cX1_readNot 10 = .ok (.invokevirtual 68, 3) := by decide +kernel
theorem dX1_readNot_13 : decode cX1_readNot 13 = .ok (.goto 33, 3) := by decide +kernel
theorem dX1_readNot_16 : decode cX1_readNot 16 = .ok (.aload_n 0, 1) := by decide +kernel
theorem dX1_readNot_17 : decode cX1_readNot 17 = .ok (.invokevirtual 71, 3) := by decide +kernel
theorem dX1_readNot_20 : decode cX1_readNot 20 = .ok (.ifCond .eq 26, 3) := by decide +kernel
theorem dX1_readNot_23 : decode cX1_readNot 23 = .ok (.aload_n 0, 1) := by decide +kernel
theorem dX1_readNot_24 : decode cX1_readNot 24 = .ok (.invokevirtual 65, 3) := by decide +kernel
theorem dX1_readNot_27 : decode cX1_readNot 27 = .ok (.aload_n 0, 1) := by decide +kernel
theorem dX1_readNot_28 : decode cX1_readNot 28 = .ok (.getfield 19, 3) := by decide +kernel
theorem dX1_readNot_31 : decode cX1_readNot 31 = .ok (.bipush (-7), 2) := by decide +kernel
theorem dX1_readNot_33 : decode cX1_readNot 33 = .ok (.invokevirtual 62, 3) := by decide +kernel
theorem dX1_readNot_36 : decode cX1_readNot 36 = .ok (.aload_n 0, 1) := by decide +kernel
theorem dX1_readNot_37 : decode cX1_readNot 37 = .ok (.dup, 1) := by decide +kernel
theorem dX1_readNot_38 : decode cX1_readNot 38 = .ok (.getfield 31, 3) := by decide +kernel
theorem dX1_readNot_41 : decode cX1_readNot 41 = .ok (.iconst 1, 1) := by decide +kernel
theorem dX1_readNot_42 : decode cX1_readNot 42 = .ok (.isub, 1) := by decide +kernel
theorem dX1_readNot_43 : decode cX1_readNot 43 = .ok (.putfield 31, 3) := by decide +kernel
theorem dX1_readNot_46 : decode cX1_readNot 46 = .ok (.return_, 1) := by decide +kernel
theorem dX1_readCompared_0 : decode cX1_readCompared 0 = .ok (.aload_n 0, 1) := by decide +kernel
theorem dX1_readCompared_1 : decode cX1_readCompared 1 = .ok (.invokevirtual 75, 3) := by decide +kernel
theorem dX1_readCompared_4 : decode cX1_readCompared 4 = .ok (.aload_n 0, 1) := by decide +kernel
theorem dX1_readCompared_5 : decode cX1_readCompared 5 = .ok (.getfield 50, 3) := by decide +kernel
theorem dX1_readCompared_8 : decode cX1_readCompared 8 = .ok (.bipush 60, 2) := by decide +kernel
theorem dX1_readCompared_10 : decode cX1_readCompared 10 = .ok (.if_icmp .eq 12, 3) := by decide +kernel
theorem dX1_readCompared_13 : decode cX1_readCompared 13 = .ok (.aload_n 0, 1) := by decide +kernel
theorem dX1_readCompared_14 : decode cX1_readCompared 14 = .ok (.getfield 50, 3) := by decide +kernel
theorem dX1_readCompared_17 : decode cX1_readCompared 17 = .ok (.bipush 61, 2) := by decide +kernel
theorem dX1_readCompared_19 : decode cX1_readCompared 19 = .ok (.if_icmp .ne 36, 3) := by decide +kernel
theorem dX1_readCompared_22 : decode cX1_readCompared 22 = .ok (.aload_n 0, 1) := by decide +kernel
theorem dX1_readCompared_23 : decode cX1_readCompared 23 = .ok (.getfield 50, 3) := by decide +kernel
theorem dX1_readCompared_26 : decode cX1_readCompared 26 = .ok (.bipush 60, 2) := by decide +kernel
theorem dX1_readCompared_28 : decode cX1_readCompared 28 = .ok (.if_icmp .ne 8, 3) := by decide +kernel
theorem dX1_readCompared_31 : decode cX1_readCompared 31 = .ok (.bipush (-11), 2) := by decide +kernel
theorem dX1_readCompared_33 : decode cX1_readCompared 33 = .ok (.goto 5, 3) := by decide +kernel
theorem dX1_readCompared_36 : decode cX1_readCompared 36 = .ok (.bipush (-12), 2) := by decide +kernel
theorem dX1_readCompared_38 : decode cX1_readCompared 38 = .ok (.istore_n 1, 1) := by decide +kernel
theorem dX1_readCompared_39 : decode cX1_readCompared 39 = .ok (.aload_n 0, 1) := by decide +kernel
theorem dX1_readCompared_40 : decode cX1_readCompared 40 = .ok (.invokevirtual 37, 3) := by decide +kernel
theorem dX1_readCompared_43 : decode cX1_readCompared 43 = .ok (.aload_n 0, 1) := by decide +kernel
theorem dX1_readCompared_44 : decode cX1_readCompared 44 = .ok (.invokevirtual 75, 3) := by decide +kernel
theorem dX1_readCompared_47 : decode cX1_readCompared 47 = .ok (.aload_n 0, 1) := by decide +kernel
theorem dX1_readCompared_48 : decode cX1_readCompared 48 = .ok (.getfield 19, 3) := by decide +kernel
theorem dX1_readCompared_51 : decode cX1_readCompared 51 = .ok (.iload_n 1, 1) := by decide +kernel
theorem dX1_readCompared_52 : decode cX1_readCompared 52 = .ok (.invokevirtual 62, 3) := by decide +kernel
theorem dX1_readCompared_55 : decode cX1_readCompared 55 = .ok (.return_, 1) := by decide +kernel
theorem dX1_readSum_0 : decode cX1_readSum 0 = .ok (.aload_n 0, 1) := by decide +kernel
theorem dX1_readSum_1 : decode cX1_readSum 1 = .ok (.invokevirtual 78, 3) := by decide +kernel
theorem dX1_readSum_4 : decode cX1_readSum 4 = .ok (.iconst 0, 1) := by decide +kernel
theorem dX1_readSum_5 : decode cX1_readSum 5 = .ok (.istore_n 1, 1) := by decide +kernel
theorem dX1_readSum_6 : decode cX1_readSum 6 = .ok (.iload_n 1, 1) := by decide +kernel
theorem dX1_readSum_7 : decode cX1_readSum 7 = .ok (.sipush 160, 3) := by decide +kernel
theorem dX1_readSum_10 : decode cX1_readSum 10 = .ok (.if_icmp .ge 60, 3) := by decide +kernel
theorem dX1_readSum_13 : decode cX1_readSum 13 = .ok (.aload_n 0, 1) := by decide +kernel
theorem dX1_readSum_14 : decode cX1_readSum 14 = .ok (.getfield 50, 3) := by decide +kernel
theorem dX1_readSum_17 : decode cX1_readSum 17 = .ok (.bipush 43, 2) := by decide +kernel
theorem dX1_readSum_19 : decode cX1_readSum 19 = .ok (.if_icmp .eq 12, 3) := by decide +kernel
theorem dX1_readSum_22 : decode cX1_readSum 22 = .ok (.aload_n 0, 1) := by decide +kernel
theorem dX1_readSum_23 : decode cX1_readSum 23 = .ok (.getfield 50, 3) := by decide +kernel
theorem dX1_readSum_26 : decode cX1_readSum 26 = .ok (.bipush 45, 2) := by decide +kernel
theorem dX1_readSum_28 : decode cX1_readSum 28 = .ok (.if_icmp .ne 42, 3) := by decide +kernel
theorem dX1_readSum_31 : decode cX1_readSum 31 = .ok (.aload_n 0, 1) := by decide +kernel
theorem dX1_readSum_32 : decode cX1_readSum 32 = .ok (.getfield 50, 3) := by decide +kernel
theorem dX1_readSum_35 : decode cX1_readSum 35 = .ok (.bipush 43, 2) := by decide +kernel
theorem dX1_readSum_37 : decode cX1_readSum 37 = .ok (.if_icmp .ne 8, 3) := by decide +kernel
theorem dX1_readSum_40 : decode cX1_readSum 40 = .ok (.bipush (-13), 2) := by decide +kernel
theorem dX1_readSum_42 : decode cX1_readSum 42 = .ok (.goto 5, 3) := by decide +kernel
theorem dX1_readSum_45 : decode cX1_readSum 45 = .ok (.bipush (-14), 2) := by decide +kernel
theorem dX1_readSum_47 : decode cX1_readSum 47 = .ok (.istore_n 2, 1) := by decide +kernel
theorem dX1_readSum_48 : decode cX1_readSum 48 = .ok (.aload_n 0, 1) := by decide +kernel
theorem dX1_readSum_49 : decode cX1_readSum 49 = .ok (.invokevirtual 37, 3) := by decide +kernel
theorem dX1_readSum_52 : decode cX1_readSum 52 = .ok (.aload_n 0, 1) := by decide +kernel
theorem dX1_readSum_53 : decode cX1_readSum 53 = .ok (.invokevirtual 78, 3) := by decide +kernel
theorem dX1_readSum_56 : decode cX1_readSum 56 = .ok (.aload_n 0, 1) := by decide +kernel
theorem dX1_readSum_57 : decode cX1_readSum 57 = .ok (.getfield 19, 3) := by decide +kernel
theorem dX1_readSum_60 : decode cX1_readSum 60 = .ok (.iload_n 2, 1) := by decide +kernel
theorem dX1_readSum_61 : decode cX1_readSum 61 = .ok (.invokevirtual 62, 3) := by decide +kernel
theorem dX1_readSum_64 : decode cX1_readSum 64 = .ok (.iinc 1 1, 3) := by decide +kernel
theorem dX1_readSum_67 : decode cX1_readSum 67 = .ok (.goto (-61), 3) := by decide +kernel
theorem dX1_readSum_70 : decode cX1_readSum 70 = .ok (.return_, 1) := by decide +kernel
theorem dX1_readTerm_0 : decode cX1_readTerm 0 = .ok (.aload_n 0, 1) := by decide +kernel
theorem dX1_readTerm_1 : decode cX1_readTerm 1 = .ok (.invokevirtual 81, 3) := by decide +kernel
theorem dX1_readTerm_4 : decode cX1_readTerm 4 = .ok (.iconst 0, 1) := by decide +kernel
theorem dX1_readTerm_5 : decode cX1_readTerm 5 = .ok (.istore_n 1, 1) := by decide +kernel
theorem dX1_readTerm_6 : decode cX1_readTerm 6 = .ok (.iload_n 1, 1) := by decide +kernel
theorem dX1_readTerm_7 : decode cX1_readTerm 7 = .ok (.sipush 160, 3) := by decide +kernel
theorem dX1_readTerm_10 : decode cX1_readTerm 10 = .ok (.if_icmp .ge 35, 3) := by decide +kernel
theorem dX1_readTerm_13 : decode cX1_readTerm 13 = .ok (.aload_n 0, 1) := by decide +kernel
theorem dX1_readTerm_14 : decode cX1_readTerm 14 = .ok (.getfield 50, 3) := by decide +kernel
theorem dX1_readTerm_17 : decode cX1_readTerm 17 = .ok (.bipush 42, 2) := by decide +kernel
theorem dX1_readTerm_19 : decode cX1_readTerm 19 = .ok (.if_icmp .ne 26, 3) := by decide +kernel
theorem dX1_readTerm_22 : decode cX1_readTerm 22 = .ok (.aload_n 0, 1) := by decide +kernel
theorem dX1_readTerm_23 : decode cX1_readTerm 23 = .ok (.invokevirtual 37, 3) := by decide +kernel
theorem dX1_readTerm_26 : decode cX1_readTerm 26 = .ok (.aload_n 0, 1) := by decide +kernel
theorem dX1_readTerm_27 : decode cX1_readTerm 27 = .ok (.invokevirtual 81, 3) := by decide +kernel
theorem dX1_readTerm_30 : decode cX1_readTerm 30 = .ok (.aload_n 0, 1) := by decide +kernel
theorem dX1_readTerm_31 : decode cX1_readTerm 31 = .ok (.getfield 19, 3) := by decide +kernel
theorem dX1_readTerm_34 : decode cX1_readTerm 34 = .ok (.bipush (-15), 2) := by decide +kernel
theorem dX1_readTerm_36 : decode cX1_readTerm 36 = .ok (.invokevirtual 62, 3) := by decide +kernel
theorem dX1_readTerm_39 : decode cX1_readTerm 39 = .ok (.iinc 1 1, 3) := by decide +kernel
theorem dX1_readTerm_42 : decode cX1_readTerm 42 = .ok (.goto (-36), 3) := by decide +kernel
theorem dX1_readTerm_45 : decode cX1_readTerm 45 = .ok (.return_, 1) := by decide +kernel
theorem dX1_readOne_0 : decode cX1_readOne 0 = .ok (.aload_n 0, 1) := by decide +kernel
theorem dX1_readOne_1 : decode cX1_readOne 1 = .ok (.getfield 50, 3) := by decide +kernel
theorem dX1_readOne_4 : decode cX1_readOne 4 = .ok (.lookupswitch 145 #[(2, 44), (3, 62), (40, 115), (45, 82)], 44) := by decide +kernel
theorem dX1_readOne_48 : decode cX1_readOne 48 = .ok (.aload_n 0, 1) := by decide +kernel
theorem dX1_readOne_49 : decode cX1_readOne 49 = .ok (.getfield 19, 3) := by decide +kernel
theorem dX1_readOne_52 : decode cX1_readOne 52 = .ok (.aload_n 0, 1) := by decide +kernel
theorem dX1_readOne_53 : decode cX1_readOne 53 = .ok (.getfield 84, 3) := by decide +kernel
theorem dX1_readOne_56 : decode cX1_readOne 56 = .ok (.invokevirtual 62, 3) := by decide +kernel
theorem dX1_readOne_59 : decode cX1_readOne 59 = .ok (.aload_n 0, 1) := by decide +kernel
theorem dX1_readOne_60 : decode cX1_readOne 60 = .ok (.invokevirtual 37, 3) := by decide +kernel
theorem dX1_readOne_63 : decode cX1_readOne 63 = .ok (.goto 90, 3) := by decide +kernel
theorem dX1_readOne_66 : decode cX1_readOne 66 = .ok (.aload_n 0, 1) := by decide +kernel
theorem dX1_readOne_67 : decode cX1_readOne 67 = .ok (.getfield 19, 3) := by decide +kernel
theorem dX1_readOne_70 : decode cX1_readOne 70 = .ok (.iconst (-1), 1) := by decide +kernel
theorem dX1_readOne_71 : decode cX1_readOne 71 = .ok (.aload_n 0, 1) := by decide +kernel
theorem dX1_readOne_72 : decode cX1_readOne 72 = .ok (.getfield 84, 3) := by decide +kernel
theorem dX1_readOne_75 : decode cX1_readOne 75 = .ok (.isub, 1) := by decide +kernel
theorem dX1_readOne_76 : decode cX1_readOne 76 = .ok (.invokevirtual 62, 3) := by decide +kernel
theorem dX1_readOne_79 : decode cX1_readOne 79 = .ok (.aload_n 0, 1) := by decide +kernel
theorem dX1_readOne_80 : decode cX1_readOne 80 = .ok (.invokevirtual 37, 3) := by decide +kernel
theorem dX1_readOne_83 : decode cX1_readOne 83 = .ok (.goto 70, 3) := by decide +kernel
theorem dX1_readOne_86 : decode cX1_readOne 86 = .ok (.aload_n 0, 1) := by decide +kernel
theorem dX1_readOne_87 : decode cX1_readOne 87 = .ok (.invokevirtual 71, 3) := by decide +kernel
theorem dX1_readOne_90 : decode cX1_readOne 90 = .ok (.ifCond .eq 63, 3) := by decide +kernel
theorem dX1_readOne_93 : decode cX1_readOne 93 = .ok (.aload_n 0, 1) := by decide +kernel
theorem dX1_readOne_94 : decode cX1_readOne 94 = .ok (.invokevirtual 81, 3) := by decide +kernel
theorem dX1_readOne_97 : decode cX1_readOne 97 = .ok (.aload_n 0, 1) := by decide +kernel
theorem dX1_readOne_98 : decode cX1_readOne 98 = .ok (.getfield 19, 3) := by decide +kernel
theorem dX1_readOne_101 : decode cX1_readOne 101 = .ok (.bipush (-8), 2) := by decide +kernel
theorem dX1_readOne_103 : decode cX1_readOne 103 = .ok (.invokevirtual 62, 3) := by decide +kernel
theorem dX1_readOne_106 : decode cX1_readOne 106 = .ok (.aload_n 0, 1) := by decide +kernel
theorem dX1_readOne_107 : decode cX1_readOne 107 = .ok (.dup, 1) := by decide +kernel
theorem dX1_readOne_108 : decode cX1_readOne 108 = .ok (.getfield 31, 3) := by decide +kernel
theorem dX1_readOne_111 : decode cX1_readOne 111 = .ok (.iconst 1, 1) := by decide +kernel
theorem dX1_readOne_112 : decode cX1_readOne 112 = .ok (.isub, 1) := by decide +kernel
theorem dX1_readOne_113 : decode cX1_readOne 113 = .ok (.putfield 31, 3) := by decide +kernel
theorem dX1_readOne_116 : decode cX1_readOne 116 = .ok (.goto 37, 3) := by decide +kernel
theorem dX1_readOne_119 : decode cX1_readOne 119 = .ok (.aload_n 0, 1) := by decide +kernel
theorem dX1_readOne_120 : decode cX1_readOne 120 = .ok (.invokevirtual 71, 3) := by decide +kernel
theorem dX1_readOne_123 : decode cX1_readOne 123 = .ok (.ifCond .eq 30, 3) := by decide +kernel
theorem dX1_readOne_126 : decode cX1_readOne 126 = .ok (.aload_n 0, 1) := by decide +kernel
theorem dX1_readOne_127 : decode cX1_readOne 127 = .ok (.invokevirtual 47, 3) := by decide +kernel
theorem dX1_readOne_130 : decode cX1_readOne 130 = .ok (.aload_n 0, 1) := by decide +kernel
theorem dX1_readOne_131 : decode cX1_readOne 131 = .ok (.bipush 41, 2) := by decide +kernel
theorem dX1_readOne_133 : decode cX1_readOne 133 = .ok (.invokevirtual 44, 3) := by decide +kernel
theorem dX1_readOne_136 : decode cX1_readOne 136 = .ok (.aload_n 0, 1) := by decide +kernel
theorem dX1_readOne_137 : decode cX1_readOne 137 = .ok (.dup, 1) := by decide +kernel
theorem dX1_readOne_138 : decode cX1_readOne 138 = .ok (.getfield 31, 3) := by decide +kernel
theorem dX1_readOne_141 : decode cX1_readOne 141 = .ok (.iconst 1, 1) := by decide +kernel
theorem dX1_readOne_142 : decode cX1_readOne 142 = .ok (.isub, 1) := by decide +kernel
theorem dX1_readOne_143 : decode cX1_readOne 143 = .ok (.putfield 31, 3) := by decide +kernel
theorem dX1_readOne_146 : decode cX1_readOne 146 = .ok (.goto 7, 3) := by decide +kernel
theorem dX1_readOne_149 : decode cX1_readOne 149 = .ok (.aload_n 0, 1) := by decide +kernel
theorem dX1_readOne_150 : decode cX1_readOne 150 = .ok (.invokevirtual 53, 3) := by decide +kernel
theorem dX1_readOne_153 : decode cX1_readOne 153 = .ok (.return_, 1) := by decide +kernel
theorem dX1_opens_0 : decode cX1_opens 0 = .ok (.aload_n 0, 1) := by decide +kernel
theorem dX1_opens_1 : decode cX1_opens 1 = .ok (.getfield 31, 3) := by decide +kernel
theorem dX1_opens_4 : decode cX1_opens 4 = .ok (.iconst 5, 1) := by decide +kernel
theorem dX1_opens_5 : decode cX1_opens 5 = .ok (.if_icmp .lt 9, 3) := by decide +kernel
theorem dX1_opens_8 : decode cX1_opens 8 = .ok (.aload_n 0, 1) := by decide +kernel
theorem dX1_opens_9 : decode cX1_opens 9 = .ok (.invokevirtual 53, 3) := by decide +kernel
theorem dX1_opens_12 : decode cX1_opens 12 = .ok (.iconst 0, 1) := by decide +kernel
theorem dX1_opens_13 : decode cX1_opens 13 = .ok (.ireturn, 1) := by decide +kernel
theorem dX1_opens_14 : decode cX1_opens 14 = .ok (.aload_n 0, 1) := by decide +kernel
theorem dX1_opens_15 : decode cX1_opens 15 = .ok (.dup, 1) := by decide +kernel
theorem dX1_opens_16 : decode cX1_opens 16 = .ok (.getfield 31, 3) := by decide +kernel
theorem dX1_opens_19 : decode cX1_opens 19 = .ok (.iconst 1, 1) := by decide +kernel
theorem dX1_opens_20 : decode cX1_opens 20 = .ok (.iadd, 1) := by decide +kernel
theorem dX1_opens_21 : decode cX1_opens 21 = .ok (.putfield 31, 3) := by decide +kernel
theorem dX1_opens_24 : decode cX1_opens 24 = .ok (.aload_n 0, 1) := by decide +kernel
theorem dX1_opens_25 : decode cX1_opens 25 = .ok (.invokevirtual 37, 3) := by decide +kernel
theorem dX1_opens_28 : decode cX1_opens 28 = .ok (.iconst 1, 1) := by decide +kernel
theorem dX1_opens_29 : decode cX1_opens 29 = .ok (.ireturn, 1) := by decide +kernel
theorem dX1_readToken_0 : decode cX1_readToken 0 = .ok (.aload_n 0, 1) := by decide +kernel
theorem dX1_readToken_1 : decode cX1_readToken 1 = .ok (.getfield 34, 3) := by decide +kernel
theorem dX1_readToken_4 : decode cX1_readToken 4 = .ok (.iconst (-1), 1) := by decide +kernel
theorem dX1_readToken_5 : decode cX1_readToken 5 = .ok (.if_icmp .eq 4, 3) := by decide +kernel
theorem dX1_readToken_8 : decode cX1_readToken 8 = .ok (.return_, 1) := by decide +kernel
theorem dX1_readToken_9 : decode cX1_readToken 9 = .ok (.aload_n 0, 1) := by decide +kernel
theorem dX1_readToken_10 : decode cX1_readToken 10 = .ok (.getfield 28, 3) := by decide +kernel
theorem dX1_readToken_13 : decode cX1_readToken 13 = .ok (.aload_n 0, 1) := by decide +kernel
theorem dX1_readToken_14 : decode cX1_readToken 14 = .ok (.getfield 15, 3) := by decide +kernel
theorem dX1_readToken_17 : decode cX1_readToken 17 = .ok (.if_icmp .ge 44, 3) := by decide +kernel
theorem dX1_readToken_20 : decode cX1_readToken 20 = .ok (.aload_n 0, 1) := by decide +kernel
theorem dX1_readToken_21 : decode cX1_readToken 21 = .ok (.getfield 9, 3) := by decide +kernel
theorem dX1_readToken_24 : decode cX1_readToken 24 = .ok (.aload_n 0, 1) := by decide +kernel
theorem dX1_readToken_25 : decode cX1_readToken 25 = .ok (.getfield 28, 3) := by decide +kernel
theorem dX1_readToken_28 : decode cX1_readToken 28 = .ok (.iaload, 1) := by decide +kernel
theorem dX1_readToken_29 : decode cX1_readToken 29 = .ok (.bipush 32, 2) := by decide +kernel
theorem dX1_readToken_31 : decode cX1_readToken 31 = .ok (.if_icmp .eq 17, 3) := by decide +kernel
theorem dX1_readToken_34 : decode cX1_readToken 34 = .ok (.aload_n 0, 1) := by decide +kernel
theorem dX1_readToken_35 : decode cX1_readToken 35 = .ok (.getfield 9, 3) := by decide +kernel
theorem dX1_readToken_38 : decode cX1_readToken 38 = .ok (.aload_n 0, 1) := by decide +kernel
theorem dX1_readToken_39 : decode cX1_readToken 39 = .ok (.getfield 28, 3) := by decide +kernel
theorem dX1_readToken_42 : decode cX1_readToken 42 = .ok (.iaload, 1) := by decide +kernel
theorem dX1_readToken_43 : decode cX1_readToken 43 = .ok (.bipush 10, 2) := by decide +kernel
theorem dX1_readToken_45 : decode cX1_readToken 45 = .ok (.if_icmp .ne 16, 3) := by decide +kernel
theorem dX1_readToken_48 : decode cX1_readToken 48 = .ok (.aload_n 0, 1) := by decide +kernel
theorem dX1_readToken_49 : decode cX1_readToken 49 = .ok (.dup, 1) := by decide +kernel
theorem dX1_readToken_50 : decode cX1_readToken 50 = .ok (.getfield 28, 3) := by decide +kernel
theorem dX1_readToken_53 : decode cX1_readToken 53 = .ok (.iconst 1, 1) := by decide +kernel
theorem dX1_readToken_54 : decode cX1_readToken 54 = .ok (.iadd, 1) := by decide +kernel
theorem dX1_readToken_55 : decode cX1_readToken 55 = .ok (.putfield 28, 3) := by decide +kernel
theorem dX1_readToken_58 : decode cX1_readToken 58 = .ok (.goto (-49), 3) := by decide +kernel
theorem dX1_readToken_61 : decode cX1_readToken 61 = .ok (.aload_n 0, 1) := by decide +kernel
theorem dX1_readToken_62 : decode cX1_readToken 62 = .ok (.aload_n 0, 1) := by decide +kernel
theorem dX1_readToken_63 : decode cX1_readToken 63 = .ok (.getfield 28, 3) := by decide +kernel
theorem dX1_readToken_66 : decode cX1_readToken 66 = .ok (.putfield 56, 3) := by decide +kernel
theorem dX1_readToken_69 : decode cX1_readToken 69 = .ok (.aload_n 0, 1) := by decide +kernel
theorem dX1_readToken_70 : decode cX1_readToken 70 = .ok (.getfield 28, 3) := by decide +kernel
theorem dX1_readToken_73 : decode cX1_readToken 73 = .ok (.aload_n 0, 1) := by decide +kernel
theorem dX1_readToken_74 : decode cX1_readToken 74 = .ok (.getfield 15, 3) := by decide +kernel
theorem dX1_readToken_77 : decode cX1_readToken 77 = .ok (.if_icmp .lt 11, 3) := by decide +kernel
theorem dX1_readToken_80 : decode cX1_readToken 80 = .ok (.aload_n 0, 1) := by decide +kernel
theorem dX1_readToken_81 : decode cX1_readToken 81 = .ok (.iconst 0, 1) := by decide +kernel
theorem dX1_readToken_82 : decode cX1_readToken 82 = .ok (.putfield 50, 3) := by decide +kernel
theorem dX1_readToken_85 : decode cX1_readToken 85 = .ok (.goto 100, 3) := by decide +kernel
theorem dX1_readToken_88 : decode cX1_readToken 88 = .ok (.aload_n 0, 1) := by decide +kernel
theorem dX1_readToken_89 : decode cX1_readToken 89 = .ok (.getfield 9, 3) := by decide +kernel
theorem dX1_readToken_92 : decode cX1_readToken 92 = .ok (.aload_n 0, 1) := by decide +kernel
theorem dX1_readToken_93 : decode cX1_readToken 93 = .ok (.getfield 28, 3) := by decide +kernel
theorem dX1_readToken_96 : decode cX1_readToken 96 = .ok (.iaload, 1) := by decide +kernel
theorem dX1_readToken_97 : decode cX1_readToken 97 = .ok (.bipush 97, 2) := by decide +kernel
theorem dX1_readToken_99 : decode cX1_readToken 99 = .ok (.bipush 122, 2) := by decide +kernel
theorem dX1_readToken_101 : decode cX1_readToken 101 = .ok (.invokestatic 87, 3) := by decide +kernel
theorem dX1_readToken_104 : decode cX1_readToken 104 = .ok (.ifCond .eq 10, 3) := by decide +kernel
theorem dX1_readToken_107 : decode cX1_readToken 107 = .ok (.aload_n 0, 1) := by decide +kernel
theorem dX1_readToken_108 : decode cX1_readToken 108 = .ok (.invokevirtual 91, 3) := by decide +kernel
theorem dX1_readToken_111 : decode cX1_readToken 111 = .ok (.goto 74, 3) := by decide +kernel
theorem dX1_readToken_114 : decode cX1_readToken 114 = .ok (.aload_n 0, 1) := by decide +kernel
theorem dX1_readToken_115 : decode cX1_readToken 115 = .ok (.getfield 9, 3) := by decide +kernel
theorem dX1_readToken_118 : decode cX1_readToken 118 = .ok (.aload_n 0, 1) := by decide +kernel
theorem dX1_readToken_119 : decode cX1_readToken 119 = .ok (.getfield 28, 3) := by decide +kernel
theorem dX1_readToken_122 : decode cX1_readToken 122 = .ok (.iaload, 1) := by decide +kernel
theorem dX1_readToken_123 : decode cX1_readToken 123 = .ok (.bipush 48, 2) := by decide +kernel
theorem dX1_readToken_125 : decode cX1_readToken 125 = .ok (.bipush 57, 2) := by decide +kernel
theorem dX1_readToken_127 : decode cX1_readToken 127 = .ok (.invokestatic 87, 3) := by decide +kernel
theorem dX1_readToken_130 : decode cX1_readToken 130 = .ok (.ifCond .eq 10, 3) := by decide +kernel
theorem dX1_readToken_133 : decode cX1_readToken 133 = .ok (.aload_n 0, 1) := by decide +kernel
theorem dX1_readToken_134 : decode cX1_readToken 134 = .ok (.invokevirtual 94, 3) := by decide +kernel
theorem dX1_readToken_137 : decode cX1_readToken 137 = .ok (.goto 48, 3) := by decide +kernel
theorem dX1_readToken_140 : decode cX1_readToken 140 = .ok (.aload_n 0, 1) := by decide +kernel
theorem dX1_readToken_141 : decode cX1_readToken 141 = .ok (.ldc 97, 2) := by decide +kernel
theorem dX1_readToken_143 : decode cX1_readToken 143 = .ok (.aload_n 0, 1) := by decide +kernel
theorem dX1_readToken_144 : decode cX1_readToken 144 = .ok (.getfield 9, 3) := by decide +kernel
theorem dX1_readToken_147 : decode cX1_readToken 147 = .ok (.aload_n 0, 1) := by decide +kernel
theorem dX1_readToken_148 : decode cX1_readToken 148 = .ok (.getfield 28, 3) := by decide +kernel
theorem dX1_readToken_151 : decode cX1_readToken 151 = .ok (.iaload, 1) := by decide +kernel
theorem dX1_readToken_152 : decode cX1_readToken 152 = .ok (.i2c, 1) := by decide +kernel
theorem dX1_readToken_153 : decode cX1_readToken 153 = .ok (.invokevirtual 99, 3) := by decide +kernel
theorem dX1_readToken_156 : decode cX1_readToken 156 = .ok (.ifCond .lt 15, 3) := by decide +kernel
theorem dX1_readToken_159 : decode cX1_readToken 159 = .ok (.aload_n 0, 1) := by decide +kernel
theorem dX1_readToken_160 : decode cX1_readToken 160 = .ok (.getfield 9, 3) := by decide +kernel
theorem dX1_readToken_163 : decode cX1_readToken 163 = .ok (.aload_n 0, 1) := by decide +kernel
theorem dX1_readToken_164 : decode cX1_readToken 164 = .ok (.getfield 28, 3) := by decide +kernel
theorem dX1_readToken_167 : decode cX1_readToken 167 = .ok (.iaload, 1) := by decide +kernel
theorem dX1_readToken_168 : decode cX1_readToken 168 = .ok (.goto 4, 3) := by decide +kernel
theorem dX1_readToken_171 : decode cX1_readToken 171 = .ok (.iconst 1, 1) := by decide +kernel
theorem dX1_readToken_172 : decode cX1_readToken 172 = .ok (.putfield 50, 3) := by decide +kernel
theorem dX1_readToken_175 : decode cX1_readToken 175 = .ok (.aload_n 0, 1) := by decide +kernel
theorem dX1_readToken_176 : decode cX1_readToken 176 = .ok (.dup, 1) := by decide +kernel
theorem dX1_readToken_177 : decode cX1_readToken 177 = .ok (.getfield 28, 3) := by decide +kernel
theorem dX1_readToken_180 : decode cX1_readToken 180 = .ok (.iconst 1, 1) := by decide +kernel
theorem dX1_readToken_181 : decode cX1_readToken 181 = .ok (.iadd, 1) := by decide +kernel
theorem dX1_readToken_182 : decode cX1_readToken 182 = .ok (.putfield 28, 3) := by decide +kernel
theorem dX1_readToken_185 : decode cX1_readToken 185 = .ok (.return_, 1) := by decide +kernel
theorem dX1_readNumeral_0 : decode cX1_readNumeral 0 = .ok (.aload_n 0, 1) := by decide +kernel
theorem dX1_readNumeral_1 : decode cX1_readNumeral 1 = .ok (.iconst 0, 1) := by decide +kernel
theorem dX1_readNumeral_2 : decode cX1_readNumeral 2 = .ok (.putfield 84, 3) := by decide +kernel
theorem dX1_readNumeral_5 : decode cX1_readNumeral 5 = .ok (.aload_n 0, 1) := by decide +kernel
theorem dX1_readNumeral_6 : decode cX1_readNumeral 6 = .ok (.getfield 28, 3) := by decide +kernel
theorem dX1_readNumeral_9 : decode cX1_readNumeral 9 = .ok (.aload_n 0, 1) := by decide +kernel
theorem dX1_readNumeral_10 : decode cX1_readNumeral 10 = .ok (.getfield 15, 3) := by decide +kernel
theorem dX1_readNumeral_13 : decode cX1_readNumeral 13 = .ok (.if_icmp .ge 59, 3) := by decide +kernel
theorem dX1_readNumeral_16 : decode cX1_readNumeral 16 = .ok (.aload_n 0, 1) := by decide +kernel
theorem dX1_readNumeral_17 : decode cX1_readNumeral 17 = .ok (.getfield 9, 3) := by decide +kernel
theorem dX1_readNumeral_20 : decode cX1_readNumeral 20 = .ok (.aload_n 0, 1) := by decide +kernel
theorem dX1_readNumeral_21 : decode cX1_readNumeral 21 = .ok (.getfield 28, 3) := by decide +kernel
theorem dX1_readNumeral_24 : decode cX1_readNumeral 24 = .ok (.iaload, 1) := by decide +kernel
theorem dX1_readNumeral_25 : decode cX1_readNumeral 25 = .ok (.bipush 48, 2) := by decide +kernel
theorem dX1_readNumeral_27 : decode cX1_readNumeral 27 = .ok (.bipush 57, 2) := by decide +kernel
theorem dX1_readNumeral_29 : decode cX1_readNumeral 29 = .ok (.invokestatic 87, 3) := by decide +kernel
theorem dX1_readNumeral_32 : decode cX1_readNumeral 32 = .ok (.ifCond .eq 40, 3) := by decide +kernel
theorem dX1_readNumeral_35 : decode cX1_readNumeral 35 = .ok (.aload_n 0, 1) := by decide +kernel
theorem dX1_readNumeral_36 : decode cX1_readNumeral 36 = .ok (.aload_n 0, 1) := by decide +kernel
theorem dX1_readNumeral_37 : decode cX1_readNumeral 37 = .ok (.getfield 84, 3) := by decide +kernel
theorem dX1_readNumeral_40 : decode cX1_readNumeral 40 = .ok (.bipush 10, 2) := by decide +kernel
theorem dX1_readNumeral_42 : decode cX1_readNumeral 42 = .ok (.imul, 1) := by decide +kernel
theorem dX1_readNumeral_43 : decode cX1_readNumeral 43 = .ok (.aload_n 0, 1) := by decide +kernel
theorem dX1_readNumeral_44 : decode cX1_readNumeral 44 = .ok (.getfield 9, 3) := by decide +kernel
theorem dX1_readNumeral_47 : decode cX1_readNumeral 47 = .ok (.aload_n 0, 1) := by decide +kernel
theorem dX1_readNumeral_48 : decode cX1_readNumeral 48 = .ok (.getfield 28, 3) := by decide +kernel
theorem dX1_readNumeral_51 : decode cX1_readNumeral 51 = .ok (.iaload, 1) := by decide +kernel
theorem dX1_readNumeral_52 : decode cX1_readNumeral 52 = .ok (.iadd, 1) := by decide +kernel
theorem dX1_readNumeral_53 : decode cX1_readNumeral 53 = .ok (.bipush 48, 2) := by decide +kernel
theorem dX1_readNumeral_55 : decode cX1_readNumeral 55 = .ok (.isub, 1) := by decide +kernel
theorem dX1_readNumeral_56 : decode cX1_readNumeral 56 = .ok (.putfield 84, 3) := by decide +kernel
theorem dX1_readNumeral_59 : decode cX1_readNumeral 59 = .ok (.aload_n 0, 1) := by decide +kernel
theorem dX1_readNumeral_60 : decode cX1_readNumeral 60 = .ok (.dup, 1) := by decide +kernel
theorem dX1_readNumeral_61 : decode cX1_readNumeral 61 = .ok (.getfield 28, 3) := by decide +kernel
theorem dX1_readNumeral_64 : decode cX1_readNumeral 64 = .ok (.iconst 1, 1) := by decide +kernel
theorem dX1_readNumeral_65 : decode cX1_readNumeral 65 = .ok (.iadd, 1) := by decide +kernel
theorem dX1_readNumeral_66 : decode cX1_readNumeral 66 = .ok (.putfield 28, 3) := by decide +kernel
theorem dX1_readNumeral_69 : decode cX1_readNumeral 69 = .ok (.goto (-64), 3) := by decide +kernel
theorem dX1_readNumeral_72 : decode cX1_readNumeral 72 = .ok (.aload_n 0, 1) := by decide +kernel
theorem dX1_readNumeral_73 : decode cX1_readNumeral 73 = .ok (.aload_n 0, 1) := by decide +kernel
theorem dX1_readNumeral_74 : decode cX1_readNumeral 74 = .ok (.getfield 28, 3) := by decide +kernel
theorem dX1_readNumeral_77 : decode cX1_readNumeral 77 = .ok (.aload_n 0, 1) := by decide +kernel
theorem dX1_readNumeral_78 : decode cX1_readNumeral 78 = .ok (.getfield 56, 3) := by decide +kernel
theorem dX1_readNumeral_81 : decode cX1_readNumeral 81 = .ok (.isub, 1) := by decide +kernel
theorem dX1_readNumeral_82 : decode cX1_readNumeral 82 = .ok (.iconst 4, 1) := by decide +kernel
theorem dX1_readNumeral_83 : decode cX1_readNumeral 83 = .ok (.if_icmp .gt 7, 3) := by decide +kernel
theorem dX1_readNumeral_86 : decode cX1_readNumeral 86 = .ok (.iconst 2, 1) := by decide +kernel
theorem dX1_readNumeral_87 : decode cX1_readNumeral 87 = .ok (.goto 4, 3) := by decide +kernel
theorem dX1_readNumeral_90 : decode cX1_readNumeral 90 = .ok (.iconst 1, 1) := by decide +kernel
theorem dX1_readNumeral_91 : decode cX1_readNumeral 91 = .ok (.putfield 50, 3) := by decide +kernel
theorem dX1_readNumeral_94 : decode cX1_readNumeral 94 = .ok (.return_, 1) := by decide +kernel
theorem dX1_readWord_0 : decode cX1_readWord 0 = .ok (.aload_n 0, 1) := by decide +kernel
theorem dX1_readWord_1 : decode cX1_readWord 1 = .ok (.getfield 28, 3) := by decide +kernel
theorem dX1_readWord_4 : decode cX1_readWord 4 = .ok (.aload_n 0, 1) := by decide +kernel
theorem dX1_readWord_5 : decode cX1_readWord 5 = .ok (.getfield 15, 3) := by decide +kernel
theorem dX1_readWord_8 : decode cX1_readWord 8 = .ok (.if_icmp .ge 35, 3) := by decide +kernel
theorem dX1_readWord_11 : decode cX1_readWord 11 = .ok (.aload_n 0, 1) := by decide +kernel
theorem dX1_readWord_12 : decode cX1_readWord 12 = .ok (.getfield 9, 3) := by decide +kernel
theorem dX1_readWord_15 : decode cX1_readWord 15 = .ok (.aload_n 0, 1) := by decide +kernel
theorem dX1_readWord_16 : decode cX1_readWord 16 = .ok (.getfield 28, 3) := by decide +kernel
theorem dX1_readWord_19 : decode cX1_readWord 19 = .ok (.iaload, 1) := by decide +kernel
theorem dX1_readWord_20 : decode cX1_readWord 20 = .ok (.bipush 97, 2) := by decide +kernel
theorem dX1_readWord_22 : decode cX1_readWord 22 = .ok (.bipush 122, 2) := by decide +kernel
theorem dX1_readWord_24 : decode cX1_readWord 24 = .ok (.invokestatic 87, 3) := by decide +kernel
theorem dX1_readWord_27 : decode cX1_readWord 27 = .ok (.ifCond .eq 16, 3) := by decide +kernel
theorem dX1_readWord_30 : decode cX1_readWord 30 = .ok (.aload_n 0, 1) := by decide +kernel
theorem dX1_readWord_31 : decode cX1_readWord 31 = .ok (.dup, 1) := by decide +kernel
theorem dX1_readWord_32 : decode cX1_readWord 32 = .ok (.getfield 28, 3) := by decide +kernel
theorem dX1_readWord_35 : decode cX1_readWord 35 = .ok (.iconst 1, 1) := by decide +kernel
theorem dX1_readWord_36 : decode cX1_readWord 36 = .ok (.iadd, 1) := by decide +kernel
theorem dX1_readWord_37 : decode cX1_readWord 37 = .ok (.putfield 28, 3) := by decide +kernel
theorem dX1_readWord_40 : decode cX1_readWord 40 = .ok (.goto (-40), 3) := by decide +kernel
theorem dX1_readWord_43 : decode cX1_readWord 43 = .ok (.aload_n 0, 1) := by decide +kernel
theorem dX1_readWord_44 : decode cX1_readWord 44 = .ok (.aload_n 0, 1) := by decide +kernel
theorem dX1_readWord_45 : decode cX1_readWord 45 = .ok (.invokevirtual 105, 3) := by decide +kernel
theorem dX1_readWord_48 : decode cX1_readWord 48 = .ok (.putfield 84, 3) := by decide +kernel
theorem dX1_readWord_51 : decode cX1_readWord 51 = .ok (.aload_n 0, 1) := by decide +kernel
theorem dX1_readWord_52 : decode cX1_readWord 52 = .ok (.getfield 84, 3) := by decide +kernel
theorem dX1_readWord_55 : decode cX1_readWord 55 = .ok (.iconst (-1), 1) := by decide +kernel
theorem dX1_readWord_56 : decode cX1_readWord 56 = .ok (.if_icmp .ne 11, 3) := by decide +kernel
theorem dX1_readWord_59 : decode cX1_readWord 59 = .ok (.aload_n 0, 1) := by decide +kernel
theorem dX1_readWord_60 : decode cX1_readWord 60 = .ok (.iconst 1, 1) := by decide +kernel
theorem dX1_readWord_61 : decode cX1_readWord 61 = .ok (.putfield 50, 3) := by decide +kernel
theorem dX1_readWord_64 : decode cX1_readWord 64 = .ok (.goto 29, 3) := by decide +kernel
theorem dX1_readWord_67 : decode cX1_readWord 67 = .ok (.aload_n 0, 1) := by decide +kernel
theorem dX1_readWord_68 : decode cX1_readWord 68 = .ok (.aload_n 0, 1) := by decide +kernel
theorem dX1_readWord_69 : decode cX1_readWord 69 = .ok (.getfield 84, 3) := by decide +kernel
theorem dX1_readWord_72 : decode cX1_readWord 72 = .ok (.bipush 6, 2) := by decide +kernel
theorem dX1_readWord_74 : decode cX1_readWord 74 = .ok (.if_icmp .ge 7, 3) := by decide +kernel
theorem dX1_readWord_77 : decode cX1_readWord 77 = .ok (.iconst 3, 1) := by decide +kernel
theorem dX1_readWord_78 : decode cX1_readWord 78 = .ok (.goto 12, 3) := by decide +kernel
theorem dX1_readWord_81 : decode cX1_readWord 81 = .ok (.iconst 4, 1) := by decide +kernel
theorem dX1_readWord_82 : decode cX1_readWord 82 = .ok (.aload_n 0, 1) := by decide +kernel
theorem dX1_readWord_83 : decode cX1_readWord 83 = .ok (.getfield 84, 3) := by decide +kernel
theorem dX1_readWord_86 : decode cX1_readWord 86 = .ok (.iadd, 1) := by decide +kernel
theorem dX1_readWord_87 : decode cX1_readWord 87 = .ok (.bipush 6, 2) := by decide +kernel
theorem dX1_readWord_89 : decode cX1_readWord 89 = .ok (.isub, 1) := by decide +kernel
theorem dX1_readWord_90 : decode cX1_readWord 90 = .ok (.putfield 50, 3) := by decide +kernel
theorem dX1_readWord_93 : decode cX1_readWord 93 = .ok (.return_, 1) := by decide +kernel
theorem dX1_wordNumber_0 : decode cX1_wordNumber 0 = .ok (.iconst 0, 1) := by decide +kernel
theorem dX1_wordNumber_1 : decode cX1_wordNumber 1 = .ok (.istore_n 1, 1) := by decide +kernel
theorem dX1_wordNumber_2 : decode cX1_wordNumber 2 = .ok (.aload_n 0, 1) := by decide +kernel
theorem dX1_wordNumber_3 : decode cX1_wordNumber 3 = .ok (.getfield 56, 3) := by decide +kernel
theorem dX1_wordNumber_6 : decode cX1_wordNumber 6 = .ok (.istore_n 2, 1) := by decide +kernel
theorem dX1_wordNumber_7 : decode cX1_wordNumber 7 = .ok (.iconst 1, 1) := by decide +kernel
theorem dX1_wordNumber_8 : decode cX1_wordNumber 8 = .ok (.istore_n 3, 1) := by decide +kernel
theorem dX1_wordNumber_9 : decode cX1_wordNumber 9 = .ok (.iconst 0, 1) := by decide +kernel
theorem dX1_wordNumber_10 : decode cX1_wordNumber 10 = .ok (.istore 4, 2) := by decide +kernel
theorem dX1_wordNumber_12 : decode cX1_wordNumber 12 = .ok (.iload 4, 2) := by decide +kernel
theorem dX1_wordNumber_14 : decode cX1_wordNumber 14 = .ok (.ldc 109, 2) := by decide +kernel
theorem dX1_wordNumber_16 : decode cX1_wordNumber 16 = .ok (.invokevirtual 111, 3) := by decide +kernel
theorem dX1_wordNumber_19 : decode cX1_wordNumber 19 = .ok (.if_icmp .ge 84, 3) := by decide +kernel
theorem dX1_wordNumber_22 : decode cX1_wordNumber 22 = .ok (.ldc 109, 2) := by decide +kernel
theorem dX1_wordNumber_24 : decode cX1_wordNumber 24 = .ok (.iload 4, 2) := by decide +kernel
theorem dX1_wordNumber_26 : decode cX1_wordNumber 26 = .ok (.invokevirtual 114, 3) := by decide +kernel
theorem dX1_wordNumber_29 : decode cX1_wordNumber 29 = .ok (.istore 5, 2) := by decide +kernel
theorem dX1_wordNumber_31 : decode cX1_wordNumber 31 = .ok (.iload 5, 2) := by decide +kernel
theorem dX1_wordNumber_33 : decode cX1_wordNumber 33 = .ok (.bipush 32, 2) := by decide +kernel
theorem dX1_wordNumber_35 : decode cX1_wordNumber 35 = .ok (.if_icmp .eq 38, 3) := by decide +kernel
theorem dX1_wordNumber_38 : decode cX1_wordNumber 38 = .ok (.iload_n 3, 1) := by decide +kernel
theorem dX1_wordNumber_39 : decode cX1_wordNumber 39 = .ok (.ifCond .eq 26, 3) := by decide +kernel
theorem dX1_wordNumber_42 : decode cX1_wordNumber 42 = .ok (.iload_n 2, 1) := by decide +kernel
theorem dX1_wordNumber_43 : decode cX1_wordNumber 43 = .ok (.aload_n 0, 1) := by decide +kernel
theorem dX1_wordNumber_44 : decode cX1_wordNumber 44 = .ok (.getfield 28, 3) := by decide +kernel
theorem dX1_wordNumber_47 : decode cX1_wordNumber 47 = .ok (.if_icmp .ge 18, 3) := by decide +kernel
theorem dX1_wordNumber_50 : decode cX1_wordNumber 50 = .ok (.aload_n 0, 1) := by decide +kernel
theorem dX1_wordNumber_51 : decode cX1_wordNumber 51 = .ok (.getfield 9, 3) := by decide +kernel
theorem dX1_wordNumber_54 : decode cX1_wordNumber 54 = .ok (.iload_n 2, 1) := by decide +kernel
theorem dX1_wordNumber_55 : decode cX1_wordNumber 55 = .ok (.iaload, 1) := by decide +kernel
theorem dX1_wordNumber_56 : decode cX1_wordNumber 56 = .ok (.iload 5, 2) := by decide +kernel
theorem dX1_wordNumber_58 : decode cX1_wordNumber 58 = .ok (.if_icmp .ne 7, 3) := by decide +kernel
theorem dX1_wordNumber_61 : decode cX1_wordNumber 61 = .ok (.iconst 1, 1) := by decide +kernel
theorem dX1_wordNumber_62 : decode cX1_wordNumber 62 = .ok (.goto 4, 3) := by decide +kernel
theorem dX1_wordNumber_65 : decode cX1_wordNumber 65 = .ok (.iconst 0, 1) := by decide +kernel
theorem dX1_wordNumber_66 : decode cX1_wordNumber 66 = .ok (.istore_n 3, 1) := by decide +kernel
theorem dX1_wordNumber_67 : decode cX1_wordNumber 67 = .ok (.iinc 2 1, 3) := by decide +kernel
theorem dX1_wordNumber_70 : decode cX1_wordNumber 70 = .ok (.goto 27, 3) := by decide +kernel
theorem dX1_wordNumber_73 : decode cX1_wordNumber 73 = .ok (.iload_n 3, 1) := by decide +kernel
theorem dX1_wordNumber_74 : decode cX1_wordNumber 74 = .ok (.ifCond .eq 13, 3) := by decide +kernel
theorem dX1_wordNumber_77 : decode cX1_wordNumber 77 = .ok (.iload_n 2, 1) := by decide +kernel
theorem dX1_wordNumber_78 : decode cX1_wordNumber 78 = .ok (.aload_n 0, 1) := by decide +kernel
theorem dX1_wordNumber_79 : decode cX1_wordNumber 79 = .ok (.getfield 28, 3) := by decide +kernel
theorem dX1_wordNumber_82 : decode cX1_wordNumber 82 = .ok (.if_icmp .ne 5, 3) := by decide +kernel
theorem dX1_wordNumber_85 : decode cX1_wordNumber 85 = .ok (.iload_n 1, 1) := by decide +kernel
theorem dX1_wordNumber_86 : decode cX1_wordNumber 86 = .ok (.ireturn, 1) := by decide +kernel
theorem dX1_wordNumber_87 : decode cX1_wordNumber 87 = .ok (.iinc 1 1, 3) := by decide +kernel
theorem dX1_wordNumber_90 : decode cX1_wordNumber 90 = .ok (.aload_n 0, 1) := by decide +kernel
theorem dX1_wordNumber_91 : decode cX1_wordNumber 91 = .ok (.getfield 56, 3) := by decide +kernel
theorem dX1_wordNumber_94 : decode cX1_wordNumber 94 = .ok (.istore_n 2, 1) := by decide +kernel
theorem dX1_wordNumber_95 : decode cX1_wordNumber 95 = .ok (.iconst 1, 1) := by decide +kernel
theorem dX1_wordNumber_96 : decode cX1_wordNumber 96 = .ok (.istore_n 3, 1) := by decide +kernel
theorem dX1_wordNumber_97 : decode cX1_wordNumber 97 = .ok (.iinc 4 1, 3) := by decide +kernel
theorem dX1_wordNumber_100 : decode cX1_wordNumber 100 = .ok (.goto (-88), 3) := by decide +kernel
theorem dX1_wordNumber_103 : decode cX1_wordNumber 103 = .ok (.iconst (-1), 1) := by decide +kernel
theorem dX1_wordNumber_104 : decode cX1_wordNumber 104 = .ok (.ireturn, 1) := by decide +kernel
theorem dX2_init_0 : decode cX2_init 0 = .ok (.aload_n 0, 1) := by decide +kernel
theorem dX2_init_1 : decode cX2_init 1 = .ok (.invokespecial 3, 3) := by decide +kernel
theorem dX2_init_4 : decode cX2_init 4 = .ok (.aload_n 0, 1) := by decide +kernel
theorem dX2_init_5 : decode cX2_init 5 = .ok (.bipush 40, 2) := by decide +kernel
theorem dX2_init_7 : decode cX2_init 7 = .ok (.newarray .int, 2) := by decide +kernel
theorem dX2_init_9 : decode cX2_init 9 = .ok (.putfield 9, 3) := by decide +kernel
theorem dX2_init_12 : decode cX2_init 12 = .ok (.aload_n 0, 1) := by decide +kernel
theorem dX2_init_13 : decode cX2_init 13 = .ok (.iconst (-1), 1) := by decide +kernel
theorem dX2_init_14 : decode cX2_init 14 = .ok (.putfield 15, 3) := by decide +kernel
theorem dX2_init_17 : decode cX2_init 17 = .ok (.return_, 1) := by decide +kernel
theorem dX2_isMissing_0 : decode cX2_isMissing 0 = .ok (.aload_n 0, 1) := by decide +kernel
theorem dX2_isMissing_1 : decode cX2_isMissing 1 = .ok (.getfield 15, 3) := by decide +kernel
theorem dX2_isMissing_4 : decode cX2_isMissing 4 = .ok (.iconst (-1), 1) := by decide +kernel
theorem dX2_isMissing_5 : decode cX2_isMissing 5 = .ok (.if_icmp .ne 7, 3) := by decide +kernel
theorem dX2_isMissing_8 : decode cX2_isMissing 8 = .ok (.iconst 1, 1) := by decide +kernel
theorem dX2_isMissing_9 : decode cX2_isMissing 9 = .ok (.goto 4, 3) := by decide +kernel
theorem dX2_isMissing_12 : decode cX2_isMissing 12 = .ok (.iconst 0, 1) := by decide +kernel
theorem dX2_isMissing_13 : decode cX2_isMissing 13 = .ok (.ireturn, 1) := by decide +kernel
theorem dX2_clear_0 : decode cX2_clear 0 = .ok (.aload_n 0, 1) := by decide +kernel
theorem dX2_clear_1 : decode cX2_clear 1 = .ok (.iload_n 1, 1) := by decide +kernel
theorem dX2_clear_2 : decode cX2_clear 2 = .ok (.putfield 15, 3) := by decide +kernel
theorem dX2_clear_5 : decode cX2_clear 5 = .ok (.aload_n 0, 1) := by decide +kernel
theorem dX2_clear_6 : decode cX2_clear 6 = .ok (.iload_n 2, 1) := by decide +kernel
theorem dX2_clear_7 : decode cX2_clear 7 = .ok (.putfield 19, 3) := by decide +kernel
theorem dX2_clear_10 : decode cX2_clear 10 = .ok (.iconst 0, 1) := by decide +kernel
theorem dX2_clear_11 : decode cX2_clear 11 = .ok (.istore_n 3, 1) := by decide +kernel
theorem dX2_clear_12 : decode cX2_clear 12 = .ok (.iload_n 3, 1) := by decide +kernel
theorem dX2_clear_13 : decode cX2_clear 13 = .ok (.bipush 40, 2) := by decide +kernel
theorem dX2_clear_15 : decode cX2_clear 15 = .ok (.if_icmp .ge 16, 3) := by decide +kernel
theorem dX2_clear_18 : decode cX2_clear 18 = .ok (.aload_n 0, 1) := by decide +kernel
theorem dX2_clear_19 : decode cX2_clear 19 = .ok (.getfield 9, 3) := by decide +kernel
theorem dX2_clear_22 : decode cX2_clear 22 = .ok (.iload_n 3, 1) := by decide +kernel
theorem dX2_clear_23 : decode cX2_clear 23 = .ok (.iconst 0, 1) := by decide +kernel
theorem dX2_clear_24 : decode cX2_clear 24 = .ok (.iastore, 1) := by decide +kernel
theorem dX2_clear_25 : decode cX2_clear 25 = .ok (.iinc 3 1, 3) := by decide +kernel
theorem dX2_clear_28 : decode cX2_clear 28 = .ok (.goto (-16), 3) := by decide +kernel
theorem dX2_clear_31 : decode cX2_clear 31 = .ok (.return_, 1) := by decide +kernel
theorem dX2_hasItem_0 : decode cX2_hasItem 0 = .ok (.iload_n 1, 1) := by decide +kernel
theorem dX2_hasItem_1 : decode cX2_hasItem 1 = .ok (.ifCond .lt 15, 3) := by decide +kernel
theorem dX2_hasItem_4 : decode cX2_hasItem 4 = .ok (.iload_n 1, 1) := by decide +kernel
theorem dX2_hasItem_5 : decode cX2_hasItem 5 = .ok (.aload_n 0, 1) := by decide +kernel
theorem dX2_hasItem_6 : decode cX2_hasItem 6 = .ok (.getfield 19, 3) := by decide +kernel
theorem dX2_hasItem_9 : decode cX2_hasItem 9 = .ok (.if_icmp .ge 7, 3) := by decide +kernel
theorem dX2_hasItem_12 : decode cX2_hasItem 12 = .ok (.iconst 1, 1) := by decide +kernel
theorem dX2_hasItem_13 : decode cX2_hasItem 13 = .ok (.goto 4, 3) := by decide +kernel
theorem dX2_hasItem_16 : decode cX2_hasItem 16 = .ok (.iconst 0, 1) := by decide +kernel
theorem dX2_hasItem_17 : decode cX2_hasItem 17 = .ok (.ireturn, 1) := by decide +kernel
theorem dX2_hasPiece_0 : decode cX2_hasPiece 0 = .ok (.iload_n 1, 1) := by decide +kernel
theorem dX2_hasPiece_1 : decode cX2_hasPiece 1 = .ok (.ifCond .lt 21, 3) := by decide +kernel
theorem dX2_hasPiece_4 : decode cX2_hasPiece 4 = .ok (.iload_n 2, 1) := by decide +kernel
theorem dX2_hasPiece_5 : decode cX2_hasPiece 5 = .ok (.ifCond .lt 17, 3) := by decide +kernel
theorem dX2_hasPiece_8 : decode cX2_hasPiece 8 = .ok (.iload_n 1, 1) := by decide +kernel
theorem dX2_hasPiece_9 : decode cX2_hasPiece 9 = .ok (.aload_n 0, 1) := by decide +kernel
theorem dX2_hasPiece_10 : decode cX2_hasPiece 10 = .ok (.getfield 19, 3) := by decide +kernel
theorem dX2_hasPiece_13 : decode cX2_hasPiece 13 = .ok (.iload_n 2, 1) := by decide +kernel
theorem dX2_hasPiece_14 : decode cX2_hasPiece 14 = .ok (.isub, 1) := by decide +kernel
theorem dX2_hasPiece_15 : decode cX2_hasPiece 15 = .ok (.if_icmp .gt 7, 3) := by decide +kernel
theorem dX2_hasPiece_18 : decode cX2_hasPiece 18 = .ok (.iconst 1, 1) := by decide +kernel
theorem dX2_hasPiece_19 : decode cX2_hasPiece 19 = .ok (.goto 4, 3) := by decide +kernel
theorem dX2_hasPiece_22 : decode cX2_hasPiece 22 = .ok (.iconst 0, 1) := by decide +kernel
theorem dX2_hasPiece_23 : decode cX2_hasPiece 23 = .ok (.ireturn, 1) := by decide +kernel
theorem dX2_put_0 : decode cX2_put 0 = .ok (.aload_n 0, 1) := by decide +kernel
theorem dX2_put_1 : decode cX2_put 1 = .ok (.getfield 15, 3) := by decide +kernel
theorem dX2_put_4 : decode cX2_put 4 = .ok (.lookupswitch 50 #[(0, 28), (1, 39)], 28) := by decide +kernel
theorem dX2_put_32 : decode cX2_put 32 = .ok (.aload_n 0, 1) := by decide +kernel
theorem dX2_put_33 : decode cX2_put 33 = .ok (.getfield 9, 3) := by decide +kernel
theorem dX2_put_36 : decode cX2_put 36 = .ok (.iload_n 1, 1) := by decide +kernel
theorem dX2_put_37 : decode cX2_put 37 = .ok (.iload_n 2, 1) := by decide +kernel
theorem dX2_put_38 : decode cX2_put 38 = .ok (.i2b, 1) := by decide +kernel
theorem dX2_put_39 : decode cX2_put 39 = .ok (.iastore, 1) := by decide +kernel
theorem dX2_put_40 : decode cX2_put 40 = .ok (.goto 21, 3) := by decide +kernel
theorem dX2_put_43 : decode cX2_put 43 = .ok (.aload_n 0, 1) := by decide +kernel
theorem dX2_put_44 : decode cX2_put 44 = .ok (.getfield 9, 3) := by decide +kernel
theorem dX2_put_47 : decode cX2_put 47 = .ok (.iload_n 1, 1) := by decide +kernel
theorem dX2_put_48 : decode cX2_put 48 = .ok (.iload_n 2, 1) := by decide +kernel
theorem dX2_put_49 : decode cX2_put 49 = .ok (.i2s, 1) := by decide +kernel
theorem dX2_put_50 : decode cX2_put 50 = .ok (.iastore, 1) := by decide +kernel
theorem dX2_put_51 : decode cX2_put 51 = .ok (.goto 10, 3) := by decide +kernel
theorem dX2_put_54 : decode cX2_put 54 = .ok (.aload_n 0, 1) := by decide +kernel
theorem dX2_put_55 : decode cX2_put 55 = .ok (.getfield 9, 3) := by decide +kernel
theorem dX2_put_58 : decode cX2_put 58 = .ok (.iload_n 1, 1) := by decide +kernel
theorem dX2_put_59 : decode cX2_put 59 = .ok (.iload_n 2, 1) := by decide +kernel
theorem dX2_put_60 : decode cX2_put 60 = .ok (.iastore, 1) := by decide +kernel
theorem dX2_put_61 : decode cX2_put 61 = .ok (.return_, 1) := by decide +kernel
theorem dX3_init_0 : decode cX3_init 0 = .ok (.aload_n 0, 1) := by decide +kernel
theorem dX3_init_1 : decode cX3_init 1 = .ok (.invokespecial 3, 3) := by decide +kernel
theorem dX3_init_4 : decode cX3_init 4 = .ok (.aload_n 0, 1) := by decide +kernel
theorem dX3_init_5 : decode cX3_init 5 = .ok (.sipush 160, 3) := by decide +kernel
theorem dX3_init_8 : decode cX3_init 8 = .ok (.newarray .int, 2) := by decide +kernel
theorem dX3_init_10 : decode cX3_init 10 = .ok (.putfield 9, 3) := by decide +kernel
theorem dX3_init_13 : decode cX3_init 13 = .ok (.aload_n 0, 1) := by decide +kernel
theorem dX3_init_14 : decode cX3_init 14 = .ok (.iconst 4, 1) := by decide +kernel
theorem dX3_init_15 : decode cX3_init 15 = .ok (.newarray .int, 2) := by decide +kernel
theorem dX3_init_17 : decode cX3_init 17 = .ok (.putfield 15, 3) := by decide +kernel
theorem dX3_init_20 : decode cX3_init 20 = .ok (.return_, 1) := by decide +kernel
theorem dX3_empty_0 : decode cX3_empty 0 = .ok (.aload_n 0, 1) := by decide +kernel
theorem dX3_empty_1 : decode cX3_empty 1 = .ok (.iconst 0, 1) := by decide +kernel
theorem dX3_empty_2 : decode cX3_empty 2 = .ok (.putfield 18, 3) := by decide +kernel
theorem dX3_empty_5 : decode cX3_empty 5 = .ok (.return_, 1) := by decide +kernel
theorem dX3_beginPart_0 : decode cX3_beginPart 0 = .ok (.aload_n 0, 1) := by decide +kernel
theorem dX3_beginPart_1 : decode cX3_beginPart 1 = .ok (.getfield 15, 3) := by decide +kernel
theorem dX3_beginPart_4 : decode cX3_beginPart 4 = .ok (.iload_n 1, 1) := by decide +kernel
theorem dX3_beginPart_5 : decode cX3_beginPart 5 = .ok (.aload_n 0, 1) := by decide +kernel
theorem dX3_beginPart_6 : decode cX3_beginPart 6 = .ok (.getfield 18, 3) := by decide +kernel
theorem dX3_beginPart_9 : decode cX3_beginPart 9 = .ok (.iastore, 1) := by decide +kernel
theorem dX3_beginPart_10 : decode cX3_beginPart 10 = .ok (.return_, 1) := by decide +kernel
theorem dX3_takeStep_0 : decode cX3_takeStep 0 = .ok (.aload_n 0, 1) := by decide +kernel
theorem dX3_takeStep_1 : decode cX3_takeStep 1 = .ok (.getfield 18, 3) := by decide +kernel
theorem dX3_takeStep_4 : decode cX3_takeStep 4 = .ok (.aload_n 0, 1) := by decide +kernel
theorem dX3_takeStep_5 : decode cX3_takeStep 5 = .ok (.getfield 9, 3) := by decide +kernel
theorem dX3_takeStep_8 : decode cX3_takeStep 8 = .ok (.arraylength, 1) := by decide +kernel
theorem dX3_takeStep_9 : decode cX3_takeStep 9 = .ok (.if_icmp .ge 23, 3) := by decide +kernel
theorem dX3_takeStep_12 : decode cX3_takeStep 12 = .ok (.aload_n 0, 1) := by decide +kernel
theorem dX3_takeStep_13 : decode cX3_takeStep 13 = .ok (.getfield 9, 3) := by decide +kernel
theorem dX3_takeStep_16 : decode cX3_takeStep 16 = .ok (.aload_n 0, 1) := by decide +kernel
theorem dX3_takeStep_17 : decode cX3_takeStep 17 = .ok (.getfield 18, 3) := by decide +kernel
theorem dX3_takeStep_20 : decode cX3_takeStep 20 = .ok (.iload_n 1, 1) := by decide +kernel
theorem dX3_takeStep_21 : decode cX3_takeStep 21 = .ok (.iastore, 1) := by decide +kernel
theorem dX3_takeStep_22 : decode cX3_takeStep 22 = .ok (.aload_n 0, 1) := by decide +kernel
theorem dX3_takeStep_23 : decode cX3_takeStep 23 = .ok (.dup, 1) := by decide +kernel
theorem dX3_takeStep_24 : decode cX3_takeStep 24 = .ok (.getfield 18, 3) := by decide +kernel
theorem dX3_takeStep_27 : decode cX3_takeStep 27 = .ok (.iconst 1, 1) := by decide +kernel
theorem dX3_takeStep_28 : decode cX3_takeStep 28 = .ok (.iadd, 1) := by decide +kernel
theorem dX3_takeStep_29 : decode cX3_takeStep 29 = .ok (.putfield 18, 3) := by decide +kernel
theorem dX3_takeStep_32 : decode cX3_takeStep 32 = .ok (.return_, 1) := by decide +kernel
theorem dX3_valueOf_0 : decode cX3_valueOf 0 = .ok (.iconst 0, 1) := by decide +kernel
theorem dX3_valueOf_1 : decode cX3_valueOf 1 = .ok (.istore 4, 2) := by decide +kernel
theorem dX3_valueOf_3 : decode cX3_valueOf 3 = .ok (.aload_n 3, 1) := by decide +kernel
theorem dX3_valueOf_4 : decode cX3_valueOf 4 = .ok (.iconst 0, 1) := by decide +kernel
theorem dX3_valueOf_5 : decode cX3_valueOf 5 = .ok (.iconst 0, 1) := by decide +kernel
theorem dX3_valueOf_6 : decode cX3_valueOf 6 = .ok (.iastore, 1) := by decide +kernel
theorem dX3_valueOf_7 : decode cX3_valueOf 7 = .ok (.aload_n 0, 1) := by decide +kernel
theorem dX3_valueOf_8 : decode cX3_valueOf 8 = .ok (.getfield 15, 3) := by decide +kernel
theorem dX3_valueOf_11 : decode cX3_valueOf 11 = .ok (.iload_n 1, 1) := by decide +kernel
theorem dX3_valueOf_12 : decode cX3_valueOf 12 = .ok (.iaload, 1) := by decide +kernel
theorem dX3_valueOf_13 : decode cX3_valueOf 13 = .ok (.istore 5, 2) := by decide +kernel
theorem dX3_valueOf_15 : decode cX3_valueOf 15 = .ok (.iload 5, 2) := by decide +kernel
theorem dX3_valueOf_17 : decode cX3_valueOf 17 = .ok (.aload_n 0, 1) := by decide +kernel
theorem dX3_valueOf_18 : decode cX3_valueOf 18 = .ok (.getfield 15, 3) := by decide +kernel
theorem dX3_valueOf_21 : decode cX3_valueOf 21 = .ok (.iload_n 1, 1) := by decide +kernel
theorem dX3_valueOf_22 : decode cX3_valueOf 22 = .ok (.iconst 1, 1) := by decide +kernel
theorem dX3_valueOf_23 : decode cX3_valueOf 23 = .ok (.iadd, 1) := by decide +kernel
theorem dX3_valueOf_24 : decode cX3_valueOf 24 = .ok (.iaload, 1) := by decide +kernel
theorem dX3_valueOf_25 : decode cX3_valueOf 25 = .ok (.if_icmp .ge 302, 3) := by decide +kernel
theorem dX3_valueOf_28 : decode cX3_valueOf 28 = .ok (.aload_n 0, 1) := by decide +kernel
theorem dX3_valueOf_29 : decode cX3_valueOf 29 = .ok (.getfield 9, 3) := by decide +kernel
theorem dX3_valueOf_32 : decode cX3_valueOf 32 = .ok (.iload 5, 2) := by decide +kernel
theorem dX3_valueOf_34 : decode cX3_valueOf 34 = .ok (.iaload, 1) := by decide +kernel
theorem dX3_valueOf_35 : decode cX3_valueOf 35 = .ok (.istore 6, 2) := by decide +kernel
theorem dX3_valueOf_37 : decode cX3_valueOf 37 = .ok (.iload 6, 2) := by decide +kernel
theorem dX3_valueOf_39 : decode cX3_valueOf 39 = .ok (.bipush (-7), 2) := by decide +kernel
theorem dX3_valueOf_41 : decode cX3_valueOf 41 = .ok (.if_icmp .le 36, 3) := by decide +kernel
theorem dX3_valueOf_44 : decode cX3_valueOf 44 = .ok (.iload 4, 2) := by decide +kernel
theorem dX3_valueOf_46 : decode cX3_valueOf 46 = .ok (.aload_n 3, 1) := by decide +kernel
theorem dX3_valueOf_47 : decode cX3_valueOf 47 = .ok (.arraylength, 1) := by decide +kernel
theorem dX3_valueOf_48 : decode cX3_valueOf 48 = .ok (.if_icmp .ge 29, 3) := by decide +kernel
theorem dX3_valueOf_51 : decode cX3_valueOf 51 = .ok (.aload_n 3, 1) := by decide +kernel
theorem dX3_valueOf_52 : decode cX3_valueOf 52 = .ok (.iload 4, 2) := by decide +kernel
theorem dX3_valueOf_54 : decode cX3_valueOf 54 = .ok (.iload 6, 2) := by decide +kernel
theorem dX3_valueOf_56 : decode cX3_valueOf 56 = .ok (.ifCond .lt 8, 3) := by decide +kernel
theorem dX3_valueOf_59 : decode cX3_valueOf 59 = .ok (.iload 6, 2) := by decide +kernel
theorem dX3_valueOf_61 : decode cX3_valueOf 61 = .ok (.goto 9, 3) := by decide +kernel
theorem dX3_valueOf_64 : decode cX3_valueOf 64 = .ok (.aload_n 2, 1) := by decide +kernel
theorem dX3_valueOf_65 : decode cX3_valueOf 65 = .ok (.iconst (-1), 1) := by decide +kernel
theorem dX3_valueOf_66 : decode cX3_valueOf 66 = .ok (.iload 6, 2) := by decide +kernel
theorem dX3_valueOf_68 : decode cX3_valueOf 68 = .ok (.isub, 1) := by decide +kernel
theorem dX3_valueOf_69 : decode cX3_valueOf 69 = .ok (.iaload, 1) := by decide +kernel
theorem dX3_valueOf_70 : decode cX3_valueOf 70 = .ok (.iastore, 1) := by decide +kernel
theorem dX3_valueOf_71 : decode cX3_valueOf 71 = .ok (.iinc 4 1, 3) := by decide +kernel
theorem dX3_valueOf_74 : decode cX3_valueOf 74 = .ok (.goto 247, 3) := by decide +kernel
theorem dX3_valueOf_77 : decode cX3_valueOf 77 = .ok (.iload 6, 2) := by decide +kernel
theorem dX3_valueOf_79 : decode cX3_valueOf 79 = .ok (.bipush (-8), 2) := by decide +kernel
theorem dX3_valueOf_81 : decode cX3_valueOf 81 = .ok (.if_icmp .lt 49, 3) := by decide +kernel
theorem dX3_valueOf_84 : decode cX3_valueOf 84 = .ok (.iload 4, 2) := by decide +kernel
theorem dX3_valueOf_86 : decode cX3_valueOf 86 = .ok (.iconst 1, 1) := by decide +kernel
theorem dX3_valueOf_87 : decode cX3_valueOf 87 = .ok (.if_icmp .lt 43, 3) := by decide +kernel
theorem dX3_valueOf_90 : decode cX3_valueOf 90 = .ok (.aload_n 3, 1) := by decide +kernel
theorem dX3_valueOf_91 : decode cX3_valueOf 91 = .ok (.iload 4, 2) := by decide +kernel
theorem dX3_valueOf_93 : decode cX3_valueOf 93 = .ok (.iconst 1, 1) := by decide +kernel
theorem dX3_valueOf_94 : decode cX3_valueOf 94 = .ok (.isub, 1) := by decide +kernel
theorem dX3_valueOf_95 : decode cX3_valueOf 95 = .ok (.iaload, 1) := by decide +kernel
theorem dX3_valueOf_96 : decode cX3_valueOf 96 = .ok (.istore 7, 2) := by decide +kernel
theorem dX3_valueOf_98 : decode cX3_valueOf 98 = .ok (.aload_n 3, 1) := by decide +kernel
theorem dX3_valueOf_99 : decode cX3_valueOf 99 = .ok (.iload 4, 2) := by decide +kernel
theorem dX3_valueOf_101 : decode cX3_valueOf 101 = .ok (.iconst 1, 1) := by decide +kernel
theorem dX3_valueOf_102 : decode cX3_valueOf 102 = .ok (.isub, 1) := by decide +kernel
theorem dX3_valueOf_103 : decode cX3_valueOf 103 = .ok (.iload 6, 2) := by decide +kernel
theorem dX3_valueOf_105 : decode cX3_valueOf 105 = .ok (.bipush (-8), 2) := by decide +kernel
theorem dX3_valueOf_107 : decode cX3_valueOf 107 = .ok (.if_icmp .ne 9, 3) := by decide +kernel
theorem dX3_valueOf_110 : decode cX3_valueOf 110 = .ok (.iload 7, 2) := by decide +kernel
theorem dX3_valueOf_112 : decode cX3_valueOf 112 = .ok (.ineg, 1) := by decide +kernel
theorem dX3_valueOf_113 : decode cX3_valueOf 113 = .ok (.goto 13, 3) := by decide +kernel
theorem dX3_valueOf_116 : decode cX3_valueOf 116 = .ok (.iload 7, 2) := by decide +kernel
theorem dX3_valueOf_118 : decode cX3_valueOf 118 = .ok (.ifCond .ne 7, 3) := by decide +kernel
theorem dX3_valueOf_121 : decode cX3_valueOf 121 = .ok (.iconst 1, 1) := by decide +kernel
theorem dX3_valueOf_122 : decode cX3_valueOf 122 = .ok (.goto 4, 3) := by decide +kernel
theorem dX3_valueOf_125 : decode cX3_valueOf 125 = .ok (.iconst 0, 1) := by decide +kernel
theorem dX3_valueOf_126 : decode cX3_valueOf 126 = .ok (.iastore, 1) := by decide +kernel
theorem dX3_valueOf_127 : decode cX3_valueOf 127 = .ok (.goto 194, 3) := by decide +kernel
theorem dX3_valueOf_130 : decode cX3_valueOf 130 = .ok (.iload 4, 2) := by decide +kernel
theorem dX3_valueOf_132 : decode cX3_valueOf 132 = .ok (.iconst 2, 1) := by decide +kernel
theorem dX3_valueOf_133 : decode cX3_valueOf 133 = .ok (.if_icmp .lt 188, 3) := by decide +kernel
theorem dX3_valueOf_136 : decode cX3_valueOf 136 = .ok (.iinc 4 (-1), 3) := by decide +kernel
theorem dX3_valueOf_139 : decode cX3_valueOf 139 = .ok (.aload_n 3, 1) := by decide +kernel
theorem dX3_valueOf_140 : decode cX3_valueOf 140 = .ok (.iload 4, 2) := by decide +kernel
theorem dX3_valueOf_142 : decode cX3_valueOf 142 = .ok (.iconst 1, 1) := by decide +kernel
theorem dX3_valueOf_143 : decode cX3_valueOf 143 = .ok (.isub, 1) := by decide +kernel
theorem dX3_valueOf_144 : decode cX3_valueOf 144 = .ok (.iaload, 1) := by decide +kernel
theorem dX3_valueOf_145 : decode cX3_valueOf 145 = .ok (.istore 7, 2) := by decide +kernel
theorem dX3_valueOf_147 : decode cX3_valueOf 147 = .ok (.aload_n 3, 1) := by decide +kernel
theorem dX3_valueOf_148 : decode cX3_valueOf 148 = .ok (.iload 4, 2) := by decide +kernel
theorem dX3_valueOf_150 : decode cX3_valueOf 150 = .ok (.iaload, 1) := by decide +kernel
theorem dX3_valueOf_151 : decode cX3_valueOf 151 = .ok (.istore 8, 2) := by decide +kernel
theorem dX3_valueOf_153 : decode cX3_valueOf 153 = .ok (.iload 6, 2) := by decide +kernel
theorem dX3_valueOf_155 : decode cX3_valueOf 155 = .ok (.tableswitch 155 (-14) (-9) #[141, 127, 106, 85, 61, 37], 37) := by decide +kernel
theorem dX3_valueOf_192 : decode cX3_valueOf 192 = .ok (.aload_n 3, 1) := by decide +kernel
theorem dX3_valueOf_193 : decode cX3_valueOf 193 = .ok (.iload 4, 2) := by decide +kernel
theorem dX3_valueOf_195 : decode cX3_valueOf 195 = .ok (.iconst 1, 1) := by decide +kernel
theorem dX3_valueOf_196 : decode cX3_valueOf 196 = .ok (.isub, 1) := by decide +kernel
theorem dX3_valueOf_197 : decode cX3_valueOf 197 = .ok (.iload 7, 2) := by decide +kernel
theorem dX3_valueOf_199 : decode cX3_valueOf 199 = .ok (.ifCond .ne 8, 3) := by decide +kernel
theorem dX3_valueOf_202 : decode cX3_valueOf 202 = .ok (.iload 8, 2) := by decide +kernel
theorem dX3_valueOf_204 : decode cX3_valueOf 204 = .ok (.ifCond .eq 7, 3) := by decide +kernel
theorem dX3_valueOf_207 : decode cX3_valueOf 207 = .ok (.iconst 1, 1) := by decide +kernel
theorem dX3_valueOf_208 : decode cX3_valueOf 208 = .ok (.goto 4, 3) := by decide +kernel
theorem dX3_valueOf_211 : decode cX3_valueOf 211 = .ok (.iconst 0, 1) := by decide +kernel
theorem dX3_valueOf_212 : decode cX3_valueOf 212 = .ok (.iastore, 1) := by decide +kernel
theorem dX3_valueOf_213 : decode cX3_valueOf 213 = .ok (.goto 108, 3) := by decide +kernel
theorem dX3_valueOf_216 : decode cX3_valueOf 216 = .ok (.aload_n 3, 1) := by decide +kernel
theorem dX3_valueOf_217 : decode cX3_valueOf 217 = .ok (.iload 4, 2) := by decide +kernel
theorem dX3_valueOf_219 : decode cX3_valueOf 219 = .ok (.iconst 1, 1) := by decide +kernel
theorem dX3_valueOf_220 : decode cX3_valueOf 220 = .ok (.isub, 1) := by decide +kernel
theorem dX3_valueOf_221 : decode cX3_valueOf 221 = .ok (.iload 7, 2) := by decide +kernel
theorem dX3_valueOf_223 : decode cX3_valueOf 223 = .ok (.ifCond .eq 12, 3) := by decide +kernel
theorem dX3_valueOf_226 : decode cX3_valueOf 226 = .ok (.iload 8, 2) := by decide +kernel
theorem dX3_valueOf_228 : decode cX3_valueOf 228 = .ok (.ifCond .eq 7, 3) := by decide +kernel
theorem dX3_valueOf_231 : decode cX3_valueOf 231 = .ok (.iconst 1, 1) := by decide +kernel
theorem dX3_valueOf_232 : decode cX3_valueOf 232 = .ok (.goto 4, 3) := by decide +kernel
theorem dX3_valueOf_235 : decode cX3_valueOf 235 = .ok (.iconst 0, 1) := by decide +kernel
theorem dX3_valueOf_236 : decode cX3_valueOf 236 = .ok (.iastore, 1) := by decide +kernel
theorem dX3_valueOf_237 : decode cX3_valueOf 237 = .ok (.goto 84, 3) := by decide +kernel
theorem dX3_valueOf_240 : decode cX3_valueOf 240 = .ok (.aload_n 3, 1) := by decide +kernel
theorem dX3_valueOf_241 : decode cX3_valueOf 241 = .ok (.iload 4, 2) := by decide +kernel
theorem dX3_valueOf_243 : decode cX3_valueOf 243 = .ok (.iconst 1, 1) := by decide +kernel
theorem dX3_valueOf_244 : decode cX3_valueOf 244 = .ok (.isub, 1) := by decide +kernel
theorem dX3_valueOf_245 : decode cX3_valueOf 245 = .ok (.iload 7, 2) := by decide +kernel
theorem dX3_valueOf_247 : decode cX3_valueOf 247 = .ok (.iload 8, 2) := by decide +kernel
theorem dX3_valueOf_249 : decode cX3_valueOf 249 = .ok (.if_icmp .ge 7, 3) := by decide +kernel
theorem dX3_valueOf_252 : decode cX3_valueOf 252 = .ok (.iconst 1, 1) := by decide +kernel
theorem dX3_valueOf_253 : decode cX3_valueOf 253 = .ok (.goto 4, 3) := by decide +kernel
theorem dX3_valueOf_256 : decode cX3_valueOf 256 = .ok (.iconst 0, 1) := by decide +kernel
theorem dX3_valueOf_257 : decode cX3_valueOf 257 = .ok (.iastore, 1) := by decide +kernel
theorem dX3_valueOf_258 : decode cX3_valueOf 258 = .ok (.goto 63, 3) := by decide +kernel
theorem dX3_valueOf_261 : decode cX3_valueOf 261 = .ok (.aload_n 3, 1) := by decide +kernel
theorem dX3_valueOf_262 : decode cX3_valueOf 262 = .ok (.iload 4, 2) := by decide +kernel
theorem dX3_valueOf_264 : decode cX3_valueOf 264 = .ok (.iconst 1, 1) := by decide +kernel
theorem dX3_valueOf_265 : decode cX3_valueOf 265 = .ok (.isub, 1) := by decide +kernel
theorem dX3_valueOf_266 : decode cX3_valueOf 266 = .ok (.iload 7, 2) := by decide +kernel
theorem dX3_valueOf_268 : decode cX3_valueOf 268 = .ok (.iload 8, 2) := by decide +kernel
theorem dX3_valueOf_270 : decode cX3_valueOf 270 = .ok (.if_icmp .ne 7, 3) := by decide +kernel
theorem dX3_valueOf_273 : decode cX3_valueOf 273 = .ok (.iconst 1, 1) := by decide +kernel
theorem dX3_valueOf_274 : decode cX3_valueOf 274 = .ok (.goto 4, 3) := by decide +kernel
theorem dX3_valueOf_277 : decode cX3_valueOf 277 = .ok (.iconst 0, 1) := by decide +kernel
theorem dX3_valueOf_278 : decode cX3_valueOf 278 = .ok (.iastore, 1) := by decide +kernel
theorem dX3_valueOf_279 : decode cX3_valueOf 279 = .ok (.goto 42, 3) := by decide +kernel
theorem dX3_valueOf_282 : decode cX3_valueOf 282 = .ok (.aload_n 3, 1) := by decide +kernel
theorem dX3_valueOf_283 : decode cX3_valueOf 283 = .ok (.iload 4, 2) := by decide +kernel
theorem dX3_valueOf_285 : decode cX3_valueOf 285 = .ok (.iconst 1, 1) := by decide +kernel
theorem dX3_valueOf_286 : decode cX3_valueOf 286 = .ok (.isub, 1) := by decide +kernel
theorem dX3_valueOf_287 : decode cX3_valueOf 287 = .ok (.iload 7, 2) := by decide +kernel
theorem dX3_valueOf_289 : decode cX3_valueOf 289 = .ok (.iload 8, 2) := by decide +kernel
theorem dX3_valueOf_291 : decode cX3_valueOf 291 = .ok (.iadd, 1) := by decide +kernel
theorem dX3_valueOf_292 : decode cX3_valueOf 292 = .ok (.iastore, 1) := by decide +kernel
theorem dX3_valueOf_293 : decode cX3_valueOf 293 = .ok (.goto 28, 3) := by decide +kernel
theorem dX3_valueOf_296 : decode cX3_valueOf 296 = .ok (.aload_n 3, 1) := by decide +kernel
theorem dX3_valueOf_297 : decode cX3_valueOf 297 = .ok (.iload 4, 2) := by decide +kernel
theorem dX3_valueOf_299 : decode cX3_valueOf 299 = .ok (.iconst 1, 1) := by decide +kernel
theorem dX3_valueOf_300 : decode cX3_valueOf 300 = .ok (.isub, 1) := by decide +kernel
theorem dX3_valueOf_301 : decode cX3_valueOf 301 = .ok (.iload 7, 2) := by decide +kernel
theorem dX3_valueOf_303 : decode cX3_valueOf 303 = .ok (.iload 8, 2) := by decide +kernel
theorem dX3_valueOf_305 : decode cX3_valueOf 305 = .ok (.isub, 1) := by decide +kernel
theorem dX3_valueOf_306 : decode cX3_valueOf 306 = .ok (.iastore, 1) := by decide +kernel
theorem dX3_valueOf_307 : decode cX3_valueOf 307 = .ok (.goto 14, 3) := by decide +kernel
theorem dX3_valueOf_310 : decode cX3_valueOf 310 = .ok (.aload_n 3, 1) := by decide +kernel
theorem dX3_valueOf_311 : decode cX3_valueOf 311 = .ok (.iload 4, 2) := by decide +kernel
theorem dX3_valueOf_313 : decode cX3_valueOf 313 = .ok (.iconst 1, 1) := by decide +kernel
theorem dX3_valueOf_314 : decode cX3_valueOf 314 = .ok (.isub, 1) := by decide +kernel
theorem dX3_valueOf_315 : decode cX3_valueOf 315 = .ok (.iload 7, 2) := by decide +kernel
theorem dX3_valueOf_317 : decode cX3_valueOf 317 = .ok (.iload 8, 2) := by decide +kernel
theorem dX3_valueOf_319 : decode cX3_valueOf 319 = .ok (.imul, 1) := by decide +kernel
theorem dX3_valueOf_320 : decode cX3_valueOf 320 = .ok (.iastore, 1) := by decide +kernel
theorem dX3_valueOf_321 : decode cX3_valueOf 321 = .ok (.iinc 5 1, 3) := by decide +kernel
theorem dX3_valueOf_324 : decode cX3_valueOf 324 = .ok (.goto (-309), 3) := by decide +kernel
theorem dX3_valueOf_327 : decode cX3_valueOf 327 = .ok (.aload_n 3, 1) := by decide +kernel
theorem dX3_valueOf_328 : decode cX3_valueOf 328 = .ok (.iconst 0, 1) := by decide +kernel
theorem dX3_valueOf_329 : decode cX3_valueOf 329 = .ok (.iaload, 1) := by decide +kernel
theorem dX3_valueOf_330 : decode cX3_valueOf 330 = .ok (.ireturn, 1) := by decide +kernel
theorem dJ6_bitCount_0f7a4_0 : decode cJ6_bitCount_0f7a4 0 = .ok (.iload_n 0, 1) := by decide +kernel
theorem dJ6_bitCount_0f7a4_1 : decode cJ6_bitCount_0f7a4 1 = .ok (.iload_n 0, 1) := by decide +kernel
theorem dJ6_bitCount_0f7a4_2 : decode cJ6_bitCount_0f7a4 2 = .ok (.iconst 1, 1) := by decide +kernel
theorem dJ6_bitCount_0f7a4_3 : decode cJ6_bitCount_0f7a4 3 = .ok (.iushr, 1) := by decide +kernel
theorem dJ6_bitCount_0f7a4_4 : decode cJ6_bitCount_0f7a4 4 = .ok (.ldc_w 265, 3) := by decide +kernel
theorem dJ6_bitCount_0f7a4_7 : decode cJ6_bitCount_0f7a4 7 = .ok (.iand, 1) := by decide +kernel
theorem dJ6_bitCount_0f7a4_8 : decode cJ6_bitCount_0f7a4 8 = .ok (.isub, 1) := by decide +kernel
theorem dJ6_bitCount_0f7a4_9 : decode cJ6_bitCount_0f7a4 9 = .ok (.istore_n 0, 1) := by decide +kernel
theorem dJ6_bitCount_0f7a4_10 : decode cJ6_bitCount_0f7a4 10 = .ok (.iload_n 0, 1) := by decide +kernel
theorem dJ6_bitCount_0f7a4_11 : decode cJ6_bitCount_0f7a4 11 = .ok (.ldc_w 266, 3) := by decide +kernel
theorem dJ6_bitCount_0f7a4_14 : decode cJ6_bitCount_0f7a4 14 = .ok (.iand, 1) := by decide +kernel
theorem dJ6_bitCount_0f7a4_15 : decode cJ6_bitCount_0f7a4 15 = .ok (.iload_n 0, 1) := by decide +kernel
theorem dJ6_bitCount_0f7a4_16 : decode cJ6_bitCount_0f7a4 16 = .ok (.iconst 2, 1) := by decide +kernel
theorem dJ6_bitCount_0f7a4_17 : decode cJ6_bitCount_0f7a4 17 = .ok (.iushr, 1) := by decide +kernel
theorem dJ6_bitCount_0f7a4_18 : decode cJ6_bitCount_0f7a4 18 = .ok (.ldc_w 266, 3) := by decide +kernel
theorem dJ6_bitCount_0f7a4_21 : decode cJ6_bitCount_0f7a4 21 = .ok (.iand, 1) := by decide +kernel
theorem dJ6_bitCount_0f7a4_22 : decode cJ6_bitCount_0f7a4 22 = .ok (.iadd, 1) := by decide +kernel
theorem dJ6_bitCount_0f7a4_23 : decode cJ6_bitCount_0f7a4 23 = .ok (.istore_n 0, 1) := by decide +kernel
theorem dJ6_bitCount_0f7a4_24 : decode cJ6_bitCount_0f7a4 24 = .ok (.iload_n 0, 1) := by decide +kernel
theorem dJ6_bitCount_0f7a4_25 : decode cJ6_bitCount_0f7a4 25 = .ok (.iload_n 0, 1) := by decide +kernel
theorem dJ6_bitCount_0f7a4_26 : decode cJ6_bitCount_0f7a4 26 = .ok (.iconst 4, 1) := by decide +kernel
theorem dJ6_bitCount_0f7a4_27 : decode cJ6_bitCount_0f7a4 27 = .ok (.iushr, 1) := by decide +kernel
theorem dJ6_bitCount_0f7a4_28 : decode cJ6_bitCount_0f7a4 28 = .ok (.iadd, 1) := by decide +kernel
theorem dJ6_bitCount_0f7a4_29 : decode cJ6_bitCount_0f7a4 29 = .ok (.ldc_w 267, 3) := by decide +kernel
theorem dJ6_bitCount_0f7a4_32 : decode cJ6_bitCount_0f7a4 32 = .ok (.iand, 1) := by decide +kernel
theorem dJ6_bitCount_0f7a4_33 : decode cJ6_bitCount_0f7a4 33 = .ok (.istore_n 0, 1) := by decide +kernel
theorem dJ6_bitCount_0f7a4_34 : decode cJ6_bitCount_0f7a4 34 = .ok (.iload_n 0, 1) := by decide +kernel
theorem dJ6_bitCount_0f7a4_35 : decode cJ6_bitCount_0f7a4 35 = .ok (.iload_n 0, 1) := by decide +kernel
theorem dJ6_bitCount_0f7a4_36 : decode cJ6_bitCount_0f7a4 36 = .ok (.bipush 8, 2) := by decide +kernel
theorem dJ6_bitCount_0f7a4_38 : decode cJ6_bitCount_0f7a4 38 = .ok (.iushr, 1) := by decide +kernel
theorem dJ6_bitCount_0f7a4_39 : decode cJ6_bitCount_0f7a4 39 = .ok (.iadd, 1) := by decide +kernel
theorem dJ6_bitCount_0f7a4_40 : decode cJ6_bitCount_0f7a4 40 = .ok (.istore_n 0, 1) := by decide +kernel
theorem dJ6_bitCount_0f7a4_41 : decode cJ6_bitCount_0f7a4 41 = .ok (.iload_n 0, 1) := by decide +kernel
theorem dJ6_bitCount_0f7a4_42 : decode cJ6_bitCount_0f7a4 42 = .ok (.iload_n 0, 1) := by decide +kernel
theorem dJ6_bitCount_0f7a4_43 : decode cJ6_bitCount_0f7a4 43 = .ok (.bipush 16, 2) := by decide +kernel
theorem dJ6_bitCount_0f7a4_45 : decode cJ6_bitCount_0f7a4 45 = .ok (.iushr, 1) := by decide +kernel
theorem dJ6_bitCount_0f7a4_46 : decode cJ6_bitCount_0f7a4 46 = .ok (.iadd, 1) := by decide +kernel
theorem dJ6_bitCount_0f7a4_47 : decode cJ6_bitCount_0f7a4 47 = .ok (.istore_n 0, 1) := by decide +kernel
theorem dJ6_bitCount_0f7a4_48 : decode cJ6_bitCount_0f7a4 48 = .ok (.iload_n 0, 1) := by decide +kernel
theorem dJ6_bitCount_0f7a4_49 : decode cJ6_bitCount_0f7a4 49 = .ok (.bipush 63, 2) := by decide +kernel
theorem dJ6_bitCount_0f7a4_51 : decode cJ6_bitCount_0f7a4 51 = .ok (.iand, 1) := by decide +kernel
theorem dJ6_bitCount_0f7a4_52 : decode cJ6_bitCount_0f7a4 52 = .ok (.ireturn, 1) := by decide +kernel
theorem dJ9_max_7cf53_0 : decode cJ9_max_7cf53 0 = .ok (.iload_n 0, 1) := by decide +kernel
theorem dJ9_max_7cf53_1 : decode cJ9_max_7cf53 1 = .ok (.iload_n 1, 1) := by decide +kernel
theorem dJ9_max_7cf53_2 : decode cJ9_max_7cf53 2 = .ok (.if_icmp .lt 7, 3) := by decide +kernel
theorem dJ9_max_7cf53_5 : decode cJ9_max_7cf53 5 = .ok (.iload_n 0, 1) := by decide +kernel
theorem dJ9_max_7cf53_6 : decode cJ9_max_7cf53 6 = .ok (.goto 4, 3) := by decide +kernel
theorem dJ9_max_7cf53_9 : decode cJ9_max_7cf53 9 = .ok (.iload_n 1, 1) := by decide +kernel
theorem dJ9_max_7cf53_10 : decode cJ9_max_7cf53 10 = .ok (.ireturn, 1) := by decide +kernel
theorem dJ9_min_7cf53_0 : decode cJ9_min_7cf53 0 = .ok (.iload_n 0, 1) := by decide +kernel
theorem dJ9_min_7cf53_1 : decode cJ9_min_7cf53 1 = .ok (.iload_n 1, 1) := by decide +kernel
theorem dJ9_min_7cf53_2 : decode cJ9_min_7cf53 2 = .ok (.if_icmp .gt 7, 3) := by decide +kernel
theorem dJ9_min_7cf53_5 : decode cJ9_min_7cf53 5 = .ok (.iload_n 0, 1) := by decide +kernel
theorem dJ9_min_7cf53_6 : decode cJ9_min_7cf53 6 = .ok (.goto 4, 3) := by decide +kernel
theorem dJ9_min_7cf53_9 : decode cJ9_min_7cf53 9 = .ok (.iload_n 1, 1) := by decide +kernel
theorem dJ9_min_7cf53_10 : decode cJ9_min_7cf53 10 = .ok (.ireturn, 1) := by decide +kernel
theorem dJ0_length_8abf5_0 : decode cJ0_length_8abf5 0 = .ok (.aload_n 0, 1) := by decide +kernel
theorem dJ0_length_8abf5_1 : decode cJ0_length_8abf5 1 = .ok (.getfield 9, 3) := by decide +kernel
theorem dJ0_length_8abf5_4 : decode cJ0_length_8abf5 4 = .ok (.arraylength, 1) := by decide +kernel
theorem dJ0_length_8abf5_5 : decode cJ0_length_8abf5 5 = .ok (.aload_n 0, 1) := by decide +kernel
theorem dJ0_length_8abf5_6 : decode cJ0_length_8abf5 6 = .ok (.invokevirtual 335, 3) := by decide +kernel
theorem dJ0_length_8abf5_9 : decode cJ0_length_8abf5 9 = .ok (.ishr, 1) := by decide +kernel
theorem dJ0_length_8abf5_10 : decode cJ0_length_8abf5 10 = .ok (.ireturn, 1) := by decide +kernel
theorem dJ0_charAt_5068e_0 : decode cJ0_charAt_5068e 0 = .ok (.aload_n 0, 1) := by decide +kernel
theorem dJ0_charAt_5068e_1 : decode cJ0_charAt_5068e 1 = .ok (.invokevirtual 492, 3) := by decide +kernel
theorem dJ0_charAt_5068e_4 : decode cJ0_charAt_5068e 4 = .ok (.ifCond .eq 12, 3) := by decide +kernel
theorem dJ0_charAt_5068e_7 : decode cJ0_charAt_5068e 7 = .ok (.aload_n 0, 1) := by decide +kernel
theorem dJ0_charAt_5068e_8 : decode cJ0_charAt_5068e 8 = .ok (.getfield 9, 3) := by decide +kernel
theorem dJ0_charAt_5068e_11 : decode cJ0_charAt_5068e 11 = .ok (.iload_n 1, 1) := by decide +kernel
theorem dJ0_charAt_5068e_12 : decode cJ0_charAt_5068e 12 = .ok (.invokestatic 495, 3) := by decide +kernel
theorem dJ0_charAt_5068e_15 : decode cJ0_charAt_5068e 15 = .ok (.ireturn, 1) := by decide +kernel
theorem dJ0_charAt_5068e_16 : decode cJ0_charAt_5068e 16 = .ok (.aload_n 0, 1) := by decide +kernel
theorem dJ0_charAt_5068e_17 : decode cJ0_charAt_5068e 17 = .ok (.getfield 9, 3) := by decide +kernel
theorem dJ0_charAt_5068e_20 : decode cJ0_charAt_5068e 20 = .ok (.iload_n 1, 1) := by decide +kernel
theorem dJ0_charAt_5068e_21 : decode cJ0_charAt_5068e 21 = .ok (.invokestatic 498, 3) := by decide +kernel
theorem dJ0_charAt_5068e_24 : decode cJ0_charAt_5068e 24 = .ok (.ireturn, 1) := by decide +kernel
theorem dJ0_indexOf_0f7a4_0 : decode cJ0_indexOf_0f7a4 0 = .ok (.aload_n 0, 1) := by decide +kernel
theorem dJ0_indexOf_0f7a4_1 : decode cJ0_indexOf_0f7a4 1 = .ok (.iload_n 1, 1) := by decide +kernel
theorem dJ0_indexOf_0f7a4_2 : decode cJ0_indexOf_0f7a4 2 = .ok (.iconst 0, 1) := by decide +kernel
theorem dJ0_indexOf_0f7a4_3 : decode cJ0_indexOf_0f7a4 3 = .ok (.invokevirtual 633, 3) := by decide +kernel
theorem dJ0_indexOf_0f7a4_6 : decode cJ0_indexOf_0f7a4 6 = .ok (.ireturn, 1) := by decide +kernel
theorem dJ0_indexOf_7cf53_0 : decode cJ0_indexOf_7cf53 0 = .ok (.aload_n 0, 1) := by decide +kernel
theorem dJ0_indexOf_7cf53_1 : decode cJ0_indexOf_7cf53 1 = .ok (.invokevirtual 492, 3) := by decide +kernel
theorem dJ0_indexOf_7cf53_4 : decode cJ0_indexOf_7cf53 4 = .ok (.ifCond .eq 19, 3) := by decide +kernel
theorem dJ0_indexOf_7cf53_7 : decode cJ0_indexOf_7cf53 7 = .ok (.aload_n 0, 1) := by decide +kernel
theorem dJ0_indexOf_7cf53_8 : decode cJ0_indexOf_7cf53 8 = .ok (.getfield 9, 3) := by decide +kernel
theorem dJ0_indexOf_7cf53_11 : decode cJ0_indexOf_7cf53 11 = .ok (.iload_n 1, 1) := by decide +kernel
theorem dJ0_indexOf_7cf53_12 : decode cJ0_indexOf_7cf53 12 = .ok (.iload_n 2, 1) := by decide +kernel
theorem dJ0_indexOf_7cf53_13 : decode cJ0_indexOf_7cf53 13 = .ok (.aload_n 0, 1) := by decide +kernel
theorem dJ0_indexOf_7cf53_14 : decode cJ0_indexOf_7cf53 14 = .ok (.invokevirtual 505, 3) := by decide +kernel
theorem dJ0_indexOf_7cf53_17 : decode cJ0_indexOf_7cf53 17 = .ok (.invokestatic 637, 3) := by decide +kernel
theorem dJ0_indexOf_7cf53_20 : decode cJ0_indexOf_7cf53 20 = .ok (.goto 16, 3) := by decide +kernel
theorem dJ0_indexOf_7cf53_23 : decode cJ0_indexOf_7cf53 23 = .ok (.aload_n 0, 1) := by decide +kernel
theorem dJ0_indexOf_7cf53_24 : decode cJ0_indexOf_7cf53 24 = .ok (.getfield 9, 3) := by decide +kernel
theorem dJ0_indexOf_7cf53_27 : decode cJ0_indexOf_7cf53 27 = .ok (.iload_n 1, 1) := by decide +kernel
theorem dJ0_indexOf_7cf53_28 : decode cJ0_indexOf_7cf53 28 = .ok (.iload_n 2, 1) := by decide +kernel
theorem dJ0_indexOf_7cf53_29 : decode cJ0_indexOf_7cf53 29 = .ok (.aload_n 0, 1) := by decide +kernel
theorem dJ0_indexOf_7cf53_30 : decode cJ0_indexOf_7cf53 30 = .ok (.invokevirtual 505, 3) := by decide +kernel
theorem dJ0_indexOf_7cf53_33 : decode cJ0_indexOf_7cf53 33 = .ok (.invokestatic 640, 3) := by decide +kernel
theorem dJ0_indexOf_7cf53_36 : decode cJ0_indexOf_7cf53 36 = .ok (.ireturn, 1) := by decide +kernel
theorem dJ0_coder_7d493_0 : decode cJ0_coder_7d493 0 = .ok (.getstatic 38, 3) := by decide +kernel
theorem dJ0_coder_7d493_3 : decode cJ0_coder_7d493 3 = .ok (.ifCond .eq 10, 3) := by decide +kernel
theorem dJ0_coder_7d493_6 : decode cJ0_coder_7d493 6 = .ok (.aload_n 0, 1) := by decide +kernel
theorem dJ0_coder_7d493_7 : decode cJ0_coder_7d493 7 = .ok (.getfield 15, 3) := by decide +kernel
theorem dJ0_coder_7d493_10 : decode cJ0_coder_7d493 10 = .ok (.goto 4, 3) := by decide +kernel
theorem dJ0_coder_7d493_13 : decode cJ0_coder_7d493 13 = .ok (.iconst 1, 1) := by decide +kernel
theorem dJ0_coder_7d493_14 : decode cJ0_coder_7d493 14 = .ok (.ireturn, 1) := by decide +kernel
theorem dJ0_isLatin1_aae02_0 : decode cJ0_isLatin1_aae02 0 = .ok (.getstatic 38, 3) := by decide +kernel
theorem dJ0_isLatin1_aae02_3 : decode cJ0_isLatin1_aae02 3 = .ok (.ifCond .eq 14, 3) := by decide +kernel
theorem dJ0_isLatin1_aae02_6 : decode cJ0_isLatin1_aae02 6 = .ok (.aload_n 0, 1) := by decide +kernel
theorem dJ0_isLatin1_aae02_7 : decode cJ0_isLatin1_aae02 7 = .ok (.getfield 15, 3) := by decide +kernel
theorem dJ0_isLatin1_aae02_10 : decode cJ0_isLatin1_aae02 10 = .ok (.ifCond .ne 7, 3) := by decide +kernel
theorem dJ0_isLatin1_aae02_13 : decode cJ0_isLatin1_aae02 13 = .ok (.iconst 1, 1) := by decide +kernel
theorem dJ0_isLatin1_aae02_14 : decode cJ0_isLatin1_aae02 14 = .ok (.goto 4, 3) := by decide +kernel
theorem dJ0_isLatin1_aae02_17 : decode cJ0_isLatin1_aae02 17 = .ok (.iconst 0, 1) := by decide +kernel
theorem dJ0_isLatin1_aae02_18 : decode cJ0_isLatin1_aae02 18 = .ok (.ireturn, 1) := by decide +kernel
theorem dJ0_checkIndex_df160_0 : decode cJ0_checkIndex_df160 0 = .ok (.iload_n 0, 1) := by decide +kernel
theorem dJ0_checkIndex_df160_1 : decode cJ0_checkIndex_df160 1 = .ok (.iload_n 1, 1) := by decide +kernel
theorem dJ0_checkIndex_df160_2 : decode cJ0_checkIndex_df160 2 = .ok (.getstatic 1053, 3) := by decide +kernel
theorem dJ0_checkIndex_df160_5 : decode cJ0_checkIndex_df160 5 = .ok (.invokestatic 1059, 3) := by decide +kernel
theorem dJ0_checkIndex_df160_8 : decode cJ0_checkIndex_df160 8 = .ok (.pop, 1) := by decide +kernel
theorem dJ0_checkIndex_df160_9 : decode cJ0_checkIndex_df160 9 = .ok (.return_, 1) := by decide +kernel
theorem dJ0_checkBoundsBeginEnd_23922_0 : decode cJ0_checkBoundsBeginEnd_23922 0 = .ok (.iload_n 0, 1) := by decide +kernel
theorem dJ0_checkBoundsBeginEnd_23922_1 : decode cJ0_checkBoundsBeginEnd_23922 1 = .ok (.iload_n 1, 1) := by decide +kernel
theorem dJ0_checkBoundsBeginEnd_23922_2 : decode cJ0_checkBoundsBeginEnd_23922 2 = .ok (.iload_n 2, 1) := by decide +kernel
theorem dJ0_checkBoundsBeginEnd_23922_3 : decode cJ0_checkBoundsBeginEnd_23922 3 = .ok (.getstatic 1053, 3) := by decide +kernel
theorem dJ0_checkBoundsBeginEnd_23922_6 : decode cJ0_checkBoundsBeginEnd_23922 6 = .ok (.invokestatic 1062, 3) := by decide +kernel
theorem dJ0_checkBoundsBeginEnd_23922_9 : decode cJ0_checkBoundsBeginEnd_23922 9 = .ok (.pop, 1) := by decide +kernel
theorem dJ0_checkBoundsBeginEnd_23922_10 : decode cJ0_checkBoundsBeginEnd_23922 10 = .ok (.return_, 1) := by decide +kernel
theorem dJ1_charAt_3b067_0 : decode cJ1_charAt_3b067 0 = .ok (.iload_n 1, 1) := by decide +kernel
theorem dJ1_charAt_3b067_1 : decode cJ1_charAt_3b067 1 = .ok (.aload_n 0, 1) := by decide +kernel
theorem dJ1_charAt_3b067_2 : decode cJ1_charAt_3b067 2 = .ok (.arraylength, 1) := by decide +kernel
theorem dJ1_charAt_3b067_3 : decode cJ1_charAt_3b067 3 = .ok (.invokestatic 9, 3) := by decide +kernel
theorem dJ1_charAt_3b067_6 : decode cJ1_charAt_3b067 6 = .ok (.aload_n 0, 1) := by decide +kernel
theorem dJ1_charAt_3b067_7 : decode cJ1_charAt_3b067 7 = .ok (.iload_n 1, 1) := by decide +kernel
theorem dJ1_charAt_3b067_8 : decode cJ1_charAt_3b067 8 = .ok (.baload, 1) := by decide +kernel
theorem dJ1_charAt_3b067_9 : decode cJ1_charAt_3b067 9 = .ok (.sipush 255, 3) := by decide +kernel
theorem dJ1_charAt_3b067_12 : decode cJ1_charAt_3b067 12 = .ok (.iand, 1) := by decide +kernel
theorem dJ1_charAt_3b067_13 : decode cJ1_charAt_3b067 13 = .ok (.i2c, 1) := by decide +kernel
theorem dJ1_charAt_3b067_14 : decode cJ1_charAt_3b067 14 = .ok (.ireturn, 1) := by decide +kernel
theorem dJ1_canEncode_9a6ad_0 : decode cJ1_canEncode_9a6ad 0 = .ok (.iload_n 0, 1) := by decide +kernel
theorem dJ1_canEncode_9a6ad_1 : decode cJ1_canEncode_9a6ad 1 = .ok (.ifCond .lt 14, 3) := by decide +kernel
theorem dJ1_canEncode_9a6ad_4 : decode cJ1_canEncode_9a6ad 4 = .ok (.iload_n 0, 1) := by decide +kernel
theorem dJ1_canEncode_9a6ad_5 : decode cJ1_canEncode_9a6ad 5 = .ok (.sipush 255, 3) := by decide +kernel
theorem dJ1_canEncode_9a6ad_8 : decode cJ1_canEncode_9a6ad 8 = .ok (.if_icmp .gt 7, 3) := by decide +kernel
theorem dJ1_canEncode_9a6ad_11 : decode cJ1_canEncode_9a6ad 11 = .ok (.iconst 1, 1) := by decide +kernel
theorem dJ1_canEncode_9a6ad_12 : decode cJ1_canEncode_9a6ad 12 = .ok (.goto 4, 3) := by decide +kernel
theorem dJ1_canEncode_9a6ad_15 : decode cJ1_canEncode_9a6ad 15 = .ok (.iconst 0, 1) := by decide +kernel
theorem dJ1_canEncode_9a6ad_16 : decode cJ1_canEncode_9a6ad 16 = .ok (.ireturn, 1) := by decide +kernel
theorem dJ1_indexOf_4cfef_0 : decode cJ1_indexOf_4cfef 0 = .ok (.iload_n 1, 1) := by decide +kernel
theorem dJ1_indexOf_4cfef_1 : decode cJ1_indexOf_4cfef 1 = .ok (.invokestatic 88, 3) := by decide +kernel
theorem dJ1_indexOf_4cfef_4 : decode cJ1_indexOf_4cfef 4 = .ok (.ifCond .ne 5, 3) := by decide +kernel
theorem dJ1_indexOf_4cfef_7 : decode cJ1_indexOf_4cfef 7 = .ok (.iconst (-1), 1) := by decide +kernel
theorem dJ1_indexOf_4cfef_8 : decode cJ1_indexOf_4cfef 8 = .ok (.ireturn, 1) := by decide +kernel
theorem dJ1_indexOf_4cfef_9 : decode cJ1_indexOf_4cfef 9 = .ok (.iload_n 2, 1) := by decide +kernel
theorem dJ1_indexOf_4cfef_10 : decode cJ1_indexOf_4cfef 10 = .ok (.iconst 0, 1) := by decide +kernel
theorem dJ1_indexOf_4cfef_11 : decode cJ1_indexOf_4cfef 11 = .ok (.invokestatic 92, 3) := by decide +kernel
theorem dJ1_indexOf_4cfef_14 : decode cJ1_indexOf_4cfef 14 = .ok (.istore_n 2, 1) := by decide +kernel
theorem dJ1_indexOf_4cfef_15 : decode cJ1_indexOf_4cfef 15 = .ok (.iload_n 3, 1) := by decide +kernel
theorem dJ1_indexOf_4cfef_16 : decode cJ1_indexOf_4cfef 16 = .ok (.aload_n 0, 1) := by decide +kernel
theorem dJ1_indexOf_4cfef_17 : decode cJ1_indexOf_4cfef 17 = .ok (.arraylength, 1) := by decide +kernel
theorem dJ1_indexOf_4cfef_18 : decode cJ1_indexOf_4cfef 18 = .ok (.invokestatic 38, 3) := by decide +kernel
theorem dJ1_indexOf_4cfef_21 : decode cJ1_indexOf_4cfef 21 = .ok (.istore_n 3, 1) := by decide +kernel
theorem dJ1_indexOf_4cfef_22 : decode cJ1_indexOf_4cfef 22 = .ok (.iload_n 2, 1) := by decide +kernel
theorem dJ1_indexOf_4cfef_23 : decode cJ1_indexOf_4cfef 23 = .ok (.iload_n 3, 1) := by decide +kernel
theorem dJ1_indexOf_4cfef_24 : decode cJ1_indexOf_4cfef 24 = .ok (.if_icmp .lt 5, 3) := by decide +kernel
theorem dJ1_indexOf_4cfef_27 : decode cJ1_indexOf_4cfef 27 = .ok (.iconst (-1), 1) := by decide +kernel
theorem dJ1_indexOf_4cfef_28 : decode cJ1_indexOf_4cfef 28 = .ok (.ireturn, 1) := by decide +kernel
theorem dJ1_indexOf_4cfef_29 : decode cJ1_indexOf_4cfef 29 = .ok (.aload_n 0, 1) := by decide +kernel
theorem dJ1_indexOf_4cfef_30 : decode cJ1_indexOf_4cfef 30 = .ok (.iload_n 1, 1) := by decide +kernel
theorem dJ1_indexOf_4cfef_31 : decode cJ1_indexOf_4cfef 31 = .ok (.iload_n 2, 1) := by decide +kernel
theorem dJ1_indexOf_4cfef_32 : decode cJ1_indexOf_4cfef 32 = .ok (.iload_n 3, 1) := by decide +kernel
theorem dJ1_indexOf_4cfef_33 : decode cJ1_indexOf_4cfef 33 = .ok (.invokestatic 95, 3) := by decide +kernel
theorem dJ1_indexOf_4cfef_36 : decode cJ1_indexOf_4cfef 36 = .ok (.ireturn, 1) := by decide +kernel
theorem dJ1_indexOfChar_4cfef_0 : decode cJ1_indexOfChar_4cfef 0 = .ok (.iload_n 1, 1) := by decide +kernel
theorem dJ1_indexOfChar_4cfef_1 : decode cJ1_indexOfChar_4cfef 1 = .ok (.i2b, 1) := by decide +kernel
theorem dJ1_indexOfChar_4cfef_2 : decode cJ1_indexOfChar_4cfef 2 = .ok (.istore 4, 2) := by decide +kernel
theorem dJ1_indexOfChar_4cfef_4 : decode cJ1_indexOfChar_4cfef 4 = .ok (.iload_n 2, 1) := by decide +kernel
theorem dJ1_indexOfChar_4cfef_5 : decode cJ1_indexOfChar_4cfef 5 = .ok (.istore 5, 2) := by decide +kernel
theorem dJ1_indexOfChar_4cfef_7 : decode cJ1_indexOfChar_4cfef 7 = .ok (.iload 5, 2) := by decide +kernel
theorem dJ1_indexOfChar_4cfef_9 : decode cJ1_indexOfChar_4cfef 9 = .ok (.iload_n 3, 1) := by decide +kernel
theorem dJ1_indexOfChar_4cfef_10 : decode cJ1_indexOfChar_4cfef 10 = .ok (.if_icmp .ge 21, 3) := by decide +kernel
theorem dJ1_indexOfChar_4cfef_13 : decode cJ1_indexOfChar_4cfef 13 = .ok (.aload_n 0, 1) := by decide +kernel
theorem dJ1_indexOfChar_4cfef_14 : decode cJ1_indexOfChar_4cfef 14 = .ok (.iload 5, 2) := by decide +kernel
theorem dJ1_indexOfChar_4cfef_16 : decode cJ1_indexOfChar_4cfef 16 = .ok (.baload, 1) := by decide +kernel
theorem dJ1_indexOfChar_4cfef_17 : decode cJ1_indexOfChar_4cfef 17 = .ok (.iload 4, 2) := by decide +kernel
theorem dJ1_indexOfChar_4cfef_19 : decode cJ1_indexOfChar_4cfef 19 = .ok (.if_icmp .ne 6, 3) := by decide +kernel
theorem dJ1_indexOfChar_4cfef_22 : decode cJ1_indexOfChar_4cfef 22 = .ok (.iload 5, 2) := by decide +kernel
theorem dJ1_indexOfChar_4cfef_24 : decode cJ1_indexOfChar_4cfef 24 = .ok (.ireturn, 1) := by decide +kernel
theorem dJ1_indexOfChar_4cfef_25 : decode cJ1_indexOfChar_4cfef 25 = .ok (.iinc 5 1, 3) := by decide +kernel
theorem dJ1_indexOfChar_4cfef_28 : decode cJ1_indexOfChar_4cfef 28 = .ok (.goto (-21), 3) := by decide +kernel
theorem dJ1_indexOfChar_4cfef_31 : decode cJ1_indexOfChar_4cfef 31 = .ok (.iconst (-1), 1) := by decide +kernel
theorem dJ1_indexOfChar_4cfef_32 : decode cJ1_indexOfChar_4cfef 32 = .ok (.ireturn, 1) := by decide +kernel
theorem dJ3_checkIndex_8e157_0 : decode cJ3_checkIndex_8e157 0 = .ok (.iload_n 0, 1) := by decide +kernel
theorem dJ3_checkIndex_8e157_1 : decode cJ3_checkIndex_8e157 1 = .ok (.ifCond .lt 8, 3) := by decide +kernel
theorem dJ3_checkIndex_8e157_4 : decode cJ3_checkIndex_8e157 4 = .ok (.iload_n 0, 1) := by decide +kernel
theorem dJ3_checkIndex_8e157_5 : decode cJ3_checkIndex_8e157 5 = .ok (.iload_n 1, 1) := by decide +kernel
theorem dJ3_checkIndex_8e157_6 : decode cJ3_checkIndex_8e157 6 = .ok (.if_icmp .lt 10, 3) := by decide +kernel
theorem dJ3_checkIndex_8e157_9 : decode cJ3_checkIndex_8e157 9 = .ok (.aload_n 2, 1) := by decide +kernel
theorem dJ3_checkIndex_8e157_10 : decode cJ3_checkIndex_8e157 10 = .ok (.iload_n 0, 1) := by decide +kernel
theorem dJ3_checkIndex_8e157_11 : decode cJ3_checkIndex_8e157 11 = .ok (.iload_n 1, 1) := by decide +kernel
theorem dJ3_checkIndex_8e157_12 : decode cJ3_checkIndex_8e157 12 = .ok (.invokestatic 95, 3) := by decide +kernel
theorem dJ3_checkIndex_8e157_15 : decode cJ3_checkIndex_8e157 15 = .ok (.athrow, 1) := by decide +kernel
theorem dJ3_checkIndex_8e157_16 : decode cJ3_checkIndex_8e157 16 = .ok (.iload_n 0, 1) := by decide +kernel
theorem dJ3_checkIndex_8e157_17 : decode cJ3_checkIndex_8e157 17 = .ok (.ireturn, 1) := by decide +kernel
theorem dJ3_checkFromToIndex_8c36e_0 : decode cJ3_checkFromToIndex_8c36e 0 = .ok (.iload_n 0, 1) := by decide +kernel
theorem dJ3_checkFromToIndex_8c36e_1 : decode cJ3_checkFromToIndex_8c36e 1 = .ok (.ifCond .lt 13, 3) := by decide +kernel
theorem dJ3_checkFromToIndex_8c36e_4 : decode cJ3_checkFromToIndex_8c36e 4 = .ok (.iload_n 0, 1) := by decide +kernel
theorem dJ3_checkFromToIndex_8c36e_5 : decode cJ3_checkFromToIndex_8c36e 5 = .ok (.iload_n 1, 1) := by decide +kernel
theorem dJ3_checkFromToIndex_8c36e_6 : decode cJ3_checkFromToIndex_8c36e 6 = .ok (.if_icmp .gt 8, 3) := by decide +kernel
theorem dJ3_checkFromToIndex_8c36e_9 : decode cJ3_checkFromToIndex_8c36e 9 = .ok (.iload_n 1, 1) := by decide +kernel
theorem dJ3_checkFromToIndex_8c36e_10 : decode cJ3_checkFromToIndex_8c36e 10 = .ok (.iload_n 2, 1) := by decide +kernel
theorem dJ3_checkFromToIndex_8c36e_11 : decode cJ3_checkFromToIndex_8c36e 11 = .ok (.if_icmp .le 11, 3) := by decide +kernel
theorem dJ3_checkFromToIndex_8c36e_14 : decode cJ3_checkFromToIndex_8c36e 14 = .ok (.aload_n 3, 1) := by decide +kernel
theorem dJ3_checkFromToIndex_8c36e_15 : decode cJ3_checkFromToIndex_8c36e 15 = .ok (.iload_n 0, 1) := by decide +kernel
theorem dJ3_checkFromToIndex_8c36e_16 : decode cJ3_checkFromToIndex_8c36e 16 = .ok (.iload_n 1, 1) := by decide +kernel
theorem dJ3_checkFromToIndex_8c36e_17 : decode cJ3_checkFromToIndex_8c36e 17 = .ok (.iload_n 2, 1) := by decide +kernel
theorem dJ3_checkFromToIndex_8c36e_18 : decode cJ3_checkFromToIndex_8c36e 18 = .ok (.invokestatic 99, 3) := by decide +kernel
theorem dJ3_checkFromToIndex_8c36e_21 : decode cJ3_checkFromToIndex_8c36e 21 = .ok (.athrow, 1) := by decide +kernel
theorem dJ3_checkFromToIndex_8c36e_22 : decode cJ3_checkFromToIndex_8c36e 22 = .ok (.iload_n 0, 1) := by decide +kernel
theorem dJ3_checkFromToIndex_8c36e_23 : decode cJ3_checkFromToIndex_8c36e 23 = .ok (.ireturn, 1) := by decide +kernel
