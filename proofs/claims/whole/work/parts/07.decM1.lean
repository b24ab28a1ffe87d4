theorem dX9_old_60 : decode cX9_old 60 = .ok (.invokevirtual 272, 3) := by decide +kernel
theorem dX9_old_63 : decode cX9_old 63 = .ok (.iload_n 3, 1) := by decide +kernel
theorem dX9_old_64 : decode cX9_old 64 = .ok (.ireturn, 1) := by decide +kernel
theorem dX9_readChair_0 : decode cX9_readChair 0 = .ok (.aload_n 0, 1) := by decide +kernel
theorem dX9_readChair_1 : decode cX9_readChair 1 = .ok (.iconst 0, 1) := by decide +kernel
theorem dX9_readChair_2 : decode cX9_readChair 2 = .ok (.invokevirtual 340, 3) := by decide +kernel
theorem dX9_readChair_5 : decode cX9_readChair 5 = .ok (.aload_n 0, 1) := by decide +kernel
theorem dX9_readChair_6 : decode cX9_readChair 6 = .ok (.ldc2_w 225, 3) := by decide +kernel
theorem dX9_readChair_9 : decode cX9_readChair 9 = .ok (.iconst 1, 1) := by decide +kernel
theorem dX9_readChair_10 : decode cX9_readChair 10 = .ok (.iconst 2, 1) := by decide +kernel
theorem dX9_readChair_11 : decode cX9_readChair 11 = .ok (.invokevirtual 343, 3) := by decide +kernel
theorem dX9_readChair_14 : decode cX9_readChair 14 = .ok (.istore_n 1, 1) := by decide +kernel
theorem dX9_readChair_15 : decode cX9_readChair 15 = .ok (.aload_n 0, 1) := by decide +kernel
theorem dX9_readChair_16 : decode cX9_readChair 16 = .ok (.getfield 216, 3) := by decide +kernel
theorem dX9_readChair_19 : decode cX9_readChair 19 = .ok (.ifCond .le 4, 3) := by decide +kernel
theorem dX9_readChair_22 : decode cX9_readChair 22 = .ok (.return_, 1) := by decide +kernel
theorem dX9_readChair_23 : decode cX9_readChair 23 = .ok (.aload_n 0, 1) := by decide +kernel
theorem dX9_readChair_24 : decode cX9_readChair 24 = .ok (.getfield 78, 3) := by decide +kernel
theorem dX9_readChair_27 : decode cX9_readChair 27 = .ok (.aload_n 0, 1) := by decide +kernel
theorem dX9_readChair_28 : decode cX9_readChair 28 = .ok (.getfield 42, 3) := by decide +kernel
theorem dX9_readChair_31 : decode cX9_readChair 31 = .ok (.iconst 0, 1) := by decide +kernel
theorem dX9_readChair_32 : decode cX9_readChair 32 = .ok (.iaload, 1) := by decide +kernel
theorem dX9_readChair_33 : decode cX9_readChair 33 = .ok (.aload_n 0, 1) := by decide +kernel
theorem dX9_readChair_34 : decode cX9_readChair 34 = .ok (.ldc2_w 227, 3) := by decide +kernel
theorem dX9_readChair_37 : decode cX9_readChair 37 = .ok (.invokevirtual 265, 3) := by decide +kernel
theorem dX9_readChair_40 : decode cX9_readChair 40 = .ok (.bastore, 1) := by decide +kernel
theorem dX9_readChair_41 : decode cX9_readChair 41 = .ok (.aload_n 0, 1) := by decide +kernel
theorem dX9_readChair_42 : decode cX9_readChair 42 = .ok (.getfield 48, 3) := by decide +kernel
theorem dX9_readChair_45 : decode cX9_readChair 45 = .ok (.aload_n 0, 1) := by decide +kernel
theorem dX9_readChair_46 : decode cX9_readChair 46 = .ok (.getfield 42, 3) := by decide +kernel
theorem dX9_readChair_49 : decode cX9_readChair 49 = .ok (.iconst 0, 1) := by decide +kernel
theorem dX9_readChair_50 : decode cX9_readChair 50 = .ok (.iaload, 1) := by decide +kernel
theorem dX9_readChair_51 : decode cX9_readChair 51 = .ok (.iload_n 1, 1) := by decide +kernel
theorem dX9_readChair_52 : decode cX9_readChair 52 = .ok (.iastore, 1) := by decide +kernel
theorem dX9_readChair_53 : decode cX9_readChair 53 = .ok (.aload_n 0, 1) := by decide +kernel
theorem dX9_readChair_54 : decode cX9_readChair 54 = .ok (.ldc2_w 227, 3) := by decide +kernel
theorem dX9_readChair_57 : decode cX9_readChair 57 = .ok (.invokevirtual 265, 3) := by decide +kernel
theorem dX9_readChair_60 : decode cX9_readChair 60 = .ok (.ifCond .eq 7, 3) := by decide +kernel
theorem dX9_readChair_63 : decode cX9_readChair 63 = .ok (.aload_n 0, 1) := by decide +kernel
theorem dX9_readChair_64 : decode cX9_readChair 64 = .ok (.invokevirtual 272, 3) := by decide +kernel
theorem dX9_readChair_67 : decode cX9_readChair 67 = .ok (.aload_n 0, 1) := by decide +kernel
theorem dX9_readChair_68 : decode cX9_readChair 68 = .ok (.getfield 42, 3) := by decide +kernel
theorem dX9_readChair_71 : decode cX9_readChair 71 = .ok (.iconst 0, 1) := by decide +kernel
theorem dX9_readChair_72 : decode cX9_readChair 72 = .ok (.dup2, 1) := by decide +kernel
theorem dX9_readChair_73 : decode cX9_readChair 73 = .ok (.iaload, 1) := by decide +kernel
theorem dX9_readChair_74 : decode cX9_readChair 74 = .ok (.iconst 1, 1) := by decide +kernel
theorem dX9_readChair_75 : decode cX9_readChair 75 = .ok (.iadd, 1) := by decide +kernel
theorem dX9_readChair_76 : decode cX9_readChair 76 = .ok (.iastore, 1) := by decide +kernel
theorem dX9_readChair_77 : decode cX9_readChair 77 = .ok (.return_, 1) := by decide +kernel
theorem dX9_readMan_0 : decode cX9_readMan 0 = .ok (.aload_n 0, 1) := by decide +kernel
theorem dX9_readMan_1 : decode cX9_readMan 1 = .ok (.iconst 1, 1) := by decide +kernel
theorem dX9_readMan_2 : decode cX9_readMan 2 = .ok (.invokevirtual 340, 3) := by decide +kernel
theorem dX9_readMan_5 : decode cX9_readMan 5 = .ok (.aload_n 0, 1) := by decide +kernel
theorem dX9_readMan_6 : decode cX9_readMan 6 = .ok (.ldc2_w 231, 3) := by decide +kernel
theorem dX9_readMan_9 : decode cX9_readMan 9 = .ok (.iconst 1, 1) := by decide +kernel
theorem dX9_readMan_10 : decode cX9_readMan 10 = .ok (.bipush 30, 2) := by decide +kernel
theorem dX9_readMan_12 : decode cX9_readMan 12 = .ok (.invokevirtual 343, 3) := by decide +kernel
theorem dX9_readMan_15 : decode cX9_readMan 15 = .ok (.istore_n 1, 1) := by decide +kernel
theorem dX9_readMan_16 : decode cX9_readMan 16 = .ok (.aload_n 0, 1) := by decide +kernel
theorem dX9_readMan_17 : decode cX9_readMan 17 = .ok (.getfield 216, 3) := by decide +kernel
theorem dX9_readMan_20 : decode cX9_readMan 20 = .ok (.ifCond .le 4, 3) := by decide +kernel
theorem dX9_readMan_23 : decode cX9_readMan 23 = .ok (.return_, 1) := by decide +kernel
theorem dX9_readMan_24 : decode cX9_readMan 24 = .ok (.aload_n 0, 1) := by decide +kernel
theorem dX9_readMan_25 : decode cX9_readMan 25 = .ok (.getfield 82, 3) := by decide +kernel
theorem dX9_readMan_28 : decode cX9_readMan 28 = .ok (.aload_n 0, 1) := by decide +kernel
theorem dX9_readMan_29 : decode cX9_readMan 29 = .ok (.getfield 42, 3) := by decide +kernel
theorem dX9_readMan_32 : decode cX9_readMan 32 = .ok (.iconst 1, 1) := by decide +kernel
theorem dX9_readMan_33 : decode cX9_readMan 33 = .ok (.iaload, 1) := by decide +kernel
theorem dX9_readMan_34 : decode cX9_readMan 34 = .ok (.aload_n 0, 1) := by decide +kernel
theorem dX9_readMan_35 : decode cX9_readMan 35 = .ok (.ldc2_w 233, 3) := by decide +kernel
theorem dX9_readMan_38 : decode cX9_readMan 38 = .ok (.invokevirtual 265, 3) := by decide +kernel
theorem dX9_readMan_41 : decode cX9_readMan 41 = .ok (.bastore, 1) := by decide +kernel
theorem dX9_readMan_42 : decode cX9_readMan 42 = .ok (.aload_n 0, 1) := by decide +kernel
theorem dX9_readMan_43 : decode cX9_readMan 43 = .ok (.getfield 51, 3) := by decide +kernel
theorem dX9_readMan_46 : decode cX9_readMan 46 = .ok (.aload_n 0, 1) := by decide +kernel
theorem dX9_readMan_47 : decode cX9_readMan 47 = .ok (.getfield 42, 3) := by decide +kernel
theorem dX9_readMan_50 : decode cX9_readMan 50 = .ok (.iconst 1, 1) := by decide +kernel
theorem dX9_readMan_51 : decode cX9_readMan 51 = .ok (.iaload, 1) := by decide +kernel
theorem dX9_readMan_52 : decode cX9_readMan 52 = .ok (.iload_n 1, 1) := by decide +kernel
theorem dX9_readMan_53 : decode cX9_readMan 53 = .ok (.iastore, 1) := by decide +kernel
theorem dX9_readMan_54 : decode cX9_readMan 54 = .ok (.aload_n 0, 1) := by decide +kernel
theorem dX9_readMan_55 : decode cX9_readMan 55 = .ok (.ldc2_w 233, 3) := by decide +kernel
theorem dX9_readMan_58 : decode cX9_readMan 58 = .ok (.invokevirtual 265, 3) := by decide +kernel
theorem dX9_readMan_61 : decode cX9_readMan 61 = .ok (.ifCond .eq 7, 3) := by decide +kernel
theorem dX9_readMan_64 : decode cX9_readMan 64 = .ok (.aload_n 0, 1) := by decide +kernel
theorem dX9_readMan_65 : decode cX9_readMan 65 = .ok (.invokevirtual 272, 3) := by decide +kernel
theorem dX9_readMan_68 : decode cX9_readMan 68 = .ok (.aload_n 0, 1) := by decide +kernel
theorem dX9_readMan_69 : decode cX9_readMan 69 = .ok (.getfield 42, 3) := by decide +kernel
theorem dX9_readMan_72 : decode cX9_readMan 72 = .ok (.iconst 1, 1) := by decide +kernel
theorem dX9_readMan_73 : decode cX9_readMan 73 = .ok (.dup2, 1) := by decide +kernel
theorem dX9_readMan_74 : decode cX9_readMan 74 = .ok (.iaload, 1) := by decide +kernel
theorem dX9_readMan_75 : decode cX9_readMan 75 = .ok (.iconst 1, 1) := by decide +kernel
theorem dX9_readMan_76 : decode cX9_readMan 76 = .ok (.iadd, 1) := by decide +kernel
theorem dX9_readMan_77 : decode cX9_readMan 77 = .ok (.iastore, 1) := by decide +kernel
theorem dX9_readMan_78 : decode cX9_readMan 78 = .ok (.return_, 1) := by decide +kernel
theorem dX9_readMatter_0 : decode cX9_readMatter 0 = .ok (.aload_n 0, 1) := by decide +kernel
theorem dX9_readMatter_1 : decode cX9_readMatter 1 = .ok (.iconst 2, 1) := by decide +kernel
theorem dX9_readMatter_2 : decode cX9_readMatter 2 = .ok (.invokevirtual 340, 3) := by decide +kernel
theorem dX9_readMatter_5 : decode cX9_readMatter 5 = .ok (.aload_n 0, 1) := by decide +kernel
theorem dX9_readMatter_6 : decode cX9_readMatter 6 = .ok (.ldc2_w 237, 3) := by decide +kernel
theorem dX9_readMatter_9 : decode cX9_readMatter 9 = .ok (.iconst 1, 1) := by decide +kernel
theorem dX9_readMatter_10 : decode cX9_readMatter 10 = .ok (.sipush 999, 3) := by decide +kernel
theorem dX9_readMatter_13 : decode cX9_readMatter 13 = .ok (.invokevirtual 343, 3) := by decide +kernel
theorem dX9_readMatter_16 : decode cX9_readMatter 16 = .ok (.istore_n 1, 1) := by decide +kernel
theorem dX9_readMatter_17 : decode cX9_readMatter 17 = .ok (.aload_n 0, 1) := by decide +kernel
theorem dX9_readMatter_18 : decode cX9_readMatter 18 = .ok (.getfield 216, 3) := by decide +kernel
theorem dX9_readMatter_21 : decode cX9_readMatter 21 = .ok (.ifCond .le 4, 3) := by decide +kernel
theorem dX9_readMatter_24 : decode cX9_readMatter 24 = .ok (.return_, 1) := by decide +kernel
theorem dX9_readMatter_25 : decode cX9_readMatter 25 = .ok (.aload_n 0, 1) := by decide +kernel
theorem dX9_readMatter_26 : decode cX9_readMatter 26 = .ok (.getfield 54, 3) := by decide +kernel
theorem dX9_readMatter_29 : decode cX9_readMatter 29 = .ok (.aload_n 0, 1) := by decide +kernel
theorem dX9_readMatter_30 : decode cX9_readMatter 30 = .ok (.getfield 42, 3) := by decide +kernel
theorem dX9_readMatter_33 : decode cX9_readMatter 33 = .ok (.iconst 2, 1) := by decide +kernel
theorem dX9_readMatter_34 : decode cX9_readMatter 34 = .ok (.iaload, 1) := by decide +kernel
theorem dX9_readMatter_35 : decode cX9_readMatter 35 = .ok (.iload_n 1, 1) := by decide +kernel
theorem dX9_readMatter_36 : decode cX9_readMatter 36 = .ok (.iastore, 1) := by decide +kernel
theorem dX9_readMatter_37 : decode cX9_readMatter 37 = .ok (.aload_n 0, 1) := by decide +kernel
theorem dX9_readMatter_38 : decode cX9_readMatter 38 = .ok (.getfield 42, 3) := by decide +kernel
theorem dX9_readMatter_41 : decode cX9_readMatter 41 = .ok (.iconst 2, 1) := by decide +kernel
theorem dX9_readMatter_42 : decode cX9_readMatter 42 = .ok (.dup2, 1) := by decide +kernel
theorem dX9_readMatter_43 : decode cX9_readMatter 43 = .ok (.iaload, 1) := by decide +kernel
theorem dX9_readMatter_44 : decode cX9_readMatter 44 = .ok (.iconst 1, 1) := by decide +kernel
theorem dX9_readMatter_45 : decode cX9_readMatter 45 = .ok (.iadd, 1) := by decide +kernel
theorem dX9_readMatter_46 : decode cX9_readMatter 46 = .ok (.iastore, 1) := by decide +kernel
theorem dX9_readMatter_47 : decode cX9_readMatter 47 = .ok (.return_, 1) := by decide +kernel
theorem dX9_readWish_0 : decode cX9_readWish 0 = .ok (.aload_n 0, 1) := by decide +kernel
theorem dX9_readWish_1 : decode cX9_readWish 1 = .ok (.invokevirtual 272, 3) := by decide +kernel
theorem dX9_readWish_4 : decode cX9_readWish 4 = .ok (.aload_n 0, 1) := by decide +kernel
theorem dX9_readWish_5 : decode cX9_readWish 5 = .ok (.iconst 1, 1) := by decide +kernel
theorem dX9_readWish_6 : decode cX9_readWish 6 = .ok (.iconst (-1), 1) := by decide +kernel
theorem dX9_readWish_7 : decode cX9_readWish 7 = .ok (.invokevirtual 347, 3) := by decide +kernel
theorem dX9_readWish_10 : decode cX9_readWish 10 = .ok (.istore_n 1, 1) := by decide +kernel
theorem dX9_readWish_11 : decode cX9_readWish 11 = .ok (.aload_n 0, 1) := by decide +kernel
theorem dX9_readWish_12 : decode cX9_readWish 12 = .ok (.getfield 216, 3) := by decide +kernel
theorem dX9_readWish_15 : decode cX9_readWish 15 = .ok (.ifCond .le 4, 3) := by decide +kernel
theorem dX9_readWish_18 : decode cX9_readWish 18 = .ok (.return_, 1) := by decide +kernel
theorem dX9_readWish_19 : decode cX9_readWish 19 = .ok (.aload_n 0, 1) := by decide +kernel
theorem dX9_readWish_20 : decode cX9_readWish 20 = .ok (.iconst 2, 1) := by decide +kernel
theorem dX9_readWish_21 : decode cX9_readWish 21 = .ok (.invokevirtual 337, 3) := by decide +kernel
theorem dX9_readWish_24 : decode cX9_readWish 24 = .ok (.istore_n 2, 1) := by decide +kernel
theorem dX9_readWish_25 : decode cX9_readWish 25 = .ok (.aload_n 0, 1) := by decide +kernel
theorem dX9_readWish_26 : decode cX9_readWish 26 = .ok (.invokevirtual 334, 3) := by decide +kernel
theorem dX9_readWish_29 : decode cX9_readWish 29 = .ok (.ifCond .eq 25, 3) := by decide +kernel
theorem dX9_readWish_32 : decode cX9_readWish 32 = .ok (.iload_n 2, 1) := by decide +kernel
theorem dX9_readWish_33 : decode cX9_readWish 33 = .ok (.ifCond .lt 21, 3) := by decide +kernel
theorem dX9_readWish_36 : decode cX9_readWish 36 = .ok (.aload_n 0, 1) := by decide +kernel
theorem dX9_readWish_37 : decode cX9_readWish 37 = .ok (.getfield 85, 3) := by decide +kernel
theorem dX9_readWish_40 : decode cX9_readWish 40 = .ok (.iconst 4, 1) := by decide +kernel
theorem dX9_readWish_41 : decode cX9_readWish 41 = .ok (.iload_n 1, 1) := by decide +kernel
theorem dX9_readWish_42 : decode cX9_readWish 42 = .ok (.imul, 1) := by decide +kernel
theorem dX9_readWish_43 : decode cX9_readWish 43 = .ok (.iload_n 2, 1) := by decide +kernel
theorem dX9_readWish_44 : decode cX9_readWish 44 = .ok (.iadd, 1) := by decide +kernel
theorem dX9_readWish_45 : decode cX9_readWish 45 = .ok (.baload, 1) := by decide +kernel
theorem dX9_readWish_46 : decode cX9_readWish 46 = .ok (.ifCond .eq 8, 3) := by decide +kernel
theorem dX9_readWish_49 : decode cX9_readWish 49 = .ok (.aload_n 0, 1) := by decide +kernel
theorem dX9_readWish_50 : decode cX9_readWish 50 = .ok (.iconst 3, 1) := by decide +kernel
theorem dX9_readWish_51 : decode cX9_readWish 51 = .ok (.invokevirtual 269, 3) := by decide +kernel
theorem dX9_readWish_54 : decode cX9_readWish 54 = .ok (.aload_n 0, 1) := by decide +kernel
theorem dX9_readWish_55 : decode cX9_readWish 55 = .ok (.iconst 2, 1) := by decide +kernel
theorem dX9_readWish_56 : decode cX9_readWish 56 = .ok (.iconst (-1), 1) := by decide +kernel
theorem dX9_readWish_57 : decode cX9_readWish 57 = .ok (.invokevirtual 347, 3) := by decide +kernel
theorem dX9_readWish_60 : decode cX9_readWish 60 = .ok (.istore_n 2, 1) := by decide +kernel
theorem dX9_readWish_61 : decode cX9_readWish 61 = .ok (.aload_n 0, 1) := by decide +kernel
theorem dX9_readWish_62 : decode cX9_readWish 62 = .ok (.bipush (-99), 2) := by decide +kernel
theorem dX9_readWish_64 : decode cX9_readWish 64 = .ok (.bipush 99, 2) := by decide +kernel
theorem dX9_readWish_66 : decode cX9_readWish 66 = .ok (.invokevirtual 350, 3) := by decide +kernel
theorem dX9_readWish_69 : decode cX9_readWish 69 = .ok (.istore_n 3, 1) := by decide +kernel
theorem dX9_readWish_70 : decode cX9_readWish 70 = .ok (.aload_n 0, 1) := by decide +kernel
theorem dX9_readWish_71 : decode cX9_readWish 71 = .ok (.getfield 216, 3) := by decide +kernel
theorem dX9_readWish_74 : decode cX9_readWish 74 = .ok (.ifCond .le 4, 3) := by decide +kernel
theorem dX9_readWish_77 : decode cX9_readWish 77 = .ok (.return_, 1) := by decide +kernel
theorem dX9_readWish_78 : decode cX9_readWish 78 = .ok (.aload_n 0, 1) := by decide +kernel
theorem dX9_readWish_79 : decode cX9_readWish 79 = .ok (.getfield 85, 3) := by decide +kernel
theorem dX9_readWish_82 : decode cX9_readWish 82 = .ok (.iconst 4, 1) := by decide +kernel
theorem dX9_readWish_83 : decode cX9_readWish 83 = .ok (.iload_n 1, 1) := by decide +kernel
theorem dX9_readWish_84 : decode cX9_readWish 84 = .ok (.imul, 1) := by decide +kernel
theorem dX9_readWish_85 : decode cX9_readWish 85 = .ok (.iload_n 2, 1) := by decide +kernel
theorem dX9_readWish_86 : decode cX9_readWish 86 = .ok (.iadd, 1) := by decide +kernel
theorem dX9_readWish_87 : decode cX9_readWish 87 = .ok (.iconst 1, 1) := by decide +kernel
theorem dX9_readWish_88 : decode cX9_readWish 88 = .ok (.bastore, 1) := by decide +kernel
theorem dX9_readWish_89 : decode cX9_readWish 89 = .ok (.aload_n 0, 1) := by decide +kernel
theorem dX9_readWish_90 : decode cX9_readWish 90 = .ok (.getfield 57, 3) := by decide +kernel
theorem dX9_readWish_93 : decode cX9_readWish 93 = .ok (.iconst 4, 1) := by decide +kernel
theorem dX9_readWish_94 : decode cX9_readWish 94 = .ok (.iload_n 1, 1) := by decide +kernel
theorem dX9_readWish_95 : decode cX9_readWish 95 = .ok (.imul, 1) := by decide +kernel
theorem dX9_readWish_96 : decode cX9_readWish 96 = .ok (.iload_n 2, 1) := by decide +kernel
theorem dX9_readWish_97 : decode cX9_readWish 97 = .ok (.iadd, 1) := by decide +kernel
theorem dX9_readWish_98 : decode cX9_readWish 98 = .ok (.iload_n 3, 1) := by decide +kernel
theorem dX9_readWish_99 : decode cX9_readWish 99 = .ok (.iastore, 1) := by decide +kernel
theorem dX9_readWish_100 : decode cX9_readWish 100 = .ok (.aload_n 0, 1) := by decide +kernel
theorem dX9_readWish_101 : decode cX9_readWish 101 = .ok (.dup, 1) := by decide +kernel
theorem dX9_readWish_102 : decode cX9_readWish 102 = .ok (.getfield 353, 3) := by decide +kernel
theorem dX9_readWish_105 : decode cX9_readWish 105 = .ok (.iconst 1, 1) := by decide +kernel
theorem dX9_readWish_106 : decode cX9_readWish 106 = .ok (.iadd, 1) := by decide +kernel
theorem dX9_readWish_107 : decode cX9_readWish 107 = .ok (.putfield 353, 3) := by decide +kernel
theorem dX9_readWish_110 : decode cX9_readWish 110 = .ok (.return_, 1) := by decide +kernel
theorem dX9_readDeal_0 : decode cX9_readDeal 0 = .ok (.aload_n 0, 1) := by decide +kernel
theorem dX9_readDeal_1 : decode cX9_readDeal 1 = .ok (.invokevirtual 272, 3) := by decide +kernel
theorem dX9_readDeal_4 : decode cX9_readDeal 4 = .ok (.aload_n 0, 1) := by decide +kernel
theorem dX9_readDeal_5 : decode cX9_readDeal 5 = .ok (.iconst 1, 1) := by decide +kernel
theorem dX9_readDeal_6 : decode cX9_readDeal 6 = .ok (.iconst (-1), 1) := by decide +kernel
theorem dX9_readDeal_7 : decode cX9_readDeal 7 = .ok (.invokevirtual 347, 3) := by decide +kernel
theorem dX9_readDeal_10 : decode cX9_readDeal 10 = .ok (.istore_n 1, 1) := by decide +kernel
theorem dX9_readDeal_11 : decode cX9_readDeal 11 = .ok (.aload_n 0, 1) := by decide +kernel
theorem dX9_readDeal_12 : decode cX9_readDeal 12 = .ok (.iconst 2, 1) := by decide +kernel
theorem dX9_readDeal_13 : decode cX9_readDeal 13 = .ok (.iconst (-1), 1) := by decide +kernel
theorem dX9_readDeal_14 : decode cX9_readDeal 14 = .ok (.invokevirtual 347, 3) := by decide +kernel
theorem dX9_readDeal_17 : decode cX9_readDeal 17 = .ok (.istore_n 2, 1) := by decide +kernel
theorem dX9_readDeal_18 : decode cX9_readDeal 18 = .ok (.aload_n 0, 1) := by decide +kernel
theorem dX9_readDeal_19 : decode cX9_readDeal 19 = .ok (.ldc2_w 243, 3) := by decide +kernel
theorem dX9_readDeal_22 : decode cX9_readDeal 22 = .ok (.invokevirtual 275, 3) := by decide +kernel
theorem dX9_readDeal_25 : decode cX9_readDeal 25 = .ok (.aload_n 0, 1) := by decide +kernel
theorem dX9_readDeal_26 : decode cX9_readDeal 26 = .ok (.iconst 1, 1) := by decide +kernel
theorem dX9_readDeal_27 : decode cX9_readDeal 27 = .ok (.iload_n 1, 1) := by decide +kernel
theorem dX9_readDeal_28 : decode cX9_readDeal 28 = .ok (.invokevirtual 347, 3) := by decide +kernel
theorem dX9_readDeal_31 : decode cX9_readDeal 31 = .ok (.istore_n 3, 1) := by decide +kernel
theorem dX9_readDeal_32 : decode cX9_readDeal 32 = .ok (.aload_n 0, 1) := by decide +kernel
theorem dX9_readDeal_33 : decode cX9_readDeal 33 = .ok (.iconst 2, 1) := by decide +kernel
theorem dX9_readDeal_34 : decode cX9_readDeal 34 = .ok (.iload_n 2, 1) := by decide +kernel
theorem dX9_readDeal_35 : decode cX9_readDeal 35 = .ok (.invokevirtual 347, 3) := by decide +kernel
theorem dX9_readDeal_38 : decode cX9_readDeal 38 = .ok (.istore 4, 2) := by decide +kernel
theorem dX9_readDeal_40 : decode cX9_readDeal 40 = .ok (.aload_n 0, 1) := by decide +kernel
theorem dX9_readDeal_41 : decode cX9_readDeal 41 = .ok (.getfield 216, 3) := by decide +kernel
theorem dX9_readDeal_44 : decode cX9_readDeal 44 = .ok (.ifCond .le 4, 3) := by decide +kernel
theorem dX9_readDeal_47 : decode cX9_readDeal 47 = .ok (.return_, 1) := by decide +kernel
theorem dX9_readDeal_48 : decode cX9_readDeal 48 = .ok (.aload_n 0, 1) := by decide +kernel
theorem dX9_readDeal_49 : decode cX9_readDeal 49 = .ok (.getfield 60, 3) := by decide +kernel
theorem dX9_readDeal_52 : decode cX9_readDeal 52 = .ok (.iconst 4, 1) := by decide +kernel
theorem dX9_readDeal_53 : decode cX9_readDeal 53 = .ok (.aload_n 0, 1) := by decide +kernel
theorem dX9_readDeal_54 : decode cX9_readDeal 54 = .ok (.getfield 356, 3) := by decide +kernel
theorem dX9_readDeal_57 : decode cX9_readDeal 57 = .ok (.imul, 1) := by decide +kernel
theorem dX9_readDeal_58 : decode cX9_readDeal 58 = .ok (.iload_n 1, 1) := by decide +kernel
theorem dX9_readDeal_59 : decode cX9_readDeal 59 = .ok (.iastore, 1) := by decide +kernel
theorem dX9_readDeal_60 : decode cX9_readDeal 60 = .ok (.aload_n 0, 1) := by decide +kernel
theorem dX9_readDeal_61 : decode cX9_readDeal 61 = .ok (.getfield 60, 3) := by decide +kernel
theorem dX9_readDeal_64 : decode cX9_readDeal 64 = .ok (.iconst 4, 1) := by decide +kernel
theorem dX9_readDeal_65 : decode cX9_readDeal 65 = .ok (.aload_n 0, 1) := by decide +kernel
theorem dX9_readDeal_66 : decode cX9_readDeal 66 = .ok (.getfield 356, 3) := by decide +kernel
theorem dX9_readDeal_69 : decode cX9_readDeal 69 = .ok (.imul, 1) := by decide +kernel
theorem dX9_readDeal_70 : decode cX9_readDeal 70 = .ok (.iconst 1, 1) := by decide +kernel
theorem dX9_readDeal_71 : decode cX9_readDeal 71 = .ok (.iadd, 1) := by decide +kernel
theorem dX9_readDeal_72 : decode cX9_readDeal 72 = .ok (.iload_n 2, 1) := by decide +kernel
theorem dX9_readDeal_73 : decode cX9_readDeal 73 = .ok (.iastore, 1) := by decide +kernel
theorem dX9_readDeal_74 : decode cX9_readDeal 74 = .ok (.aload_n 0, 1) := by decide +kernel
theorem dX9_readDeal_75 : decode cX9_readDeal 75 = .ok (.getfield 60, 3) := by decide +kernel
theorem dX9_readDeal_78 : decode cX9_readDeal 78 = .ok (.iconst 4, 1) := by decide +kernel
theorem dX9_readDeal_79 : decode cX9_readDeal 79 = .ok (.aload_n 0, 1) := by decide +kernel
theorem dX9_readDeal_80 : decode cX9_readDeal 80 = .ok (.getfield 356, 3) := by decide +kernel
theorem dX9_readDeal_83 : decode cX9_readDeal 83 = .ok (.imul, 1) := by decide +kernel
theorem dX9_readDeal_84 : decode cX9_readDeal 84 = .ok (.iconst 2, 1) := by decide +kernel
theorem dX9_readDeal_85 : decode cX9_readDeal 85 = .ok (.iadd, 1) := by decide +kernel
theorem dX9_readDeal_86 : decode cX9_readDeal 86 = .ok (.iload_n 3, 1) := by decide +kernel
theorem dX9_readDeal_87 : decode cX9_readDeal 87 = .ok (.iastore, 1) := by decide +kernel
theorem dX9_readDeal_88 : decode cX9_readDeal 88 = .ok (.aload_n 0, 1) := by decide +kernel
theorem dX9_readDeal_89 : decode cX9_readDeal 89 = .ok (.getfield 60, 3) := by decide +kernel
theorem dX9_readDeal_92 : decode cX9_readDeal 92 = .ok (.iconst 4, 1) := by decide +kernel
theorem dX9_readDeal_93 : decode cX9_readDeal 93 = .ok (.aload_n 0, 1) := by decide +kernel
theorem dX9_readDeal_94 : decode cX9_readDeal 94 = .ok (.getfield 356, 3) := by decide +kernel
theorem dX9_readDeal_97 : decode cX9_readDeal 97 = .ok (.imul, 1) := by decide +kernel
theorem dX9_readDeal_98 : decode cX9_readDeal 98 = .ok (.iconst 3, 1) := by decide +kernel
theorem dX9_readDeal_99 : decode cX9_readDeal 99 = .ok (.iadd, 1) := by decide +kernel
theorem dX9_readDeal_100 : decode cX9_readDeal 100 = .ok (.iload 4, 2) := by decide +kernel
theorem dX9_readDeal_102 : decode cX9_readDeal 102 = .ok (.iastore, 1) := by decide +kernel
theorem dX9_readDeal_103 : decode cX9_readDeal 103 = .ok (.aload_n 0, 1) := by decide +kernel
theorem dX9_readDeal_104 : decode cX9_readDeal 104 = .ok (.dup, 1) := by decide +kernel
theorem dX9_readDeal_105 : decode cX9_readDeal 105 = .ok (.getfield 356, 3) := by decide +kernel
theorem dX9_readDeal_108 : decode cX9_readDeal 108 = .ok (.iconst 1, 1) := by decide +kernel
theorem dX9_readDeal_109 : decode cX9_readDeal 109 = .ok (.iadd, 1) := by decide +kernel
theorem dX9_readDeal_110 : decode cX9_readDeal 110 = .ok (.putfield 356, 3) := by decide +kernel
theorem dX9_readDeal_113 : decode cX9_readDeal 113 = .ok (.return_, 1) := by decide +kernel
theorem dX9_readNap_0 : decode cX9_readNap 0 = .ok (.aload_n 0, 1) := by decide +kernel
theorem dX9_readNap_1 : decode cX9_readNap 1 = .ok (.invokevirtual 272, 3) := by decide +kernel
theorem dX9_readNap_4 : decode cX9_readNap 4 = .ok (.aload_n 0, 1) := by decide +kernel
theorem dX9_readNap_5 : decode cX9_readNap 5 = .ok (.aload_n 0, 1) := by decide +kernel
theorem dX9_readNap_6 : decode cX9_readNap 6 = .ok (.iconst 1, 1) := by decide +kernel
theorem dX9_readNap_7 : decode cX9_readNap 7 = .ok (.bipush 99, 2) := by decide +kernel
theorem dX9_readNap_9 : decode cX9_readNap 9 = .ok (.invokevirtual 279, 3) := by decide +kernel
theorem dX9_readNap_12 : decode cX9_readNap 12 = .ok (.putfield 359, 3) := by decide +kernel
theorem dX9_readNap_15 : decode cX9_readNap 15 = .ok (.return_, 1) := by decide +kernel
theorem dX9_readLine_0 : decode cX9_readLine 0 = .ok (.aload_n 0, 1) := by decide +kernel
theorem dX9_readLine_1 : decode cX9_readLine 1 = .ok (.ldc2_w 223, 3) := by decide +kernel
theorem dX9_readLine_4 : decode cX9_readLine 4 = .ok (.invokevirtual 265, 3) := by decide +kernel
theorem dX9_readLine_7 : decode cX9_readLine 7 = .ok (.ifCond .eq 21, 3) := by decide +kernel
theorem dX9_readLine_10 : decode cX9_readLine 10 = .ok (.aload_n 0, 1) := by decide +kernel
theorem dX9_readLine_11 : decode cX9_readLine 11 = .ok (.getfield 42, 3) := by decide +kernel
theorem dX9_readLine_14 : decode cX9_readLine 14 = .ok (.iconst 0, 1) := by decide +kernel
theorem dX9_readLine_15 : decode cX9_readLine 15 = .ok (.iaload, 1) := by decide +kernel
theorem dX9_readLine_16 : decode cX9_readLine 16 = .ok (.bipush 6, 2) := by decide +kernel
theorem dX9_readLine_18 : decode cX9_readLine 18 = .ok (.if_icmp .ge 10, 3) := by decide +kernel
theorem dX9_readLine_21 : decode cX9_readLine 21 = .ok (.aload_n 0, 1) := by decide +kernel
theorem dX9_readLine_22 : decode cX9_readLine 22 = .ok (.invokevirtual 362, 3) := by decide +kernel
theorem dX9_readLine_25 : decode cX9_readLine 25 = .ok (.goto 162, 3) := by decide +kernel
theorem dX9_readLine_28 : decode cX9_readLine 28 = .ok (.aload_n 0, 1) := by decide +kernel
theorem dX9_readLine_29 : decode cX9_readLine 29 = .ok (.ldc2_w 229, 3) := by decide +kernel
theorem dX9_readLine_32 : decode cX9_readLine 32 = .ok (.invokevirtual 265, 3) := by decide +kernel
theorem dX9_readLine_35 : decode cX9_readLine 35 = .ok (.ifCond .eq 21, 3) := by decide +kernel
theorem dX9_readLine_38 : decode cX9_readLine 38 = .ok (.aload_n 0, 1) := by decide +kernel
theorem dX9_readLine_39 : decode cX9_readLine 39 = .ok (.getfield 42, 3) := by decide +kernel
theorem dX9_readLine_42 : decode cX9_readLine 42 = .ok (.iconst 1, 1) := by decide +kernel
theorem dX9_readLine_43 : decode cX9_readLine 43 = .ok (.iaload, 1) := by decide +kernel
theorem dX9_readLine_44 : decode cX9_readLine 44 = .ok (.bipush 6, 2) := by decide +kernel
theorem dX9_readLine_46 : decode cX9_readLine 46 = .ok (.if_icmp .ge 10, 3) := by decide +kernel
theorem dX9_readLine_49 : decode cX9_readLine 49 = .ok (.aload_n 0, 1) := by decide +kernel
theorem dX9_readLine_50 : decode cX9_readLine 50 = .ok (.invokevirtual 365, 3) := by decide +kernel
theorem dX9_readLine_53 : decode cX9_readLine 53 = .ok (.goto 134, 3) := by decide +kernel
theorem dX9_readLine_56 : decode cX9_readLine 56 = .ok (.aload_n 0, 1) := by decide +kernel
theorem dX9_readLine_57 : decode cX9_readLine 57 = .ok (.ldc2_w 235, 3) := by decide +kernel
theorem dX9_readLine_60 : decode cX9_readLine 60 = .ok (.invokevirtual 265, 3) := by decide +kernel
theorem dX9_readLine_63 : decode cX9_readLine 63 = .ok (.ifCond .eq 20, 3) := by decide +kernel
theorem dX9_readLine_66 : decode cX9_readLine 66 = .ok (.aload_n 0, 1) := by decide +kernel
theorem dX9_readLine_67 : decode cX9_readLine 67 = .ok (.getfield 42, 3) := by decide +kernel
theorem dX9_readLine_70 : decode cX9_readLine 70 = .ok (.iconst 2, 1) := by decide +kernel
theorem dX9_readLine_71 : decode cX9_readLine 71 = .ok (.iaload, 1) := by decide +kernel
theorem dX9_readLine_72 : decode cX9_readLine 72 = .ok (.iconst 4, 1) := by decide +kernel
theorem dX9_readLine_73 : decode cX9_readLine 73 = .ok (.if_icmp .ge 10, 3) := by decide +kernel
theorem dX9_readLine_76 : decode cX9_readLine 76 = .ok (.aload_n 0, 1) := by decide +kernel
theorem dX9_readLine_77 : decode cX9_readLine 77 = .ok (.invokevirtual 368, 3) := by decide +kernel
theorem dX9_readLine_80 : decode cX9_readLine 80 = .ok (.goto 107, 3) := by decide +kernel
theorem dX9_readLine_83 : decode cX9_readLine 83 = .ok (.aload_n 0, 1) := by decide +kernel
theorem dX9_readLine_84 : decode cX9_readLine 84 = .ok (.ldc2_w 239, 3) := by decide +kernel
theorem dX9_readLine_87 : decode cX9_readLine 87 = .ok (.invokevirtual 265, 3) := by decide +kernel
theorem dX9_readLine_90 : decode cX9_readLine 90 = .ok (.ifCond .eq 19, 3) := by decide +kernel
theorem dX9_readLine_93 : decode cX9_readLine 93 = .ok (.aload_n 0, 1) := by decide +kernel
theorem dX9_readLine_94 : decode cX9_readLine 94 = .ok (.getfield 353, 3) := by decide +kernel
theorem dX9_readLine_97 : decode cX9_readLine 97 = .ok (.bipush 24, 2) := by decide +kernel
theorem dX9_readLine_99 : decode cX9_readLine 99 = .ok (.if_icmp .ge 10, 3) := by decide +kernel
theorem dX9_readLine_102 : decode cX9_readLine 102 = .ok (.aload_n 0, 1) := by decide +kernel
theorem dX9_readLine_103 : decode cX9_readLine 103 = .ok (.invokevirtual 371, 3) := by decide +kernel
theorem dX9_readLine_106 : decode cX9_readLine 106 = .ok (.goto 81, 3) := by decide +kernel
theorem dX9_readLine_109 : decode cX9_readLine 109 = .ok (.aload_n 0, 1) := by decide +kernel
theorem dX9_readLine_110 : decode cX9_readLine 110 = .ok (.ldc2_w 241, 3) := by decide +kernel
theorem dX9_readLine_113 : decode cX9_readLine 113 = .ok (.invokevirtual 265, 3) := by decide +kernel
theorem dX9_readLine_116 : decode cX9_readLine 116 = .ok (.ifCond .eq 18, 3) := by decide +kernel
theorem dX9_readLine_119 : decode cX9_readLine 119 = .ok (.aload_n 0, 1) := by decide +kernel
theorem dX9_readLine_120 : decode cX9_readLine 120 = .ok (.getfield 356, 3) := by decide +kernel
theorem dX9_readLine_123 : decode cX9_readLine 123 = .ok (.iconst 4, 1) := by decide +kernel
theorem dX9_readLine_124 : decode cX9_readLine 124 = .ok (.if_icmp .ge 10, 3) := by decide +kernel
theorem dX9_readLine_127 : decode cX9_readLine 127 = .ok (.aload_n 0, 1) := by decide +kernel
theorem dX9_readLine_128 : decode cX9_readLine 128 = .ok (.invokevirtual 374, 3) := by decide +kernel
theorem dX9_readLine_131 : decode cX9_readLine 131 = .ok (.goto 56, 3) := by decide +kernel
theorem dX9_readLine_134 : decode cX9_readLine 134 = .ok (.aload_n 0, 1) := by decide +kernel
theorem dX9_readLine_135 : decode cX9_readLine 135 = .ok (.ldc2_w 245, 3) := by decide +kernel
theorem dX9_readLine_138 : decode cX9_readLine 138 = .ok (.invokevirtual 265, 3) := by decide +kernel
theorem dX9_readLine_141 : decode cX9_readLine 141 = .ok (.ifCond .eq 17, 3) := by decide +kernel
theorem dX9_readLine_144 : decode cX9_readLine 144 = .ok (.aload_n 0, 1) := by decide +kernel
theorem dX9_readLine_145 : decode cX9_readLine 145 = .ok (.getfield 359, 3) := by decide +kernel
theorem dX9_readLine_148 : decode cX9_readLine 148 = .ok (.ifCond .ne 10, 3) := by decide +kernel
theorem dX9_readLine_151 : decode cX9_readLine 151 = .ok (.aload_n 0, 1) := by decide +kernel
theorem dX9_readLine_152 : decode cX9_readLine 152 = .ok (.invokevirtual 377, 3) := by decide +kernel
theorem dX9_readLine_155 : decode cX9_readLine 155 = .ok (.goto 32, 3) := by decide +kernel
theorem dX9_readLine_158 : decode cX9_readLine 158 = .ok (.aload_n 0, 1) := by decide +kernel
theorem dX9_readLine_159 : decode cX9_readLine 159 = .ok (.ldc2_w 247, 3) := by decide +kernel
theorem dX9_readLine_162 : decode cX9_readLine 162 = .ok (.invokevirtual 265, 3) := by decide +kernel
theorem dX9_readLine_165 : decode cX9_readLine 165 = .ok (.ifCond .eq 17, 3) := by decide +kernel
theorem dX9_readLine_168 : decode cX9_readLine 168 = .ok (.aload_n 0, 1) := by decide +kernel
theorem dX9_readLine_169 : decode cX9_readLine 169 = .ok (.getfield 324, 3) := by decide +kernel
theorem dX9_readLine_172 : decode cX9_readLine 172 = .ok (.ifCond .ne 10, 3) := by decide +kernel
theorem dX9_readLine_175 : decode cX9_readLine 175 = .ok (.aload_n 0, 1) := by decide +kernel
theorem dX9_readLine_176 : decode cX9_readLine 176 = .ok (.invokevirtual 380, 3) := by decide +kernel
theorem dX9_readLine_179 : decode cX9_readLine 179 = .ok (.goto 8, 3) := by decide +kernel
theorem dX9_readLine_182 : decode cX9_readLine 182 = .ok (.aload_n 0, 1) := by decide +kernel
theorem dX9_readLine_183 : decode cX9_readLine 183 = .ok (.iconst 2, 1) := by decide +kernel
theorem dX9_readLine_184 : decode cX9_readLine 184 = .ok (.invokevirtual 269, 3) := by decide +kernel
theorem dX9_readLine_187 : decode cX9_readLine 187 = .ok (.aload_n 0, 1) := by decide +kernel
theorem dX9_readLine_188 : decode cX9_readLine 188 = .ok (.getfield 216, 3) := by decide +kernel
theorem dX9_readLine_191 : decode cX9_readLine 191 = .ok (.ifCond .ne 17, 3) := by decide +kernel
theorem dX9_readLine_194 : decode cX9_readLine 194 = .ok (.aload_n 0, 1) := by decide +kernel
theorem dX9_readLine_195 : decode cX9_readLine 195 = .ok (.getfield 203, 3) := by decide +kernel
theorem dX9_readLine_198 : decode cX9_readLine 198 = .ok (.bipush 59, 2) := by decide +kernel
theorem dX9_readLine_200 : decode cX9_readLine 200 = .ok (.if_icmp .eq 8, 3) := by decide +kernel
theorem dX9_readLine_203 : decode cX9_readLine 203 = .ok (.aload_n 0, 1) := by decide +kernel
theorem dX9_readLine_204 : decode cX9_readLine 204 = .ok (.iconst 2, 1) := by decide +kernel
theorem dX9_readLine_205 : decode cX9_readLine 205 = .ok (.invokevirtual 269, 3) := by decide +kernel
theorem dX9_readLine_208 : decode cX9_readLine 208 = .ok (.aload_n 0, 1) := by decide +kernel
theorem dX9_readLine_209 : decode cX9_readLine 209 = .ok (.getfield 216, 3) := by decide +kernel
theorem dX9_readLine_212 : decode cX9_readLine 212 = .ok (.ifCond .ne 7, 3) := by decide +kernel
theorem dX9_readLine_215 : decode cX9_readLine 215 = .ok (.aload_n 0, 1) := by decide +kernel
theorem dX9_readLine_216 : decode cX9_readLine 216 = .ok (.invokevirtual 272, 3) := by decide +kernel
theorem dX9_readLine_219 : decode cX9_readLine 219 = .ok (.return_, 1) := by decide +kernel
theorem dX9_readAll_0 : decode cX9_readAll 0 = .ok (.aload_n 0, 1) := by decide +kernel
theorem dX9_readAll_1 : decode cX9_readAll 1 = .ok (.aload_n 0, 1) := by decide +kernel
theorem dX9_readAll_2 : decode cX9_readAll 2 = .ok (.getfield 176, 3) := by decide +kernel
theorem dX9_readAll_5 : decode cX9_readAll 5 = .ok (.putfield 186, 3) := by decide +kernel
theorem dX9_readAll_8 : decode cX9_readAll 8 = .ok (.aload_n 0, 1) := by decide +kernel
theorem dX9_readAll_9 : decode cX9_readAll 9 = .ok (.iconst 0, 1) := by decide +kernel
theorem dX9_readAll_10 : decode cX9_readAll 10 = .ok (.putfield 176, 3) := by decide +kernel
theorem dX9_readAll_13 : decode cX9_readAll 13 = .ok (.aload_n 0, 1) := by decide +kernel
theorem dX9_readAll_14 : decode cX9_readAll 14 = .ok (.iconst 0, 1) := by decide +kernel
theorem dX9_readAll_15 : decode cX9_readAll 15 = .ok (.putfield 183, 3) := by decide +kernel
theorem dX9_readAll_18 : decode cX9_readAll 18 = .ok (.aload_n 0, 1) := by decide +kernel
theorem dX9_readAll_19 : decode cX9_readAll 19 = .ok (.iconst 0, 1) := by decide +kernel
theorem dX9_readAll_20 : decode cX9_readAll 20 = .ok (.putfield 216, 3) := by decide +kernel
theorem dX9_readAll_23 : decode cX9_readAll 23 = .ok (.aload_n 0, 1) := by decide +kernel
theorem dX9_readAll_24 : decode cX9_readAll 24 = .ok (.iconst (-1), 1) := by decide +kernel
theorem dX9_readAll_25 : decode cX9_readAll 25 = .ok (.putfield 13, 3) := by decide +kernel
theorem dX9_readAll_28 : decode cX9_readAll 28 = .ok (.aload_n 0, 1) := by decide +kernel
theorem dX9_readAll_29 : decode cX9_readAll 29 = .ok (.iconst 0, 1) := by decide +kernel
theorem dX9_readAll_30 : decode cX9_readAll 30 = .ok (.putfield 283, 3) := by decide +kernel
theorem dX9_readAll_33 : decode cX9_readAll 33 = .ok (.aload_n 0, 1) := by decide +kernel
theorem dX9_readAll_34 : decode cX9_readAll 34 = .ok (.iconst 0, 1) := by decide +kernel
theorem dX9_readAll_35 : decode cX9_readAll 35 = .ok (.putfield 308, 3) := by decide +kernel
theorem dX9_readAll_38 : decode cX9_readAll 38 = .ok (.aload_n 0, 1) := by decide +kernel
theorem dX9_readAll_39 : decode cX9_readAll 39 = .ok (.iconst 0, 1) := by decide +kernel
theorem dX9_readAll_40 : decode cX9_readAll 40 = .ok (.putfield 353, 3) := by decide +kernel
theorem dX9_readAll_43 : decode cX9_readAll 43 = .ok (.aload_n 0, 1) := by decide +kernel
theorem dX9_readAll_44 : decode cX9_readAll 44 = .ok (.iconst 0, 1) := by decide +kernel
theorem dX9_readAll_45 : decode cX9_readAll 45 = .ok (.putfield 356, 3) := by decide +kernel
theorem dX9_readAll_48 : decode cX9_readAll 48 = .ok (.aload_n 0, 1) := by decide +kernel
theorem dX9_readAll_49 : decode cX9_readAll 49 = .ok (.iconst 0, 1) := by decide +kernel
theorem dX9_readAll_50 : decode cX9_readAll 50 = .ok (.putfield 359, 3) := by decide +kernel
theorem dX9_readAll_53 : decode cX9_readAll 53 = .ok (.aload_n 0, 1) := by decide +kernel
theorem dX9_readAll_54 : decode cX9_readAll 54 = .ok (.iconst 0, 1) := by decide +kernel
theorem dX9_readAll_55 : decode cX9_readAll 55 = .ok (.putfield 324, 3) := by decide +kernel
theorem dX9_readAll_58 : decode cX9_readAll 58 = .ok (.iconst 0, 1) := by decide +kernel
theorem dX9_readAll_59 : decode cX9_readAll 59 = .ok (.istore_n 1, 1) := by decide +kernel
theorem dX9_readAll_60 : decode cX9_readAll 60 = .ok (.iload_n 1, 1) := by decide +kernel
theorem dX9_readAll_61 : decode cX9_readAll 61 = .ok (.iconst 3, 1) := by decide +kernel
theorem dX9_readAll_62 : decode cX9_readAll 62 = .ok (.if_icmp .ge 16, 3) := by decide +kernel
theorem dX9_readAll_65 : decode cX9_readAll 65 = .ok (.aload_n 0, 1) := by decide +kernel
theorem dX9_readAll_66 : decode cX9_readAll 66 = .ok (.getfield 42, 3) := by decide +kernel
theorem dX9_readAll_69 : decode cX9_readAll 69 = .ok (.iload_n 1, 1) := by decide +kernel
theorem dX9_readAll_70 : decode cX9_readAll 70 = .ok (.iconst 0, 1) := by decide +kernel
theorem dX9_readAll_71 : decode cX9_readAll 71 = .ok (.iastore, 1) := by decide +kernel
theorem dX9_readAll_72 : decode cX9_readAll 72 = .ok (.iinc 1 1, 3) := by decide +kernel
theorem dX9_readAll_75 : decode cX9_readAll 75 = .ok (.goto (-15), 3) := by decide +kernel
theorem dX9_readAll_78 : decode cX9_readAll 78 = .ok (.iconst 0, 1) := by decide +kernel
theorem dX9_readAll_79 : decode cX9_readAll 79 = .ok (.istore_n 1, 1) := by decide +kernel
theorem dX9_readAll_80 : decode cX9_readAll 80 = .ok (.iload_n 1, 1) := by decide +kernel
theorem dX9_readAll_81 : decode cX9_readAll 81 = .ok (.bipush 24, 2) := by decide +kernel
theorem dX9_readAll_83 : decode cX9_readAll 83 = .ok (.if_icmp .ge 23, 3) := by decide +kernel
theorem dX9_readAll_86 : decode cX9_readAll 86 = .ok (.aload_n 0, 1) := by decide +kernel
theorem dX9_readAll_87 : decode cX9_readAll 87 = .ok (.getfield 57, 3) := by decide +kernel
theorem dX9_readAll_90 : decode cX9_readAll 90 = .ok (.iload_n 1, 1) := by decide +kernel
theorem dX9_readAll_91 : decode cX9_readAll 91 = .ok (.iconst 0, 1) := by decide +kernel
theorem dX9_readAll_92 : decode cX9_readAll 92 = .ok (.iastore, 1) := by decide +kernel
theorem dX9_readAll_93 : decode cX9_readAll 93 = .ok (.aload_n 0, 1) := by decide +kernel
theorem dX9_readAll_94 : decode cX9_readAll 94 = .ok (.getfield 85, 3) := by decide +kernel
theorem dX9_readAll_97 : decode cX9_readAll 97 = .ok (.iload_n 1, 1) := by decide +kernel
theorem dX9_readAll_98 : decode cX9_readAll 98 = .ok (.iconst 0, 1) := by decide +kernel
theorem dX9_readAll_99 : decode cX9_readAll 99 = .ok (.bastore, 1) := by decide +kernel
theorem dX9_readAll_100 : decode cX9_readAll 100 = .ok (.iinc 1 1, 3) := by decide +kernel
theorem dX9_readAll_103 : decode cX9_readAll 103 = .ok (.goto (-23), 3) := by decide +kernel
theorem dX9_readAll_106 : decode cX9_readAll 106 = .ok (.aload_n 0, 1) := by decide +kernel
theorem dX9_readAll_107 : decode cX9_readAll 107 = .ok (.invokevirtual 272, 3) := by decide +kernel
theorem dX9_readAll_110 : decode cX9_readAll 110 = .ok (.aload_n 0, 1) := by decide +kernel
theorem dX9_readAll_111 : decode cX9_readAll 111 = .ok (.getfield 216, 3) := by decide +kernel
theorem dX9_readAll_114 : decode cX9_readAll 114 = .ok (.ifCond .ne 17, 3) := by decide +kernel
theorem dX9_readAll_117 : decode cX9_readAll 117 = .ok (.aload_n 0, 1) := by decide +kernel
theorem dX9_readAll_118 : decode cX9_readAll 118 = .ok (.getfield 203, 3) := by decide +kernel
theorem dX9_readAll_121 : decode cX9_readAll 121 = .ok (.ifCond .eq 10, 3) := by decide +kernel
theorem dX9_readAll_124 : decode cX9_readAll 124 = .ok (.aload_n 0, 1) := by decide +kernel
theorem dX9_readAll_125 : decode cX9_readAll 125 = .ok (.invokevirtual 383, 3) := by decide +kernel
theorem dX9_readAll_128 : decode cX9_readAll 128 = .ok (.goto (-18), 3) := by decide +kernel
theorem dX9_readAll_131 : decode cX9_readAll 131 = .ok (.return_, 1) := by decide +kernel
theorem dX9_hall_0 : decode cX9_hall 0 = .ok (.aload_n 0, 1) := by decide +kernel
theorem dX9_hall_1 : decode cX9_hall 1 = .ok (.invokevirtual 386, 3) := by decide +kernel
theorem dX9_hall_4 : decode cX9_hall 4 = .ok (.aload_n 0, 1) := by decide +kernel
theorem dX9_hall_5 : decode cX9_hall 5 = .ok (.getfield 216, 3) := by decide +kernel
theorem dX9_hall_8 : decode cX9_hall 8 = .ok (.ifCond .le 5, 3) := by decide +kernel
theorem dX9_hall_11 : decode cX9_hall 11 = .ok (.iconst (-1), 1) := by decide +kernel
theorem dX9_hall_12 : decode cX9_hall 12 = .ok (.ireturn, 1) := by decide +kernel
theorem dX9_hall_13 : decode cX9_hall 13 = .ok (.iconst 0, 1) := by decide +kernel
theorem dX9_hall_14 : decode cX9_hall 14 = .ok (.istore_n 1, 1) := by decide +kernel
theorem dX9_hall_15 : decode cX9_hall 15 = .ok (.iload_n 1, 1) := by decide +kernel
theorem dX9_hall_16 : decode cX9_hall 16 = .ok (.iconst 3, 1) := by decide +kernel
theorem dX9_hall_17 : decode cX9_hall 17 = .ok (.if_icmp .ge 21, 3) := by decide +kernel
theorem dX9_hall_20 : decode cX9_hall 20 = .ok (.aload_n 0, 1) := by decide +kernel
theorem dX9_hall_21 : decode cX9_hall 21 = .ok (.getfield 45, 3) := by decide +kernel
theorem dX9_hall_24 : decode cX9_hall 24 = .ok (.iload_n 1, 1) := by decide +kernel
theorem dX9_hall_25 : decode cX9_hall 25 = .ok (.aload_n 0, 1) := by decide +kernel
theorem dX9_hall_26 : decode cX9_hall 26 = .ok (.getfield 42, 3) := by decide +kernel
theorem dX9_hall_29 : decode cX9_hall 29 = .ok (.iload_n 1, 1) := by decide +kernel
theorem dX9_hall_30 : decode cX9_hall 30 = .ok (.iaload, 1) := by decide +kernel
theorem dX9_hall_31 : decode cX9_hall 31 = .ok (.iastore, 1) := by decide +kernel
theorem dX9_hall_32 : decode cX9_hall 32 = .ok (.iinc 1 1, 3) := by decide +kernel
theorem dX9_hall_35 : decode cX9_hall 35 = .ok (.goto (-20), 3) := by decide +kernel
theorem dX9_hall_38 : decode cX9_hall 38 = .ok (.iconst 0, 1) := by decide +kernel
theorem dX9_hall_39 : decode cX9_hall 39 = .ok (.istore_n 1, 1) := by decide +kernel
theorem dX9_hall_40 : decode cX9_hall 40 = .ok (.iload_n 1, 1) := by decide +kernel
theorem dX9_hall_41 : decode cX9_hall 41 = .ok (.bipush 6, 2) := by decide +kernel
theorem dX9_hall_43 : decode cX9_hall 43 = .ok (.if_icmp .ge 57, 3) := by decide +kernel
theorem dX9_hall_46 : decode cX9_hall 46 = .ok (.aload_n 0, 1) := by decide +kernel
theorem dX9_hall_47 : decode cX9_hall 47 = .ok (.getfield 63, 3) := by decide +kernel
theorem dX9_hall_50 : decode cX9_hall 50 = .ok (.iload_n 1, 1) := by decide +kernel
theorem dX9_hall_51 : decode cX9_hall 51 = .ok (.aload_n 0, 1) := by decide +kernel
theorem dX9_hall_52 : decode cX9_hall 52 = .ok (.getfield 48, 3) := by decide +kernel
theorem dX9_hall_55 : decode cX9_hall 55 = .ok (.iload_n 1, 1) := by decide +kernel
theorem dX9_hall_56 : decode cX9_hall 56 = .ok (.iaload, 1) := by decide +kernel
theorem dX9_hall_57 : decode cX9_hall 57 = .ok (.iastore, 1) := by decide +kernel
theorem dX9_hall_58 : decode cX9_hall 58 = .ok (.aload_n 0, 1) := by decide +kernel
theorem dX9_hall_59 : decode cX9_hall 59 = .ok (.getfield 66, 3) := by decide +kernel
theorem dX9_hall_62 : decode cX9_hall 62 = .ok (.iload_n 1, 1) := by decide +kernel
theorem dX9_hall_63 : decode cX9_hall 63 = .ok (.aload_n 0, 1) := by decide +kernel
theorem dX9_hall_64 : decode cX9_hall 64 = .ok (.getfield 51, 3) := by decide +kernel
theorem dX9_hall_67 : decode cX9_hall 67 = .ok (.iload_n 1, 1) := by decide +kernel
theorem dX9_hall_68 : decode cX9_hall 68 = .ok (.iaload, 1) := by decide +kernel
theorem dX9_hall_69 : decode cX9_hall 69 = .ok (.iastore, 1) := by decide +kernel
theorem dX9_hall_70 : decode cX9_hall 70 = .ok (.aload_n 0, 1) := by decide +kernel
theorem dX9_hall_71 : decode cX9_hall 71 = .ok (.getfield 88, 3) := by decide +kernel
theorem dX9_hall_74 : decode cX9_hall 74 = .ok (.iload_n 1, 1) := by decide +kernel
theorem dX9_hall_75 : decode cX9_hall 75 = .ok (.aload_n 0, 1) := by decide +kernel
theorem dX9_hall_76 : decode cX9_hall 76 = .ok (.getfield 78, 3) := by decide +kernel
theorem dX9_hall_79 : decode cX9_hall 79 = .ok (.iload_n 1, 1) := by decide +kernel
theorem dX9_hall_80 : decode cX9_hall 80 = .ok (.baload, 1) := by decide +kernel
theorem dX9_hall_81 : decode cX9_hall 81 = .ok (.bastore, 1) := by decide +kernel
theorem dX9_hall_82 : decode cX9_hall 82 = .ok (.aload_n 0, 1) := by decide +kernel
theorem dX9_hall_83 : decode cX9_hall 83 = .ok (.getfield 91, 3) := by decide +kernel
theorem dX9_hall_86 : decode cX9_hall 86 = .ok (.iload_n 1, 1) := by decide +kernel
theorem dX9_hall_87 : decode cX9_hall 87 = .ok (.aload_n 0, 1) := by decide +kernel
theorem dX9_hall_88 : decode cX9_hall 88 = .ok (.getfield 82, 3) := by decide +kernel
theorem dX9_hall_91 : decode cX9_hall 91 = .ok (.iload_n 1, 1) := by decide +kernel
theorem dX9_hall_92 : decode cX9_hall 92 = .ok (.baload, 1) := by decide +kernel
theorem dX9_hall_93 : decode cX9_hall 93 = .ok (.bastore, 1) := by decide +kernel
theorem dX9_hall_94 : decode cX9_hall 94 = .ok (.iinc 1 1, 3) := by decide +kernel
theorem dX9_hall_97 : decode cX9_hall 97 = .ok (.goto (-57), 3) := by decide +kernel
theorem dX9_hall_100 : decode cX9_hall 100 = .ok (.iconst 0, 1) := by decide +kernel
theorem dX9_hall_101 : decode cX9_hall 101 = .ok (.istore_n 1, 1) := by decide +kernel
theorem dX9_hall_102 : decode cX9_hall 102 = .ok (.iload_n 1, 1) := by decide +kernel
theorem dX9_hall_103 : decode cX9_hall 103 = .ok (.iconst 4, 1) := by decide +kernel
theorem dX9_hall_104 : decode cX9_hall 104 = .ok (.if_icmp .ge 21, 3) := by decide +kernel
theorem dX9_hall_107 : decode cX9_hall 107 = .ok (.aload_n 0, 1) := by decide +kernel
theorem dX9_hall_108 : decode cX9_hall 108 = .ok (.getfield 69, 3) := by decide +kernel
theorem dX9_hall_111 : decode cX9_hall 111 = .ok (.iload_n 1, 1) := by decide +kernel
theorem dX9_hall_112 : decode cX9_hall 112 = .ok (.aload_n 0, 1) := by decide +kernel
theorem dX9_hall_113 : decode cX9_hall 113 = .ok (.getfield 54, 3) := by decide +kernel
theorem dX9_hall_116 : decode cX9_hall 116 = .ok (.iload_n 1, 1) := by decide +kernel
theorem dX9_hall_117 : decode cX9_hall 117 = .ok (.iaload, 1) := by decide +kernel
theorem dX9_hall_118 : decode cX9_hall 118 = .ok (.iastore, 1) := by decide +kernel
theorem dX9_hall_119 : decode cX9_hall 119 = .ok (.iinc 1 1, 3) := by decide +kernel
theorem dX9_hall_122 : decode cX9_hall 122 = .ok (.goto (-20), 3) := by decide +kernel
theorem dX9_hall_125 : decode cX9_hall 125 = .ok (.iconst 0, 1) := by decide +kernel
theorem dX9_hall_126 : decode cX9_hall 126 = .ok (.istore_n 1, 1) := by decide +kernel
theorem dX9_hall_127 : decode cX9_hall 127 = .ok (.iload_n 1, 1) := by decide +kernel
theorem dX9_hall_128 : decode cX9_hall 128 = .ok (.bipush 24, 2) := by decide +kernel
theorem dX9_hall_130 : decode cX9_hall 130 = .ok (.if_icmp .ge 21, 3) := by decide +kernel
theorem dX9_hall_133 : decode cX9_hall 133 = .ok (.aload_n 0, 1) := by decide +kernel
theorem dX9_hall_134 : decode cX9_hall 134 = .ok (.getfield 72, 3) := by decide +kernel
theorem dX9_hall_137 : decode cX9_hall 137 = .ok (.iload_n 1, 1) := by decide +kernel
theorem dX9_hall_138 : decode cX9_hall 138 = .ok (.aload_n 0, 1) := by decide +kernel
theorem dX9_hall_139 : decode cX9_hall 139 = .ok (.getfield 57, 3) := by decide +kernel
theorem dX9_hall_142 : decode cX9_hall 142 = .ok (.iload_n 1, 1) := by decide +kernel
theorem dX9_hall_143 : decode cX9_hall 143 = .ok (.iaload, 1) := by decide +kernel
theorem dX9_hall_144 : decode cX9_hall 144 = .ok (.iastore, 1) := by decide +kernel
theorem dX9_hall_145 : decode cX9_hall 145 = .ok (.iinc 1 1, 3) := by decide +kernel
theorem dX9_hall_148 : decode cX9_hall 148 = .ok (.goto (-21), 3) := by decide +kernel
theorem dX9_hall_151 : decode cX9_hall 151 = .ok (.iconst 0, 1) := by decide +kernel
theorem dX9_hall_152 : decode cX9_hall 152 = .ok (.istore_n 1, 1) := by decide +kernel
theorem dX9_hall_153 : decode cX9_hall 153 = .ok (.iload_n 1, 1) := by decide +kernel
theorem dX9_hall_154 : decode cX9_hall 154 = .ok (.bipush 16, 2) := by decide +kernel
theorem dX9_hall_156 : decode cX9_hall 156 = .ok (.if_icmp .ge 21, 3) := by decide +kernel
theorem dX9_hall_159 : decode cX9_hall 159 = .ok (.aload_n 0, 1) := by decide +kernel
theorem dX9_hall_160 : decode cX9_hall 160 = .ok (.getfield 75, 3) := by decide +kernel
theorem dX9_hall_163 : decode cX9_hall 163 = .ok (.iload_n 1, 1) := by decide +kernel
theorem dX9_hall_164 : decode cX9_hall 164 = .ok (.aload_n 0, 1) := by decide +kernel
theorem dX9_hall_165 : decode cX9_hall 165 = .ok (.getfield 60, 3) := by decide +kernel
theorem dX9_hall_168 : decode cX9_hall 168 = .ok (.iload_n 1, 1) := by decide +kernel
theorem dX9_hall_169 : decode cX9_hall 169 = .ok (.iaload, 1) := by decide +kernel
theorem dX9_hall_170 : decode cX9_hall 170 = .ok (.iastore, 1) := by decide +kernel
theorem dX9_hall_171 : decode cX9_hall 171 = .ok (.iinc 1 1, 3) := by decide +kernel
theorem dX9_hall_174 : decode cX9_hall 174 = .ok (.goto (-21), 3) := by decide +kernel
theorem dX9_hall_177 : decode cX9_hall 177 = .ok (.iconst 0, 1) := by decide +kernel
theorem dX9_hall_178 : decode cX9_hall 178 = .ok (.istore_n 1, 1) := by decide +kernel
theorem dX9_hall_179 : decode cX9_hall 179 = .ok (.iload_n 1, 1) := by decide +kernel
theorem dX9_hall_180 : decode cX9_hall 180 = .ok (.aload_n 0, 1) := by decide +kernel
theorem dX9_hall_181 : decode cX9_hall 181 = .ok (.getfield 283, 3) := by decide +kernel
theorem dX9_hall_184 : decode cX9_hall 184 = .ok (.if_icmp .ge 33, 3) := by decide +kernel
theorem dX9_hall_187 : decode cX9_hall 187 = .ok (.aload_n 0, 1) := by decide +kernel
theorem dX9_hall_188 : decode cX9_hall 188 = .ok (.getfield 23, 3) := by decide +kernel
theorem dX9_hall_191 : decode cX9_hall 191 = .ok (.iload_n 1, 1) := by decide +kernel
theorem dX9_hall_192 : decode cX9_hall 192 = .ok (.aload_n 0, 1) := by decide +kernel
theorem dX9_hall_193 : decode cX9_hall 193 = .ok (.getfield 17, 3) := by decide +kernel
theorem dX9_hall_196 : decode cX9_hall 196 = .ok (.iload_n 1, 1) := by decide +kernel
theorem dX9_hall_197 : decode cX9_hall 197 = .ok (.iaload, 1) := by decide +kernel
theorem dX9_hall_198 : decode cX9_hall 198 = .ok (.iastore, 1) := by decide +kernel
theorem dX9_hall_199 : decode cX9_hall 199 = .ok (.aload_n 0, 1) := by decide +kernel
theorem dX9_hall_200 : decode cX9_hall 200 = .ok (.getfield 26, 3) := by decide +kernel
theorem dX9_hall_203 : decode cX9_hall 203 = .ok (.iload_n 1, 1) := by decide +kernel
theorem dX9_hall_204 : decode cX9_hall 204 = .ok (.aload_n 0, 1) := by decide +kernel
theorem dX9_hall_205 : decode cX9_hall 205 = .ok (.getfield 20, 3) := by decide +kernel
theorem dX9_hall_208 : decode cX9_hall 208 = .ok (.iload_n 1, 1) := by decide +kernel
theorem dX9_hall_209 : decode cX9_hall 209 = .ok (.iaload, 1) := by decide +kernel
theorem dX9_hall_210 : decode cX9_hall 210 = .ok (.iastore, 1) := by decide +kernel
theorem dX9_hall_211 : decode cX9_hall 211 = .ok (.iinc 1 1, 3) := by decide +kernel
theorem dX9_hall_214 : decode cX9_hall 214 = .ok (.goto (-35), 3) := by decide +kernel
theorem dX9_hall_217 : decode cX9_hall 217 = .ok (.aload_n 0, 1) := by decide +kernel
theorem dX9_hall_218 : decode cX9_hall 218 = .ok (.aload_n 0, 1) := by decide +kernel
theorem dX9_hall_219 : decode cX9_hall 219 = .ok (.getfield 283, 3) := by decide +kernel
theorem dX9_hall_222 : decode cX9_hall 222 = .ok (.putfield 389, 3) := by decide +kernel
theorem dX9_hall_225 : decode cX9_hall 225 = .ok (.aload_n 0, 1) := by decide +kernel
theorem dX9_hall_226 : decode cX9_hall 226 = .ok (.aload_n 0, 1) := by decide +kernel
theorem dX9_hall_227 : decode cX9_hall 227 = .ok (.getfield 308, 3) := by decide +kernel
theorem dX9_hall_230 : decode cX9_hall 230 = .ok (.putfield 392, 3) := by decide +kernel
theorem dX9_hall_233 : decode cX9_hall 233 = .ok (.aload_n 0, 1) := by decide +kernel
theorem dX9_hall_234 : decode cX9_hall 234 = .ok (.aload_n 0, 1) := by decide +kernel
theorem dX9_hall_235 : decode cX9_hall 235 = .ok (.getfield 353, 3) := by decide +kernel
theorem dX9_hall_238 : decode cX9_hall 238 = .ok (.putfield 395, 3) := by decide +kernel
theorem dX9_hall_241 : decode cX9_hall 241 = .ok (.aload_n 0, 1) := by decide +kernel
theorem dX9_hall_242 : decode cX9_hall 242 = .ok (.aload_n 0, 1) := by decide +kernel
theorem dX9_hall_243 : decode cX9_hall 243 = .ok (.getfield 356, 3) := by decide +kernel
theorem dX9_hall_246 : decode cX9_hall 246 = .ok (.putfield 398, 3) := by decide +kernel
theorem dX9_hall_249 : decode cX9_hall 249 = .ok (.aload_n 0, 1) := by decide +kernel
theorem dX9_hall_250 : decode cX9_hall 250 = .ok (.aload_n 0, 1) := by decide +kernel
theorem dX9_hall_251 : decode cX9_hall 251 = .ok (.getfield 359, 3) := by decide +kernel
theorem dX9_hall_254 : decode cX9_hall 254 = .ok (.putfield 401, 3) := by decide +kernel
theorem dX9_hall_257 : decode cX9_hall 257 = .ok (.aload_n 0, 1) := by decide +kernel
theorem dX9_hall_258 : decode cX9_hall 258 = .ok (.aload_n 0, 1) := by decide +kernel
theorem dX9_hall_259 : decode cX9_hall 259 = .ok (.getfield 324, 3) := by decide +kernel
theorem dX9_hall_262 : decode cX9_hall 262 = .ok (.putfield 404, 3) := by decide +kernel
theorem dX9_hall_265 : decode cX9_hall 265 = .ok (.aload_n 0, 1) := by decide +kernel
theorem dX9_hall_266 : decode cX9_hall 266 = .ok (.invokevirtual 407, 3) := by decide +kernel
theorem dX9_hall_269 : decode cX9_hall 269 = .ok (.aload_n 0, 1) := by decide +kernel
theorem dX9_hall_270 : decode cX9_hall 270 = .ok (.iconst 0, 1) := by decide +kernel
theorem dX9_hall_271 : decode cX9_hall 271 = .ok (.putfield 410, 3) := by decide +kernel
theorem dX9_hall_274 : decode cX9_hall 274 = .ok (.iconst 0, 1) := by decide +kernel
theorem dX9_hall_275 : decode cX9_hall 275 = .ok (.istore_n 1, 1) := by decide +kernel
theorem dX9_hall_276 : decode cX9_hall 276 = .ok (.iload_n 1, 1) := by decide +kernel
theorem dX9_hall_277 : decode cX9_hall 277 = .ok (.iconst 3, 1) := by decide +kernel
theorem dX9_hall_278 : decode cX9_hall 278 = .ok (.if_icmp .ge 16, 3) := by decide +kernel
theorem dX9_hall_281 : decode cX9_hall 281 = .ok (.aload_n 0, 1) := by decide +kernel
theorem dX9_hall_282 : decode cX9_hall 282 = .ok (.getfield 155, 3) := by decide +kernel
theorem dX9_hall_285 : decode cX9_hall 285 = .ok (.iload_n 1, 1) := by decide +kernel
theorem dX9_hall_286 : decode cX9_hall 286 = .ok (.iconst 0, 1) := by decide +kernel
theorem dX9_hall_287 : decode cX9_hall 287 = .ok (.bastore, 1) := by decide +kernel
theorem dX9_hall_288 : decode cX9_hall 288 = .ok (.iinc 1 1, 3) := by decide +kernel
theorem dX9_hall_291 : decode cX9_hall 291 = .ok (.goto (-15), 3) := by decide +kernel
theorem dX9_hall_294 : decode cX9_hall 294 = .ok (.aload_n 0, 1) := by decide +kernel
theorem dX9_hall_295 : decode cX9_hall 295 = .ok (.getfield 45, 3) := by decide +kernel
theorem dX9_hall_298 : decode cX9_hall 298 = .ok (.iconst 1, 1) := by decide +kernel
theorem dX9_hall_299 : decode cX9_hall 299 = .ok (.iaload, 1) := by decide +kernel
theorem dX9_hall_300 : decode cX9_hall 300 = .ok (.ireturn, 1) := by decide +kernel
theorem dX9_fault_0 : decode cX9_fault 0 = .ok (.iload_n 1, 1) := by decide +kernel
theorem dX9_fault_1 : decode cX9_fault 1 = .ok (.ifCond .ne 10, 3) := by decide +kernel
theorem dX9_fault_4 : decode cX9_fault 4 = .ok (.aload_n 0, 1) := by decide +kernel
theorem dX9_fault_5 : decode cX9_fault 5 = .ok (.getfield 216, 3) := by decide +kernel
theorem dX9_fault_8 : decode cX9_fault 8 = .ok (.goto 16, 3) := by decide +kernel
theorem dX9_fault_11 : decode cX9_fault 11 = .ok (.iload_n 1, 1) := by decide +kernel
theorem dX9_fault_12 : decode cX9_fault 12 = .ok (.iconst 1, 1) := by decide +kernel
theorem dX9_fault_13 : decode cX9_fault 13 = .ok (.if_icmp .ne 10, 3) := by decide +kernel
theorem dX9_fault_16 : decode cX9_fault 16 = .ok (.aload_n 0, 1) := by decide +kernel
theorem dX9_fault_17 : decode cX9_fault 17 = .ok (.getfield 13, 3) := by decide +kernel
theorem dX9_fault_20 : decode cX9_fault 20 = .ok (.goto 4, 3) := by decide +kernel
theorem dX9_fault_23 : decode cX9_fault 23 = .ok (.iconst (-1), 1) := by decide +kernel
theorem dX9_fault_24 : decode cX9_fault 24 = .ok (.ireturn, 1) := by decide +kernel
theorem dX9_men_0 : decode cX9_men 0 = .ok (.aload_n 0, 1) := by decide +kernel
theorem dX9_men_1 : decode cX9_men 1 = .ok (.getfield 45, 3) := by decide +kernel
theorem dX9_men_4 : decode cX9_men 4 = .ok (.iconst 1, 1) := by decide +kernel
theorem dX9_men_5 : decode cX9_men 5 = .ok (.iaload, 1) := by decide +kernel
theorem dX9_men_6 : decode cX9_men 6 = .ok (.ireturn, 1) := by decide +kernel
theorem dX9_isMan_0 : decode cX9_isMan 0 = .ok (.iload_n 1, 1) := by decide +kernel
theorem dX9_isMan_1 : decode cX9_isMan 1 = .ok (.ifCond .lt 17, 3) := by decide +kernel
theorem dX9_isMan_4 : decode cX9_isMan 4 = .ok (.iload_n 1, 1) := by decide +kernel
theorem dX9_isMan_5 : decode cX9_isMan 5 = .ok (.aload_n 0, 1) := by decide +kernel
theorem dX9_isMan_6 : decode cX9_isMan 6 = .ok (.getfield 45, 3) := by decide +kernel
theorem dX9_isMan_9 : decode cX9_isMan 9 = .ok (.iconst 1, 1) := by decide +kernel
theorem dX9_isMan_10 : decode cX9_isMan 10 = .ok (.iaload, 1) := by decide +kernel
theorem dX9_isMan_11 : decode cX9_isMan 11 = .ok (.if_icmp .ge 7, 3) := by decide +kernel
theorem dX9_isMan_14 : decode cX9_isMan 14 = .ok (.iconst 1, 1) := by decide +kernel
theorem dX9_isMan_15 : decode cX9_isMan 15 = .ok (.goto 4, 3) := by decide +kernel
theorem dX9_isMan_18 : decode cX9_isMan 18 = .ok (.iconst 0, 1) := by decide +kernel
theorem dX9_isMan_19 : decode cX9_isMan 19 = .ok (.ireturn, 1) := by decide +kernel
theorem dX9_isChair_0 : decode cX9_isChair 0 = .ok (.iload_n 1, 1) := by decide +kernel
theorem dX9_isChair_1 : decode cX9_isChair 1 = .ok (.ifCond .lt 17, 3) := by decide +kernel
theorem dX9_isChair_4 : decode cX9_isChair 4 = .ok (.iload_n 1, 1) := by decide +kernel
theorem dX9_isChair_5 : decode cX9_isChair 5 = .ok (.aload_n 0, 1) := by decide +kernel
theorem dX9_isChair_6 : decode cX9_isChair 6 = .ok (.getfield 45, 3) := by decide +kernel
theorem dX9_isChair_9 : decode cX9_isChair 9 = .ok (.iconst 0, 1) := by decide +kernel
theorem dX9_isChair_10 : decode cX9_isChair 10 = .ok (.iaload, 1) := by decide +kernel
theorem dX9_isChair_11 : decode cX9_isChair 11 = .ok (.if_icmp .ge 7, 3) := by decide +kernel
theorem dX9_isChair_14 : decode cX9_isChair 14 = .ok (.iconst 1, 1) := by decide +kernel
theorem dX9_isChair_15 : decode cX9_isChair 15 = .ok (.goto 4, 3) := by decide +kernel
theorem dX9_isChair_18 : decode cX9_isChair 18 = .ok (.iconst 0, 1) := by decide +kernel
theorem dX9_isChair_19 : decode cX9_isChair 19 = .ok (.ireturn, 1) := by decide +kernel
theorem dX9_isMatter_0 : decode cX9_isMatter 0 = .ok (.iload_n 1, 1) := by decide +kernel
theorem dX9_isMatter_1 : decode cX9_isMatter 1 = .ok (.ifCond .lt 17, 3) := by decide +kernel
theorem dX9_isMatter_4 : decode cX9_isMatter 4 = .ok (.iload_n 1, 1) := by decide +kernel
theorem dX9_isMatter_5 : decode cX9_isMatter 5 = .ok (.aload_n 0, 1) := by decide +kernel
theorem dX9_isMatter_6 : decode cX9_isMatter 6 = .ok (.getfield 45, 3) := by decide +kernel
theorem dX9_isMatter_9 : decode cX9_isMatter 9 = .ok (.iconst 2, 1) := by decide +kernel
theorem dX9_isMatter_10 : decode cX9_isMatter 10 = .ok (.iaload, 1) := by decide +kernel
theorem dX9_isMatter_11 : decode cX9_isMatter 11 = .ok (.if_icmp .ge 7, 3) := by decide +kernel
theorem dX9_isMatter_14 : decode cX9_isMatter 14 = .ok (.iconst 1, 1) := by decide +kernel
theorem dX9_isMatter_15 : decode cX9_isMatter 15 = .ok (.goto 4, 3) := by decide +kernel
theorem dX9_isMatter_18 : decode cX9_isMatter 18 = .ok (.iconst 0, 1) := by decide +kernel
theorem dX9_isMatter_19 : decode cX9_isMatter 19 = .ok (.ireturn, 1) := by decide +kernel
theorem dX9_ones_0 : decode cX9_ones 0 = .ok (.iconst 0, 1) := by decide +kernel
theorem dX9_ones_1 : decode cX9_ones 1 = .ok (.istore_n 1, 1) := by decide +kernel
theorem dX9_ones_2 : decode cX9_ones 2 = .ok (.iconst 0, 1) := by decide +kernel
theorem dX9_ones_3 : decode cX9_ones 3 = .ok (.istore_n 2, 1) := by decide +kernel
theorem dX9_ones_4 : decode cX9_ones 4 = .ok (.iload_n 2, 1) := by decide +kernel
theorem dX9_ones_5 : decode cX9_ones 5 = .ok (.bipush 18, 2) := by decide +kernel
theorem dX9_ones_7 : decode cX9_ones 7 = .ok (.if_icmp .ge 17, 3) := by decide +kernel
theorem dX9_ones_10 : decode cX9_ones 10 = .ok (.iload_n 1, 1) := by decide +kernel
theorem dX9_ones_11 : decode cX9_ones 11 = .ok (.iload_n 0, 1) := by decide +kernel
theorem dX9_ones_12 : decode cX9_ones 12 = .ok (.iload_n 2, 1) := by decide +kernel
theorem dX9_ones_13 : decode cX9_ones 13 = .ok (.ishr, 1) := by decide +kernel
theorem dX9_ones_14 : decode cX9_ones 14 = .ok (.iconst 1, 1) := by decide +kernel
theorem dX9_ones_15 : decode cX9_ones 15 = .ok (.iand, 1) := by decide +kernel
theorem dX9_ones_16 : decode cX9_ones 16 = .ok (.iadd, 1) := by decide +kernel
theorem dX9_ones_17 : decode cX9_ones 17 = .ok (.istore_n 1, 1) := by decide +kernel
theorem dX9_ones_18 : decode cX9_ones 18 = .ok (.iinc 2 1, 3) := by decide +kernel
theorem dX9_ones_21 : decode cX9_ones 21 = .ok (.goto (-17), 3) := by decide +kernel
theorem dX9_ones_24 : decode cX9_ones 24 = .ok (.iload_n 1, 1) := by decide +kernel
theorem dX9_ones_25 : decode cX9_ones 25 = .ok (.ireturn, 1) := by decide +kernel
theorem dX9_worked_0 : decode cX9_worked 0 = .ok (.iload_n 0, 1) := by decide +kernel
theorem dX9_worked_1 : decode cX9_worked 1 = .ok (.tableswitch 116 20 27 #[47, 61, 116, 75, 86, 97, 108, 112], 47) := by decide +kernel
theorem dX9_worked_48 : decode cX9_worked 48 = .ok (.iload_n 1, 1) := by decide +kernel
theorem dX9_worked_49 : decode cX9_worked 49 = .ok (.ifCond .ne 7, 3) := by decide +kernel
theorem dX9_worked_52 : decode cX9_worked 52 = .ok (.iload_n 2, 1) := by decide +kernel
theorem dX9_worked_53 : decode cX9_worked 53 = .ok (.ifCond .eq 7, 3) := by decide +kernel
theorem dX9_worked_56 : decode cX9_worked 56 = .ok (.iconst 1, 1) := by decide +kernel
theorem dX9_worked_57 : decode cX9_worked 57 = .ok (.goto 4, 3) := by decide +kernel
theorem dX9_worked_60 : decode cX9_worked 60 = .ok (.iconst 0, 1) := by decide +kernel
theorem dX9_worked_61 : decode cX9_worked 61 = .ok (.ireturn, 1) := by decide +kernel
theorem dX9_worked_62 : decode cX9_worked 62 = .ok (.iload_n 1, 1) := by decide +kernel
theorem dX9_worked_63 : decode cX9_worked 63 = .ok (.ifCond .eq 11, 3) := by decide +kernel
theorem dX9_worked_66 : decode cX9_worked 66 = .ok (.iload_n 2, 1) := by decide +kernel
theorem dX9_worked_67 : decode cX9_worked 67 = .ok (.ifCond .eq 7, 3) := by decide +kernel
theorem dX9_worked_70 : decode cX9_worked 70 = .ok (.iconst 1, 1) := by decide +kernel
theorem dX9_worked_71 : decode cX9_worked 71 = .ok (.goto 4, 3) := by decide +kernel
theorem dX9_worked_74 : decode cX9_worked 74 = .ok (.iconst 0, 1) := by decide +kernel
theorem dX9_worked_75 : decode cX9_worked 75 = .ok (.ireturn, 1) := by decide +kernel
theorem dX9_worked_76 : decode cX9_worked 76 = .ok (.iload_n 1, 1) := by decide +kernel
theorem dX9_worked_77 : decode cX9_worked 77 = .ok (.iload_n 2, 1) := by decide +kernel
theorem dX9_worked_78 : decode cX9_worked 78 = .ok (.if_icmp .ne 7, 3) := by decide +kernel
theorem dX9_worked_81 : decode cX9_worked 81 = .ok (.iconst 1, 1) := by decide +kernel
theorem dX9_worked_82 : decode cX9_worked 82 = .ok (.goto 4, 3) := by decide +kernel
theorem dX9_worked_85 : decode cX9_worked 85 = .ok (.iconst 0, 1) := by decide +kernel
theorem dX9_worked_86 : decode cX9_worked 86 = .ok (.ireturn, 1) := by decide +kernel
theorem dX9_worked_87 : decode cX9_worked 87 = .ok (.iload_n 1, 1) := by decide +kernel
theorem dX9_worked_88 : decode cX9_worked 88 = .ok (.iload_n 2, 1) := by decide +kernel
theorem dX9_worked_89 : decode cX9_worked 89 = .ok (.if_icmp .ge 7, 3) := by decide +kernel
theorem dX9_worked_92 : decode cX9_worked 92 = .ok (.iconst 1, 1) := by decide +kernel
theorem dX9_worked_93 : decode cX9_worked 93 = .ok (.goto 4, 3) := by decide +kernel
theorem dX9_worked_96 : decode cX9_worked 96 = .ok (.iconst 0, 1) := by decide +kernel
theorem dX9_worked_97 : decode cX9_worked 97 = .ok (.ireturn, 1) := by decide +kernel
theorem dX9_worked_98 : decode cX9_worked 98 = .ok (.iload_n 1, 1) := by decide +kernel
theorem dX9_worked_99 : decode cX9_worked 99 = .ok (.iload_n 2, 1) := by decide +kernel
theorem dX9_worked_100 : decode cX9_worked 100 = .ok (.if_icmp .le 7, 3) := by decide +kernel
theorem dX9_worked_103 : decode cX9_worked 103 = .ok (.iconst 1, 1) := by decide +kernel
theorem dX9_worked_104 : decode cX9_worked 104 = .ok (.goto 4, 3) := by decide +kernel
theorem dX9_worked_107 : decode cX9_worked 107 = .ok (.iconst 0, 1) := by decide +kernel
theorem dX9_worked_108 : decode cX9_worked 108 = .ok (.ireturn, 1) := by decide +kernel
theorem dX9_worked_109 : decode cX9_worked 109 = .ok (.iload_n 1, 1) := by decide +kernel
theorem dX9_worked_110 : decode cX9_worked 110 = .ok (.iload_n 2, 1) := by decide +kernel
theorem dX9_worked_111 : decode cX9_worked 111 = .ok (.iadd, 1) := by decide +kernel
theorem dX9_worked_112 : decode cX9_worked 112 = .ok (.ireturn, 1) := by decide +kernel
theorem dX9_worked_113 : decode cX9_worked 113 = .ok (.iload_n 1, 1) := by decide +kernel
theorem dX9_worked_114 : decode cX9_worked 114 = .ok (.iload_n 2, 1) := by decide +kernel
theorem dX9_worked_115 : decode cX9_worked 115 = .ok (.isub, 1) := by decide +kernel
theorem dX9_worked_116 : decode cX9_worked 116 = .ok (.ireturn, 1) := by decide +kernel
theorem dX9_worked_117 : decode cX9_worked 117 = .ok (.iload_n 1, 1) := by decide +kernel
theorem dX9_worked_118 : decode cX9_worked 118 = .ok (.iload_n 2, 1) := by decide +kernel
theorem dX9_worked_119 : decode cX9_worked 119 = .ok (.imul, 1) := by decide +kernel
theorem dX9_worked_120 : decode cX9_worked 120 = .ok (.ireturn, 1) := by decide +kernel
theorem dX9_isPassed_0 : decode cX9_isPassed 0 = .ok (.aload_n 0, 1) := by decide +kernel
theorem dX9_isPassed_1 : decode cX9_isPassed 1 = .ok (.getfield 404, 3) := by decide +kernel
theorem dX9_isPassed_4 : decode cX9_isPassed 4 = .ok (.ifCond .ne 14, 3) := by decide +kernel
theorem dX9_isPassed_7 : decode cX9_isPassed 7 = .ok (.iload_n 1, 1) := by decide +kernel
theorem dX9_isPassed_8 : decode cX9_isPassed 8 = .ok (.iload_n 2, 1) := by decide +kernel
theorem dX9_isPassed_9 : decode cX9_isPassed 9 = .ok (.if_icmp .le 7, 3) := by decide +kernel
theorem dX9_isPassed_12 : decode cX9_isPassed 12 = .ok (.iconst 1, 1) := by decide +kernel
theorem dX9_isPassed_13 : decode cX9_isPassed 13 = .ok (.goto 4, 3) := by decide +kernel
theorem dX9_isPassed_16 : decode cX9_isPassed 16 = .ok (.iconst 0, 1) := by decide +kernel
theorem dX9_isPassed_17 : decode cX9_isPassed 17 = .ok (.ireturn, 1) := by decide +kernel
theorem dX9_isPassed_18 : decode cX9_isPassed 18 = .ok (.aload_n 0, 1) := by decide +kernel
theorem dX9_isPassed_19 : decode cX9_isPassed 19 = .ok (.getfield 35, 3) := by decide +kernel
theorem dX9_isPassed_22 : decode cX9_isPassed 22 = .ok (.iconst 1, 1) := by decide +kernel
theorem dX9_isPassed_23 : decode cX9_isPassed 23 = .ok (.iload_n 1, 1) := by decide +kernel
theorem dX9_isPassed_24 : decode cX9_isPassed 24 = .ok (.iastore, 1) := by decide +kernel
theorem dX9_isPassed_25 : decode cX9_isPassed 25 = .ok (.aload_n 0, 1) := by decide +kernel
theorem dX9_isPassed_26 : decode cX9_isPassed 26 = .ok (.getfield 35, 3) := by decide +kernel
theorem dX9_isPassed_29 : decode cX9_isPassed 29 = .ok (.iconst 2, 1) := by decide +kernel
theorem dX9_isPassed_30 : decode cX9_isPassed 30 = .ok (.iload_n 2, 1) := by decide +kernel
theorem dX9_isPassed_31 : decode cX9_isPassed 31 = .ok (.iastore, 1) := by decide +kernel
theorem dX9_isPassed_32 : decode cX9_isPassed 32 = .ok (.aload_n 0, 1) := by decide +kernel
theorem dX9_isPassed_33 : decode cX9_isPassed 33 = .ok (.getfield 35, 3) := by decide +kernel
theorem dX9_isPassed_36 : decode cX9_isPassed 36 = .ok (.iconst 3, 1) := by decide +kernel
theorem dX9_isPassed_37 : decode cX9_isPassed 37 = .ok (.iload_n 3, 1) := by decide +kernel
theorem dX9_isPassed_38 : decode cX9_isPassed 38 = .ok (.iastore, 1) := by decide +kernel
theorem dX9_isPassed_39 : decode cX9_isPassed 39 = .ok (.aload_n 0, 1) := by decide +kernel
theorem dX9_isPassed_40 : decode cX9_isPassed 40 = .ok (.getfield 35, 3) := by decide +kernel
theorem dX9_isPassed_43 : decode cX9_isPassed 43 = .ok (.iconst 4, 1) := by decide +kernel
theorem dX9_isPassed_44 : decode cX9_isPassed 44 = .ok (.iload 4, 2) := by decide +kernel
theorem dX9_isPassed_46 : decode cX9_isPassed 46 = .ok (.iload_n 3, 1) := by decide +kernel
theorem dX9_isPassed_47 : decode cX9_isPassed 47 = .ok (.isub, 1) := by decide +kernel
theorem dX9_isPassed_48 : decode cX9_isPassed 48 = .ok (.iastore, 1) := by decide +kernel
theorem dX9_isPassed_49 : decode cX9_isPassed 49 = .ok (.aload_n 0, 1) := by decide +kernel
theorem dX9_isPassed_50 : decode cX9_isPassed 50 = .ok (.getfield 35, 3) := by decide +kernel
theorem dX9_isPassed_53 : decode cX9_isPassed 53 = .ok (.iconst 5, 1) := by decide +kernel
theorem dX9_isPassed_54 : decode cX9_isPassed 54 = .ok (.iload 4, 2) := by decide +kernel
theorem dX9_isPassed_56 : decode cX9_isPassed 56 = .ok (.iastore, 1) := by decide +kernel
theorem dX9_isPassed_57 : decode cX9_isPassed 57 = .ok (.iconst 0, 1) := by decide +kernel
theorem dX9_isPassed_58 : decode cX9_isPassed 58 = .ok (.istore 5, 2) := by decide +kernel
theorem dX9_isPassed_60 : decode cX9_isPassed 60 = .ok (.iconst 0, 1) := by decide +kernel
theorem dX9_isPassed_61 : decode cX9_isPassed 61 = .ok (.istore 6, 2) := by decide +kernel
theorem dX9_isPassed_63 : decode cX9_isPassed 63 = .ok (.iload 6, 2) := by decide +kernel
theorem dX9_isPassed_65 : decode cX9_isPassed 65 = .ok (.aload_n 0, 1) := by decide +kernel
theorem dX9_isPassed_66 : decode cX9_isPassed 66 = .ok (.getfield 389, 3) := by decide +kernel
theorem dX9_isPassed_69 : decode cX9_isPassed 69 = .ok (.if_icmp .ge 145, 3) := by decide +kernel
theorem dX9_isPassed_72 : decode cX9_isPassed 72 = .ok (.aload_n 0, 1) := by decide +kernel
theorem dX9_isPassed_73 : decode cX9_isPassed 73 = .ok (.getfield 23, 3) := by decide +kernel
theorem dX9_isPassed_76 : decode cX9_isPassed 76 = .ok (.iload 6, 2) := by decide +kernel
theorem dX9_isPassed_78 : decode cX9_isPassed 78 = .ok (.iaload, 1) := by decide +kernel
theorem dX9_isPassed_79 : decode cX9_isPassed 79 = .ok (.bipush 20, 2) := by decide +kernel
theorem dX9_isPassed_81 : decode cX9_isPassed 81 = .ok (.if_icmp .ge 48, 3) := by decide +kernel
theorem dX9_isPassed_84 : decode cX9_isPassed 84 = .ok (.aload_n 0, 1) := by decide +kernel
theorem dX9_isPassed_85 : decode cX9_isPassed 85 = .ok (.getfield 32, 3) := by decide +kernel
theorem dX9_isPassed_88 : decode cX9_isPassed 88 = .ok (.iload 5, 2) := by decide +kernel
theorem dX9_isPassed_90 : decode cX9_isPassed 90 = .ok (.aload_n 0, 1) := by decide +kernel
theorem dX9_isPassed_91 : decode cX9_isPassed 91 = .ok (.getfield 23, 3) := by decide +kernel
theorem dX9_isPassed_94 : decode cX9_isPassed 94 = .ok (.iload 6, 2) := by decide +kernel
theorem dX9_isPassed_96 : decode cX9_isPassed 96 = .ok (.iaload, 1) := by decide +kernel
theorem dX9_isPassed_97 : decode cX9_isPassed 97 = .ok (.ifCond .ne 13, 3) := by decide +kernel
theorem dX9_isPassed_100 : decode cX9_isPassed 100 = .ok (.aload_n 0, 1) := by decide +kernel
theorem dX9_isPassed_101 : decode cX9_isPassed 101 = .ok (.getfield 26, 3) := by decide +kernel
theorem dX9_isPassed_104 : decode cX9_isPassed 104 = .ok (.iload 6, 2) := by decide +kernel
theorem dX9_isPassed_106 : decode cX9_isPassed 106 = .ok (.iaload, 1) := by decide +kernel
theorem dX9_isPassed_107 : decode cX9_isPassed 107 = .ok (.goto 15, 3) := by decide +kernel
theorem dX9_isPassed_110 : decode cX9_isPassed 110 = .ok (.aload_n 0, 1) := by decide +kernel
theorem dX9_isPassed_111 : decode cX9_isPassed 111 = .ok (.getfield 35, 3) := by decide +kernel
theorem dX9_isPassed_114 : decode cX9_isPassed 114 = .ok (.aload_n 0, 1) := by decide +kernel
theorem dX9_isPassed_115 : decode cX9_isPassed 115 = .ok (.getfield 23, 3) := by decide +kernel
theorem dX9_isPassed_118 : decode cX9_isPassed 118 = .ok (.iload 6, 2) := by decide +kernel
theorem dX9_isPassed_120 : decode cX9_isPassed 120 = .ok (.iaload, 1) := by decide +kernel
theorem dX9_isPassed_121 : decode cX9_isPassed 121 = .ok (.iaload, 1) := by decide +kernel
theorem dX9_isPassed_122 : decode cX9_isPassed 122 = .ok (.iastore, 1) := by decide +kernel
theorem dX9_isPassed_123 : decode cX9_isPassed 123 = .ok (.iinc 5 1, 3) := by decide +kernel
theorem dX9_isPassed_126 : decode cX9_isPassed 126 = .ok (.goto 82, 3) := by decide +kernel
theorem dX9_isPassed_129 : decode cX9_isPassed 129 = .ok (.aload_n 0, 1) := by decide +kernel
theorem dX9_isPassed_130 : decode cX9_isPassed 130 = .ok (.getfield 23, 3) := by decide +kernel
theorem dX9_isPassed_133 : decode cX9_isPassed 133 = .ok (.iload 6, 2) := by decide +kernel
theorem dX9_isPassed_135 : decode cX9_isPassed 135 = .ok (.iaload, 1) := by decide +kernel
theorem dX9_isPassed_136 : decode cX9_isPassed 136 = .ok (.bipush 22, 2) := by decide +kernel
theorem dX9_isPassed_138 : decode cX9_isPassed 138 = .ok (.if_icmp .ne 32, 3) := by decide +kernel
theorem dX9_isPassed_141 : decode cX9_isPassed 141 = .ok (.aload_n 0, 1) := by decide +kernel
theorem dX9_isPassed_142 : decode cX9_isPassed 142 = .ok (.getfield 32, 3) := by decide +kernel
theorem dX9_isPassed_145 : decode cX9_isPassed 145 = .ok (.iload 5, 2) := by decide +kernel
theorem dX9_isPassed_147 : decode cX9_isPassed 147 = .ok (.iconst 1, 1) := by decide +kernel
theorem dX9_isPassed_148 : decode cX9_isPassed 148 = .ok (.isub, 1) := by decide +kernel
theorem dX9_isPassed_149 : decode cX9_isPassed 149 = .ok (.aload_n 0, 1) := by decide +kernel
theorem dX9_isPassed_150 : decode cX9_isPassed 150 = .ok (.getfield 32, 3) := by decide +kernel
theorem dX9_isPassed_153 : decode cX9_isPassed 153 = .ok (.iload 5, 2) := by decide +kernel
theorem dX9_isPassed_155 : decode cX9_isPassed 155 = .ok (.iconst 1, 1) := by decide +kernel
theorem dX9_isPassed_156 : decode cX9_isPassed 156 = .ok (.isub, 1) := by decide +kernel
theorem dX9_isPassed_157 : decode cX9_isPassed 157 = .ok (.iaload, 1) := by decide +kernel
theorem dX9_isPassed_158 : decode cX9_isPassed 158 = .ok (.ifCond .ne 7, 3) := by decide +kernel
theorem dX9_isPassed_161 : decode cX9_isPassed 161 = .ok (.iconst 1, 1) := by decide +kernel
theorem dX9_isPassed_162 : decode cX9_isPassed 162 = .ok (.goto 4, 3) := by decide +kernel
theorem dX9_isPassed_165 : decode cX9_isPassed 165 = .ok (.iconst 0, 1) := by decide +kernel
theorem dX9_isPassed_166 : decode cX9_isPassed 166 = .ok (.iastore, 1) := by decide +kernel
theorem dX9_isPassed_167 : decode cX9_isPassed 167 = .ok (.goto 41, 3) := by decide +kernel
theorem dX9_isPassed_170 : decode cX9_isPassed 170 = .ok (.iinc 5 (-1), 3) := by decide +kernel
theorem dX9_isPassed_173 : decode cX9_isPassed 173 = .ok (.aload_n 0, 1) := by decide +kernel
theorem dX9_isPassed_174 : decode cX9_isPassed 174 = .ok (.getfield 32, 3) := by decide +kernel
theorem dX9_isPassed_177 : decode cX9_isPassed 177 = .ok (.iload 5, 2) := by decide +kernel
theorem dX9_isPassed_179 : decode cX9_isPassed 179 = .ok (.iconst 1, 1) := by decide +kernel
theorem dX9_isPassed_180 : decode cX9_isPassed 180 = .ok (.isub, 1) := by decide +kernel
theorem dX9_isPassed_181 : decode cX9_isPassed 181 = .ok (.aload_n 0, 1) := by decide +kernel
theorem dX9_isPassed_182 : decode cX9_isPassed 182 = .ok (.getfield 23, 3) := by decide +kernel
theorem dX9_isPassed_185 : decode cX9_isPassed 185 = .ok (.iload 6, 2) := by decide +kernel
theorem dX9_isPassed_187 : decode cX9_isPassed 187 = .ok (.iaload, 1) := by decide +kernel
theorem dX9_isPassed_188 : decode cX9_isPassed 188 = .ok (.aload_n 0, 1) := by decide +kernel
theorem dX9_isPassed_189 : decode cX9_isPassed 189 = .ok (.getfield 32, 3) := by decide +kernel
theorem dX9_isPassed_192 : decode cX9_isPassed 192 = .ok (.iload 5, 2) := by decide +kernel
theorem dX9_isPassed_194 : decode cX9_isPassed 194 = .ok (.iconst 1, 1) := by decide +kernel
theorem dX9_isPassed_195 : decode cX9_isPassed 195 = .ok (.isub, 1) := by decide +kernel
theorem dX9_isPassed_196 : decode cX9_isPassed 196 = .ok (.iaload, 1) := by decide +kernel
theorem dX9_isPassed_197 : decode cX9_isPassed 197 = .ok (.aload_n 0, 1) := by decide +kernel
theorem dX9_isPassed_198 : decode cX9_isPassed 198 = .ok (.getfield 32, 3) := by decide +kernel
theorem dX9_isPassed_201 : decode cX9_isPassed 201 = .ok (.iload 5, 2) := by decide +kernel
theorem dX9_isPassed_203 : decode cX9_isPassed 203 = .ok (.iaload, 1) := by decide +kernel
theorem dX9_isPassed_204 : decode cX9_isPassed 204 = .ok (.invokestatic 413, 3) := by decide +kernel
theorem dX9_isPassed_207 : decode cX9_isPassed 207 = .ok (.iastore, 1) := by decide +kernel
theorem dX9_isPassed_208 : decode cX9_isPassed 208 = .ok (.iinc 6 1, 3) := by decide +kernel
theorem dX9_isPassed_211 : decode cX9_isPassed 211 = .ok (.goto (-148), 3) := by decide +kernel
theorem dX9_isPassed_214 : decode cX9_isPassed 214 = .ok (.aload_n 0, 1) := by decide +kernel
theorem dX9_isPassed_215 : decode cX9_isPassed 215 = .ok (.getfield 32, 3) := by decide +kernel
theorem dX9_isPassed_218 : decode cX9_isPassed 218 = .ok (.iconst 0, 1) := by decide +kernel
theorem dX9_isPassed_219 : decode cX9_isPassed 219 = .ok (.iaload, 1) := by decide +kernel
theorem dX9_isPassed_220 : decode cX9_isPassed 220 = .ok (.ifCond .eq 7, 3) := by decide +kernel
theorem dX9_isPassed_223 : decode cX9_isPassed 223 = .ok (.iconst 1, 1) := by decide +kernel
theorem dX9_isPassed_224 : decode cX9_isPassed 224 = .ok (.goto 4, 3) := by decide +kernel
theorem dX9_isPassed_227 : decode cX9_isPassed 227 = .ok (.iconst 0, 1) := by decide +kernel
theorem dX9_isPassed_228 : decode cX9_isPassed 228 = .ok (.ireturn, 1) := by decide +kernel
theorem dX9_isBound_0 : decode cX9_isBound 0 = .ok (.iconst 0, 1) := by decide +kernel
theorem dX9_isBound_1 : decode cX9_isBound 1 = .ok (.istore 4, 2) := by decide +kernel
theorem dX9_isBound_3 : decode cX9_isBound 3 = .ok (.iconst 0, 1) := by decide +kernel
theorem dX9_isBound_4 : decode cX9_isBound 4 = .ok (.istore 5, 2) := by decide +kernel
theorem dX9_isBound_6 : decode cX9_isBound 6 = .ok (.iload 5, 2) := by decide +kernel
theorem dX9_isBound_8 : decode cX9_isBound 8 = .ok (.aload_n 0, 1) := by decide +kernel
theorem dX9_isBound_9 : decode cX9_isBound 9 = .ok (.getfield 398, 3) := by decide +kernel
theorem dX9_isBound_12 : decode cX9_isBound 12 = .ok (.if_icmp .ge 59, 3) := by decide +kernel
theorem dX9_isBound_15 : decode cX9_isBound 15 = .ok (.iload 4, 2) := by decide +kernel
theorem dX9_isBound_17 : decode cX9_isBound 17 = .ok (.ifCond .ne 41, 3) := by decide +kernel
theorem dX9_isBound_20 : decode cX9_isBound 20 = .ok (.aload_n 0, 1) := by decide +kernel
theorem dX9_isBound_21 : decode cX9_isBound 21 = .ok (.getfield 75, 3) := by decide +kernel
theorem dX9_isBound_24 : decode cX9_isBound 24 = .ok (.iconst 4, 1) := by decide +kernel
theorem dX9_isBound_25 : decode cX9_isBound 25 = .ok (.iload 5, 2) := by decide +kernel
theorem dX9_isBound_27 : decode cX9_isBound 27 = .ok (.imul, 1) := by decide +kernel
theorem dX9_isBound_28 : decode cX9_isBound 28 = .ok (.iaload, 1) := by decide +kernel
theorem dX9_isBound_29 : decode cX9_isBound 29 = .ok (.iload_n 1, 1) := by decide +kernel
theorem dX9_isBound_30 : decode cX9_isBound 30 = .ok (.if_icmp .ne 32, 3) := by decide +kernel
theorem dX9_isBound_33 : decode cX9_isBound 33 = .ok (.aload_n 0, 1) := by decide +kernel
theorem dX9_isBound_34 : decode cX9_isBound 34 = .ok (.getfield 75, 3) := by decide +kernel
theorem dX9_isBound_37 : decode cX9_isBound 37 = .ok (.iconst 4, 1) := by decide +kernel
theorem dX9_isBound_38 : decode cX9_isBound 38 = .ok (.iload 5, 2) := by decide +kernel
theorem dX9_isBound_40 : decode cX9_isBound 40 = .ok (.imul, 1) := by decide +kernel
theorem dX9_isBound_41 : decode cX9_isBound 41 = .ok (.iconst 1, 1) := by decide +kernel
theorem dX9_isBound_42 : decode cX9_isBound 42 = .ok (.iadd, 1) := by decide +kernel
theorem dX9_isBound_43 : decode cX9_isBound 43 = .ok (.iaload, 1) := by decide +kernel
theorem dX9_isBound_44 : decode cX9_isBound 44 = .ok (.iload_n 2, 1) := by decide +kernel
theorem dX9_isBound_45 : decode cX9_isBound 45 = .ok (.if_icmp .ne 17, 3) := by decide +kernel
theorem dX9_isBound_48 : decode cX9_isBound 48 = .ok (.iload_n 3, 1) := by decide +kernel
theorem dX9_isBound_49 : decode cX9_isBound 49 = .ok (.iload 5, 2) := by decide +kernel
theorem dX9_isBound_51 : decode cX9_isBound 51 = .ok (.ishr, 1) := by decide +kernel
theorem dX9_isBound_52 : decode cX9_isBound 52 = .ok (.iconst 1, 1) := by decide +kernel
theorem dX9_isBound_53 : decode cX9_isBound 53 = .ok (.iand, 1) := by decide +kernel
theorem dX9_isBound_54 : decode cX9_isBound 54 = .ok (.iconst 1, 1) := by decide +kernel
theorem dX9_isBound_55 : decode cX9_isBound 55 = .ok (.if_icmp .ne 7, 3) := by decide +kernel
theorem dX9_isBound_58 : decode cX9_isBound 58 = .ok (.iconst 1, 1) := by decide +kernel
theorem dX9_isBound_59 : decode cX9_isBound 59 = .ok (.goto 4, 3) := by decide +kernel
theorem dX9_isBound_62 : decode cX9_isBound 62 = .ok (.iconst 0, 1) := by decide +kernel
theorem dX9_isBound_63 : decode cX9_isBound 63 = .ok (.istore 4, 2) := by decide +kernel
theorem dX9_isBound_65 : decode cX9_isBound 65 = .ok (.iinc 5 1, 3) := by decide +kernel
theorem dX9_isBound_68 : decode cX9_isBound 68 = .ok (.goto (-62), 3) := by decide +kernel
theorem dX9_isBound_71 : decode cX9_isBound 71 = .ok (.iload 4, 2) := by decide +kernel
theorem dX9_isBound_73 : decode cX9_isBound 73 = .ok (.ireturn, 1) := by decide +kernel
theorem dX9_yesOf_0 : decode cX9_yesOf 0 = .ok (.iconst 0, 1) := by decide +kernel
theorem dX9_yesOf_1 : decode cX9_yesOf 1 = .ok (.istore 4, 2) := by decide +kernel
theorem dX9_yesOf_3 : decode cX9_yesOf 3 = .ok (.iconst 0, 1) := by decide +kernel
theorem dX9_yesOf_4 : decode cX9_yesOf 4 = .ok (.istore 5, 2) := by decide +kernel
theorem dX9_yesOf_6 : decode cX9_yesOf 6 = .ok (.iload 5, 2) := by decide +kernel
theorem dX9_yesOf_8 : decode cX9_yesOf 8 = .ok (.aload_n 0, 1) := by decide +kernel
theorem dX9_yesOf_9 : decode cX9_yesOf 9 = .ok (.invokevirtual 417, 3) := by decide +kernel
theorem dX9_yesOf_12 : decode cX9_yesOf 12 = .ok (.if_icmp .ge 57, 3) := by decide +kernel
theorem dX9_yesOf_15 : decode cX9_yesOf 15 = .ok (.iload 4, 2) := by decide +kernel
theorem dX9_yesOf_17 : decode cX9_yesOf 17 = .ok (.iload_n 1, 1) := by decide +kernel
theorem dX9_yesOf_18 : decode cX9_yesOf 18 = .ok (.iload 5, 2) := by decide +kernel
theorem dX9_yesOf_20 : decode cX9_yesOf 20 = .ok (.ishr, 1) := by decide +kernel
theorem dX9_yesOf_21 : decode cX9_yesOf 21 = .ok (.iconst 1, 1) := by decide +kernel
theorem dX9_yesOf_22 : decode cX9_yesOf 22 = .ok (.iand, 1) := by decide +kernel
theorem dX9_yesOf_23 : decode cX9_yesOf 23 = .ok (.iconst 1, 1) := by decide +kernel
theorem dX9_yesOf_24 : decode cX9_yesOf 24 = .ok (.if_icmp .ne 35, 3) := by decide +kernel
theorem dX9_yesOf_27 : decode cX9_yesOf 27 = .ok (.aload_n 0, 1) := by decide +kernel
theorem dX9_yesOf_28 : decode cX9_yesOf 28 = .ok (.iload 5, 2) := by decide +kernel
theorem dX9_yesOf_30 : decode cX9_yesOf 30 = .ok (.iload_n 2, 1) := by decide +kernel
theorem dX9_yesOf_31 : decode cX9_yesOf 31 = .ok (.iload_n 3, 1) := by decide +kernel
theorem dX9_yesOf_32 : decode cX9_yesOf 32 = .ok (.invokevirtual 420, 3) := by decide +kernel
theorem dX9_yesOf_35 : decode cX9_yesOf 35 = .ok (.ifCond .ne 17, 3) := by decide +kernel
theorem dX9_yesOf_38 : decode cX9_yesOf 38 = .ok (.aload_n 0, 1) := by decide +kernel
theorem dX9_yesOf_39 : decode cX9_yesOf 39 = .ok (.getfield 72, 3) := by decide +kernel
theorem dX9_yesOf_42 : decode cX9_yesOf 42 = .ok (.iconst 4, 1) := by decide +kernel
theorem dX9_yesOf_43 : decode cX9_yesOf 43 = .ok (.iload 5, 2) := by decide +kernel
theorem dX9_yesOf_45 : decode cX9_yesOf 45 = .ok (.imul, 1) := by decide +kernel
theorem dX9_yesOf_46 : decode cX9_yesOf 46 = .ok (.iload_n 2, 1) := by decide +kernel
theorem dX9_yesOf_47 : decode cX9_yesOf 47 = .ok (.iadd, 1) := by decide +kernel
theorem dX9_yesOf_48 : decode cX9_yesOf 48 = .ok (.iaload, 1) := by decide +kernel
theorem dX9_yesOf_49 : decode cX9_yesOf 49 = .ok (.ifCond .le 10, 3) := by decide +kernel
theorem dX9_yesOf_52 : decode cX9_yesOf 52 = .ok (.iconst 1, 1) := by decide +kernel
theorem dX9_yesOf_53 : decode cX9_yesOf 53 = .ok (.iload 5, 2) := by decide +kernel
theorem dX9_yesOf_55 : decode cX9_yesOf 55 = .ok (.ishl, 1) := by decide +kernel
theorem dX9_yesOf_56 : decode cX9_yesOf 56 = .ok (.goto 4, 3) := by decide +kernel
theorem dX9_yesOf_59 : decode cX9_yesOf 59 = .ok (.iconst 0, 1) := by decide +kernel
theorem dX9_yesOf_60 : decode cX9_yesOf 60 = .ok (.ior, 1) := by decide +kernel
theorem dX9_yesOf_61 : decode cX9_yesOf 61 = .ok (.istore 4, 2) := by decide +kernel
theorem dX9_yesOf_63 : decode cX9_yesOf 63 = .ok (.iinc 5 1, 3) := by decide +kernel
theorem dX9_yesOf_66 : decode cX9_yesOf 66 = .ok (.goto (-60), 3) := by decide +kernel
theorem dX9_yesOf_69 : decode cX9_yesOf 69 = .ok (.iload 4, 2) := by decide +kernel
theorem dX9_yesOf_71 : decode cX9_yesOf 71 = .ok (.ireturn, 1) := by decide +kernel
theorem dX9_noOf_0 : decode cX9_noOf 0 = .ok (.iconst 0, 1) := by decide +kernel
theorem dX9_noOf_1 : decode cX9_noOf 1 = .ok (.istore 4, 2) := by decide +kernel
theorem dX9_noOf_3 : decode cX9_noOf 3 = .ok (.iconst 0, 1) := by decide +kernel
theorem dX9_noOf_4 : decode cX9_noOf 4 = .ok (.istore 5, 2) := by decide +kernel
theorem dX9_noOf_6 : decode cX9_noOf 6 = .ok (.iload 5, 2) := by decide +kernel
theorem dX9_noOf_8 : decode cX9_noOf 8 = .ok (.aload_n 0, 1) := by decide +kernel
theorem dX9_noOf_9 : decode cX9_noOf 9 = .ok (.invokevirtual 417, 3) := by decide +kernel
theorem dX9_noOf_12 : decode cX9_noOf 12 = .ok (.if_icmp .ge 57, 3) := by decide +kernel
theorem dX9_noOf_15 : decode cX9_noOf 15 = .ok (.iload 4, 2) := by decide +kernel
theorem dX9_noOf_17 : decode cX9_noOf 17 = .ok (.iload_n 1, 1) := by decide +kernel
theorem dX9_noOf_18 : decode cX9_noOf 18 = .ok (.iload 5, 2) := by decide +kernel
theorem dX9_noOf_20 : decode cX9_noOf 20 = .ok (.ishr, 1) := by decide +kernel
theorem dX9_noOf_21 : decode cX9_noOf 21 = .ok (.iconst 1, 1) := by decide +kernel
theorem dX9_noOf_22 : decode cX9_noOf 22 = .ok (.iand, 1) := by decide +kernel
theorem dX9_noOf_23 : decode cX9_noOf 23 = .ok (.iconst 1, 1) := by decide +kernel
theorem dX9_noOf_24 : decode cX9_noOf 24 = .ok (.if_icmp .ne 35, 3) := by decide +kernel
theorem dX9_noOf_27 : decode cX9_noOf 27 = .ok (.aload_n 0, 1) := by decide +kernel
theorem dX9_noOf_28 : decode cX9_noOf 28 = .ok (.iload 5, 2) := by decide +kernel
theorem dX9_noOf_30 : decode cX9_noOf 30 = .ok (.iload_n 2, 1) := by decide +kernel
theorem dX9_noOf_31 : decode cX9_noOf 31 = .ok (.iload_n 3, 1) := by decide +kernel
theorem dX9_noOf_32 : decode cX9_noOf 32 = .ok (.invokevirtual 420, 3) := by decide +kernel
theorem dX9_noOf_35 : decode cX9_noOf 35 = .ok (.ifCond .ne 24, 3) := by decide +kernel
theorem dX9_noOf_38 : decode cX9_noOf 38 = .ok (.aload_n 0, 1) := by decide +kernel
theorem dX9_noOf_39 : decode cX9_noOf 39 = .ok (.getfield 72, 3) := by decide +kernel
theorem dX9_noOf_42 : decode cX9_noOf 42 = .ok (.iconst 4, 1) := by decide +kernel
theorem dX9_noOf_43 : decode cX9_noOf 43 = .ok (.iload 5, 2) := by decide +kernel
theorem dX9_noOf_45 : decode cX9_noOf 45 = .ok (.imul, 1) := by decide +kernel
theorem dX9_noOf_46 : decode cX9_noOf 46 = .ok (.iload_n 2, 1) := by decide +kernel
theorem dX9_noOf_47 : decode cX9_noOf 47 = .ok (.iadd, 1) := by decide +kernel
theorem dX9_noOf_48 : decode cX9_noOf 48 = .ok (.iaload, 1) := by decide +kernel
theorem dX9_noOf_49 : decode cX9_noOf 49 = .ok (.ifCond .ge 10, 3) := by decide +kernel
theorem dX9_noOf_52 : decode cX9_noOf 52 = .ok (.iconst 1, 1) := by decide +kernel
theorem dX9_noOf_53 : decode cX9_noOf 53 = .ok (.iload 5, 2) := by decide +kernel
theorem dX9_noOf_55 : decode cX9_noOf 55 = .ok (.ishl, 1) := by decide +kernel
theorem dX9_noOf_56 : decode cX9_noOf 56 = .ok (.goto 4, 3) := by decide +kernel
theorem dX9_noOf_59 : decode cX9_noOf 59 = .ok (.iconst 0, 1) := by decide +kernel
theorem dX9_noOf_60 : decode cX9_noOf 60 = .ok (.ior, 1) := by decide +kernel
theorem dX9_noOf_61 : decode cX9_noOf 61 = .ok (.istore 4, 2) := by decide +kernel
theorem dX9_noOf_63 : decode cX9_noOf 63 = .ok (.iinc 5 1, 3) := by decide +kernel
theorem dX9_noOf_66 : decode cX9_noOf 66 = .ok (.goto (-60), 3) := by decide +kernel
theorem dX9_noOf_69 : decode cX9_noOf 69 = .ok (.iload 4, 2) := by decide +kernel
theorem dX9_noOf_71 : decode cX9_noOf 71 = .ok (.ireturn, 1) := by decide +kernel
theorem dX9_fresh_0 : decode cX9_fresh 0 = .ok (.iconst 0, 1) := by decide +kernel
theorem dX9_fresh_1 : decode cX9_fresh 1 = .ok (.istore_n 1, 1) := by decide +kernel
theorem dX9_fresh_2 : decode cX9_fresh 2 = .ok (.iload_n 1, 1) := by decide +kernel
theorem dX9_fresh_3 : decode cX9_fresh 3 = .ok (.bipush 6, 2) := by decide +kernel
theorem dX9_fresh_5 : decode cX9_fresh 5 = .ok (.if_icmp .ge 59, 3) := by decide +kernel
theorem dX9_fresh_8 : decode cX9_fresh 8 = .ok (.aload_n 0, 1) := by decide +kernel
theorem dX9_fresh_9 : decode cX9_fresh 9 = .ok (.getfield 94, 3) := by decide +kernel
theorem dX9_fresh_12 : decode cX9_fresh 12 = .ok (.iload_n 1, 1) := by decide +kernel
theorem dX9_fresh_13 : decode cX9_fresh 13 = .ok (.iload_n 1, 1) := by decide +kernel
theorem dX9_fresh_14 : decode cX9_fresh 14 = .ok (.aload_n 0, 1) := by decide +kernel
theorem dX9_fresh_15 : decode cX9_fresh 15 = .ok (.invokevirtual 417, 3) := by decide +kernel
theorem dX9_fresh_18 : decode cX9_fresh 18 = .ok (.if_icmp .ge 17, 3) := by decide +kernel
theorem dX9_fresh_21 : decode cX9_fresh 21 = .ok (.aload_n 0, 1) := by decide +kernel
theorem dX9_fresh_22 : decode cX9_fresh 22 = .ok (.getfield 91, 3) := by decide +kernel
theorem dX9_fresh_25 : decode cX9_fresh 25 = .ok (.iload_n 1, 1) := by decide +kernel
theorem dX9_fresh_26 : decode cX9_fresh 26 = .ok (.baload, 1) := by decide +kernel
theorem dX9_fresh_27 : decode cX9_fresh 27 = .ok (.ifCond .eq 8, 3) := by decide +kernel
theorem dX9_fresh_30 : decode cX9_fresh 30 = .ok (.bipush (-2), 2) := by decide +kernel
theorem dX9_fresh_32 : decode cX9_fresh 32 = .ok (.goto 4, 3) := by decide +kernel
theorem dX9_fresh_35 : decode cX9_fresh 35 = .ok (.iconst (-1), 1) := by decide +kernel
theorem dX9_fresh_36 : decode cX9_fresh 36 = .ok (.iastore, 1) := by decide +kernel
theorem dX9_fresh_37 : decode cX9_fresh 37 = .ok (.aload_n 0, 1) := by decide +kernel
theorem dX9_fresh_38 : decode cX9_fresh 38 = .ok (.getfield 97, 3) := by decide +kernel
theorem dX9_fresh_41 : decode cX9_fresh 41 = .ok (.iload_n 1, 1) := by decide +kernel
theorem dX9_fresh_42 : decode cX9_fresh 42 = .ok (.iconst 0, 1) := by decide +kernel
theorem dX9_fresh_43 : decode cX9_fresh 43 = .ok (.iastore, 1) := by decide +kernel
theorem dX9_fresh_44 : decode cX9_fresh 44 = .ok (.aload_n 0, 1) := by decide +kernel
theorem dX9_fresh_45 : decode cX9_fresh 45 = .ok (.getfield 100, 3) := by decide +kernel
theorem dX9_fresh_48 : decode cX9_fresh 48 = .ok (.iload_n 1, 1) := by decide +kernel
theorem dX9_fresh_49 : decode cX9_fresh 49 = .ok (.iconst 0, 1) := by decide +kernel
theorem dX9_fresh_50 : decode cX9_fresh 50 = .ok (.iastore, 1) := by decide +kernel
theorem dX9_fresh_51 : decode cX9_fresh 51 = .ok (.aload_n 0, 1) := by decide +kernel
theorem dX9_fresh_52 : decode cX9_fresh 52 = .ok (.getfield 103, 3) := by decide +kernel
theorem dX9_fresh_55 : decode cX9_fresh 55 = .ok (.iload_n 1, 1) := by decide +kernel
theorem dX9_fresh_56 : decode cX9_fresh 56 = .ok (.iconst 0, 1) := by decide +kernel
theorem dX9_fresh_57 : decode cX9_fresh 57 = .ok (.iastore, 1) := by decide +kernel
theorem dX9_fresh_58 : decode cX9_fresh 58 = .ok (.iinc 1 1, 3) := by decide +kernel
theorem dX9_fresh_61 : decode cX9_fresh 61 = .ok (.goto (-59), 3) := by decide +kernel
theorem dX9_fresh_64 : decode cX9_fresh 64 = .ok (.iconst 0, 1) := by decide +kernel
theorem dX9_fresh_65 : decode cX9_fresh 65 = .ok (.istore_n 1, 1) := by decide +kernel
theorem dX9_fresh_66 : decode cX9_fresh 66 = .ok (.iload_n 1, 1) := by decide +kernel
theorem dX9_fresh_67 : decode cX9_fresh 67 = .ok (.bipush 6, 2) := by decide +kernel
theorem dX9_fresh_69 : decode cX9_fresh 69 = .ok (.if_icmp .ge 23, 3) := by decide +kernel
theorem dX9_fresh_72 : decode cX9_fresh 72 = .ok (.aload_n 0, 1) := by decide +kernel
theorem dX9_fresh_73 : decode cX9_fresh 73 = .ok (.getfield 112, 3) := by decide +kernel
theorem dX9_fresh_76 : decode cX9_fresh 76 = .ok (.iload_n 1, 1) := by decide +kernel
theorem dX9_fresh_77 : decode cX9_fresh 77 = .ok (.iconst 0, 1) := by decide +kernel
theorem dX9_fresh_78 : decode cX9_fresh 78 = .ok (.bastore, 1) := by decide +kernel
theorem dX9_fresh_79 : decode cX9_fresh 79 = .ok (.aload_n 0, 1) := by decide +kernel
theorem dX9_fresh_80 : decode cX9_fresh 80 = .ok (.getfield 115, 3) := by decide +kernel
theorem dX9_fresh_83 : decode cX9_fresh 83 = .ok (.iload_n 1, 1) := by decide +kernel
theorem dX9_fresh_84 : decode cX9_fresh 84 = .ok (.iconst 0, 1) := by decide +kernel
theorem dX9_fresh_85 : decode cX9_fresh 85 = .ok (.bastore, 1) := by decide +kernel
theorem dX9_fresh_86 : decode cX9_fresh 86 = .ok (.iinc 1 1, 3) := by decide +kernel
theorem dX9_fresh_89 : decode cX9_fresh 89 = .ok (.goto (-23), 3) := by decide +kernel
theorem dX9_fresh_92 : decode cX9_fresh 92 = .ok (.iconst 0, 1) := by decide +kernel
theorem dX9_fresh_93 : decode cX9_fresh 93 = .ok (.istore_n 1, 1) := by decide +kernel
theorem dX9_fresh_94 : decode cX9_fresh 94 = .ok (.iload_n 1, 1) := by decide +kernel
theorem dX9_fresh_95 : decode cX9_fresh 95 = .ok (.iconst 4, 1) := by decide +kernel
theorem dX9_fresh_96 : decode cX9_fresh 96 = .ok (.if_icmp .ge 16, 3) := by decide +kernel
theorem dX9_fresh_99 : decode cX9_fresh 99 = .ok (.aload_n 0, 1) := by decide +kernel
theorem dX9_fresh_100 : decode cX9_fresh 100 = .ok (.getfield 106, 3) := by decide +kernel
theorem dX9_fresh_103 : decode cX9_fresh 103 = .ok (.iload_n 1, 1) := by decide +kernel
theorem dX9_fresh_104 : decode cX9_fresh 104 = .ok (.iconst 0, 1) := by decide +kernel
theorem dX9_fresh_105 : decode cX9_fresh 105 = .ok (.iastore, 1) := by decide +kernel
theorem dX9_fresh_106 : decode cX9_fresh 106 = .ok (.iinc 1 1, 3) := by decide +kernel
theorem dX9_fresh_109 : decode cX9_fresh 109 = .ok (.goto (-15), 3) := by decide +kernel
theorem dX9_fresh_112 : decode cX9_fresh 112 = .ok (.iconst 0, 1) := by decide +kernel
theorem dX9_fresh_113 : decode cX9_fresh 113 = .ok (.istore_n 1, 1) := by decide +kernel
theorem dX9_fresh_114 : decode cX9_fresh 114 = .ok (.iload_n 1, 1) := by decide +kernel
theorem dX9_fresh_115 : decode cX9_fresh 115 = .ok (.iconst 4, 1) := by decide +kernel
theorem dX9_fresh_116 : decode cX9_fresh 116 = .ok (.if_icmp .ge 16, 3) := by decide +kernel
theorem dX9_fresh_119 : decode cX9_fresh 119 = .ok (.aload_n 0, 1) := by decide +kernel
theorem dX9_fresh_120 : decode cX9_fresh 120 = .ok (.getfield 109, 3) := by decide +kernel
theorem dX9_fresh_123 : decode cX9_fresh 123 = .ok (.iload_n 1, 1) := by decide +kernel
theorem dX9_fresh_124 : decode cX9_fresh 124 = .ok (.iconst 0, 1) := by decide +kernel
theorem dX9_fresh_125 : decode cX9_fresh 125 = .ok (.iastore, 1) := by decide +kernel
theorem dX9_fresh_126 : decode cX9_fresh 126 = .ok (.iinc 1 1, 3) := by decide +kernel
theorem dX9_fresh_129 : decode cX9_fresh 129 = .ok (.goto (-15), 3) := by decide +kernel
theorem dX9_fresh_132 : decode cX9_fresh 132 = .ok (.aload_n 0, 1) := by decide +kernel
theorem dX9_fresh_133 : decode cX9_fresh 133 = .ok (.iconst 0, 1) := by decide +kernel
theorem dX9_fresh_134 : decode cX9_fresh 134 = .ok (.putfield 424, 3) := by decide +kernel
theorem dX9_fresh_137 : decode cX9_fresh 137 = .ok (.aload_n 0, 1) := by decide +kernel
theorem dX9_fresh_138 : decode cX9_fresh 138 = .ok (.iconst 0, 1) := by decide +kernel
theorem dX9_fresh_139 : decode cX9_fresh 139 = .ok (.putfield 427, 3) := by decide +kernel
theorem dX9_fresh_142 : decode cX9_fresh 142 = .ok (.aload_n 0, 1) := by decide +kernel
theorem dX9_fresh_143 : decode cX9_fresh 143 = .ok (.iconst 0, 1) := by decide +kernel
theorem dX9_fresh_144 : decode cX9_fresh 144 = .ok (.putfield 430, 3) := by decide +kernel
theorem dX9_fresh_147 : decode cX9_fresh 147 = .ok (.return_, 1) := by decide +kernel
theorem dX9_isHere_0 : decode cX9_isHere 0 = .ok (.aload_n 0, 1) := by decide +kernel
theorem dX9_isHere_1 : decode cX9_isHere 1 = .ok (.getfield 94, 3) := by decide +kernel
theorem dX9_isHere_4 : decode cX9_isHere 4 = .ok (.iload_n 1, 1) := by decide +kernel
theorem dX9_isHere_5 : decode cX9_isHere 5 = .ok (.iaload, 1) := by decide +kernel
theorem dX9_isHere_6 : decode cX9_isHere 6 = .ok (.bipush (-2), 2) := by decide +kernel
theorem dX9_isHere_8 : decode cX9_isHere 8 = .ok (.if_icmp .eq 7, 3) := by decide +kernel
theorem dX9_isHere_11 : decode cX9_isHere 11 = .ok (.iconst 1, 1) := by decide +kernel
theorem dX9_isHere_12 : decode cX9_isHere 12 = .ok (.goto 4, 3) := by decide +kernel
theorem dX9_isHere_15 : decode cX9_isHere 15 = .ok (.iconst 0, 1) := by decide +kernel
theorem dX9_isHere_16 : decode cX9_isHere 16 = .ok (.ireturn, 1) := by decide +kernel
theorem dX9_isUp_0 : decode cX9_isUp 0 = .ok (.aload_n 0, 1) := by decide +kernel
theorem dX9_isUp_1 : decode cX9_isUp 1 = .ok (.iload_n 1, 1) := by decide +kernel
theorem dX9_isUp_2 : decode cX9_isUp 2 = .ok (.invokevirtual 433, 3) := by decide +kernel
theorem dX9_isUp_5 : decode cX9_isUp 5 = .ok (.ifCond .eq 17, 3) := by decide +kernel
theorem dX9_isUp_8 : decode cX9_isUp 8 = .ok (.aload_n 0, 1) := by decide +kernel
theorem dX9_isUp_9 : decode cX9_isUp 9 = .ok (.getfield 94, 3) := by decide +kernel
theorem dX9_isUp_12 : decode cX9_isUp 12 = .ok (.iload_n 1, 1) := by decide +kernel
theorem dX9_isUp_13 : decode cX9_isUp 13 = .ok (.iaload, 1) := by decide +kernel
theorem dX9_isUp_14 : decode cX9_isUp 14 = .ok (.iconst (-1), 1) := by decide +kernel
theorem dX9_isUp_15 : decode cX9_isUp 15 = .ok (.if_icmp .ne 7, 3) := by decide +kernel
theorem dX9_isUp_18 : decode cX9_isUp 18 = .ok (.iconst 1, 1) := by decide +kernel
theorem dX9_isUp_19 : decode cX9_isUp 19 = .ok (.goto 4, 3) := by decide +kernel
theorem dX9_isUp_22 : decode cX9_isUp 22 = .ok (.iconst 0, 1) := by decide +kernel
theorem dX9_isUp_23 : decode cX9_isUp 23 = .ok (.ireturn, 1) := by decide +kernel
theorem dX9_on_0 : decode cX9_on 0 = .ok (.iconst 0, 1) := by decide +kernel
theorem dX9_on_1 : decode cX9_on 1 = .ok (.istore_n 2, 1) := by decide +kernel
theorem dX9_on_2 : decode cX9_on 2 = .ok (.iconst 0, 1) := by decide +kernel
theorem dX9_on_3 : decode cX9_on 3 = .ok (.istore_n 3, 1) := by decide +kernel
theorem dX9_on_4 : decode cX9_on 4 = .ok (.iload_n 3, 1) := by decide +kernel
theorem dX9_on_5 : decode cX9_on 5 = .ok (.aload_n 0, 1) := by decide +kernel
theorem dX9_on_6 : decode cX9_on 6 = .ok (.invokevirtual 417, 3) := by decide +kernel
theorem dX9_on_9 : decode cX9_on 9 = .ok (.if_icmp .ge 29, 3) := by decide +kernel
theorem dX9_on_12 : decode cX9_on 12 = .ok (.iload_n 2, 1) := by decide +kernel
theorem dX9_on_13 : decode cX9_on 13 = .ok (.aload_n 0, 1) := by decide +kernel
theorem dX9_on_14 : decode cX9_on 14 = .ok (.getfield 94, 3) := by decide +kernel
theorem dX9_on_17 : decode cX9_on 17 = .ok (.iload_n 3, 1) := by decide +kernel
theorem dX9_on_18 : decode cX9_on 18 = .ok (.iaload, 1) := by decide +kernel
theorem dX9_on_19 : decode cX9_on 19 = .ok (.iload_n 1, 1) := by decide +kernel
theorem dX9_on_20 : decode cX9_on 20 = .ok (.if_icmp .ne 9, 3) := by decide +kernel
theorem dX9_on_23 : decode cX9_on 23 = .ok (.iconst 1, 1) := by decide +kernel
theorem dX9_on_24 : decode cX9_on 24 = .ok (.iload_n 3, 1) := by decide +kernel
theorem dX9_on_25 : decode cX9_on 25 = .ok (.ishl, 1) := by decide +kernel
theorem dX9_on_26 : decode cX9_on 26 = .ok (.goto 4, 3) := by decide +kernel
theorem dX9_on_29 : decode cX9_on 29 = .ok (.iconst 0, 1) := by decide +kernel
theorem dX9_on_30 : decode cX9_on 30 = .ok (.ior, 1) := by decide +kernel
theorem dX9_on_31 : decode cX9_on 31 = .ok (.istore_n 2, 1) := by decide +kernel
theorem dX9_on_32 : decode cX9_on 32 = .ok (.iinc 3 1, 3) := by decide +kernel
theorem dX9_on_35 : decode cX9_on 35 = .ok (.goto (-31), 3) := by decide +kernel
theorem dX9_on_38 : decode cX9_on 38 = .ok (.iload_n 2, 1) := by decide +kernel
theorem dX9_on_39 : decode cX9_on 39 = .ok (.ireturn, 1) := by decide +kernel
theorem dX9_upSet_0 : decode cX9_upSet 0 = .ok (.iconst 0, 1) := by decide +kernel
theorem dX9_upSet_1 : decode cX9_upSet 1 = .ok (.istore_n 1, 1) := by decide +kernel
theorem dX9_upSet_2 : decode cX9_upSet 2 = .ok (.iconst 0, 1) := by decide +kernel
theorem dX9_upSet_3 : decode cX9_upSet 3 = .ok (.istore_n 2, 1) := by decide +kernel
theorem dX9_upSet_4 : decode cX9_upSet 4 = .ok (.iload_n 2, 1) := by decide +kernel
theorem dX9_upSet_5 : decode cX9_upSet 5 = .ok (.aload_n 0, 1) := by decide +kernel
theorem dX9_upSet_6 : decode cX9_upSet 6 = .ok (.invokevirtual 417, 3) := by decide +kernel
theorem dX9_upSet_9 : decode cX9_upSet 9 = .ok (.if_icmp .ge 28, 3) := by decide +kernel
theorem dX9_upSet_12 : decode cX9_upSet 12 = .ok (.iload_n 1, 1) := by decide +kernel
theorem dX9_upSet_13 : decode cX9_upSet 13 = .ok (.aload_n 0, 1) := by decide +kernel
theorem dX9_upSet_14 : decode cX9_upSet 14 = .ok (.getfield 94, 3) := by decide +kernel
theorem dX9_upSet_17 : decode cX9_upSet 17 = .ok (.iload_n 2, 1) := by decide +kernel
theorem dX9_upSet_18 : decode cX9_upSet 18 = .ok (.iaload, 1) := by decide +kernel
theorem dX9_upSet_19 : decode cX9_upSet 19 = .ok (.ifCond .ge 9, 3) := by decide +kernel
theorem dX9_upSet_22 : decode cX9_upSet 22 = .ok (.iconst 1, 1) := by decide +kernel
theorem dX9_upSet_23 : decode cX9_upSet 23 = .ok (.iload_n 2, 1) := by decide +kernel
theorem dX9_upSet_24 : decode cX9_upSet 24 = .ok (.ishl, 1) := by decide +kernel
theorem dX9_upSet_25 : decode cX9_upSet 25 = .ok (.goto 4, 3) := by decide +kernel
theorem dX9_upSet_28 : decode cX9_upSet 28 = .ok (.iconst 0, 1) := by decide +kernel
theorem dX9_upSet_29 : decode cX9_upSet 29 = .ok (.ior, 1) := by decide +kernel
theorem dX9_upSet_30 : decode cX9_upSet 30 = .ok (.istore_n 1, 1) := by decide +kernel
theorem dX9_upSet_31 : decode cX9_upSet 31 = .ok (.iinc 2 1, 3) := by decide +kernel
theorem dX9_upSet_34 : decode cX9_upSet 34 = .ok (.goto (-30), 3) := by decide +kernel
theorem dX9_upSet_37 : decode cX9_upSet 37 = .ok (.iload_n 1, 1) := by decide +kernel
theorem dX9_upSet_38 : decode cX9_upSet 38 = .ok (.ireturn, 1) := by decide +kernel
theorem dX9_hereSet_0 : decode cX9_hereSet 0 = .ok (.iconst 0, 1) := by decide +kernel
theorem dX9_hereSet_1 : decode cX9_hereSet 1 = .ok (.istore_n 1, 1) := by decide +kernel
theorem dX9_hereSet_2 : decode cX9_hereSet 2 = .ok (.iconst 0, 1) := by decide +kernel
theorem dX9_hereSet_3 : decode cX9_hereSet 3 = .ok (.istore_n 2, 1) := by decide +kernel
theorem dX9_hereSet_4 : decode cX9_hereSet 4 = .ok (.iload_n 2, 1) := by decide +kernel
theorem dX9_hereSet_5 : decode cX9_hereSet 5 = .ok (.aload_n 0, 1) := by decide +kernel
theorem dX9_hereSet_6 : decode cX9_hereSet 6 = .ok (.invokevirtual 417, 3) := by decide +kernel
theorem dX9_hereSet_9 : decode cX9_hereSet 9 = .ok (.if_icmp .ge 27, 3) := by decide +kernel
theorem dX9_hereSet_12 : decode cX9_hereSet 12 = .ok (.iload_n 1, 1) := by decide +kernel
theorem dX9_hereSet_13 : decode cX9_hereSet 13 = .ok (.aload_n 0, 1) := by decide +kernel
theorem dX9_hereSet_14 : decode cX9_hereSet 14 = .ok (.iload_n 2, 1) := by decide +kernel
theorem dX9_hereSet_15 : decode cX9_hereSet 15 = .ok (.invokevirtual 436, 3) := by decide +kernel
theorem dX9_hereSet_18 : decode cX9_hereSet 18 = .ok (.ifCond .eq 9, 3) := by decide +kernel
theorem dX9_hereSet_21 : decode cX9_hereSet 21 = .ok (.iconst 1, 1) := by decide +kernel
theorem dX9_hereSet_22 : decode cX9_hereSet 22 = .ok (.iload_n 2, 1) := by decide +kernel
theorem dX9_hereSet_23 : decode cX9_hereSet 23 = .ok (.ishl, 1) := by decide +kernel
theorem dX9_hereSet_24 : decode cX9_hereSet 24 = .ok (.goto 4, 3) := by decide +kernel
theorem dX9_hereSet_27 : decode cX9_hereSet 27 = .ok (.iconst 0, 1) := by decide +kernel
theorem dX9_hereSet_28 : decode cX9_hereSet 28 = .ok (.ior, 1) := by decide +kernel
theorem dX9_hereSet_29 : decode cX9_hereSet 29 = .ok (.istore_n 1, 1) := by decide +kernel
theorem dX9_hereSet_30 : decode cX9_hereSet 30 = .ok (.iinc 2 1, 3) := by decide +kernel
theorem dX9_hereSet_33 : decode cX9_hereSet 33 = .ok (.goto (-29), 3) := by decide +kernel
theorem dX9_hereSet_36 : decode cX9_hereSet 36 = .ok (.iload_n 1, 1) := by decide +kernel
theorem dX9_hereSet_37 : decode cX9_hereSet 37 = .ok (.ireturn, 1) := by decide +kernel
theorem dX9_hasRoom_0 : decode cX9_hasRoom 0 = .ok (.aload_n 0, 1) := by decide +kernel
theorem dX9_hasRoom_1 : decode cX9_hasRoom 1 = .ok (.getfield 112, 3) := by decide +kernel
theorem dX9_hasRoom_4 : decode cX9_hasRoom 4 = .ok (.iload_n 1, 1) := by decide +kernel
theorem dX9_hasRoom_5 : decode cX9_hasRoom 5 = .ok (.baload, 1) := by decide +kernel
theorem dX9_hasRoom_6 : decode cX9_hasRoom 6 = .ok (.ifCond .ne 24, 3) := by decide +kernel
theorem dX9_hasRoom_9 : decode cX9_hasRoom 9 = .ok (.aload_n 0, 1) := by decide +kernel
theorem dX9_hasRoom_10 : decode cX9_hasRoom 10 = .ok (.iload_n 1, 1) := by decide +kernel
theorem dX9_hasRoom_11 : decode cX9_hasRoom 11 = .ok (.invokevirtual 439, 3) := by decide +kernel
theorem dX9_hasRoom_14 : decode cX9_hasRoom 14 = .ok (.invokestatic 442, 3) := by decide +kernel
theorem dX9_hasRoom_17 : decode cX9_hasRoom 17 = .ok (.aload_n 0, 1) := by decide +kernel
theorem dX9_hasRoom_18 : decode cX9_hasRoom 18 = .ok (.getfield 63, 3) := by decide +kernel
theorem dX9_hasRoom_21 : decode cX9_hasRoom 21 = .ok (.iload_n 1, 1) := by decide +kernel
theorem dX9_hasRoom_22 : decode cX9_hasRoom 22 = .ok (.iaload, 1) := by decide +kernel
theorem dX9_hasRoom_23 : decode cX9_hasRoom 23 = .ok (.if_icmp .ge 7, 3) := by decide +kernel
theorem dX9_hasRoom_26 : decode cX9_hasRoom 26 = .ok (.iconst 1, 1) := by decide +kernel
theorem dX9_hasRoom_27 : decode cX9_hasRoom 27 = .ok (.goto 4, 3) := by decide +kernel
theorem dX9_hasRoom_30 : decode cX9_hasRoom 30 = .ok (.iconst 0, 1) := by decide +kernel
theorem dX9_hasRoom_31 : decode cX9_hasRoom 31 = .ok (.ireturn, 1) := by decide +kernel
theorem dX9_doesNap_0 : decode cX9_doesNap 0 = .ok (.aload_n 0, 1) := by decide +kernel
theorem dX9_doesNap_1 : decode cX9_doesNap 1 = .ok (.getfield 94, 3) := by decide +kernel
theorem dX9_doesNap_4 : decode cX9_doesNap 4 = .ok (.iload_n 1, 1) := by decide +kernel
theorem dX9_doesNap_5 : decode cX9_doesNap 5 = .ok (.iaload, 1) := by decide +kernel
theorem dX9_doesNap_6 : decode cX9_doesNap 6 = .ok (.ifCond .lt 27, 3) := by decide +kernel
theorem dX9_doesNap_9 : decode cX9_doesNap 9 = .ok (.aload_n 0, 1) := by decide +kernel
theorem dX9_doesNap_10 : decode cX9_doesNap 10 = .ok (.getfield 401, 3) := by decide +kernel
theorem dX9_doesNap_13 : decode cX9_doesNap 13 = .ok (.ifCond .le 20, 3) := by decide +kernel
theorem dX9_doesNap_16 : decode cX9_doesNap 16 = .ok (.aload_n 0, 1) := by decide +kernel
theorem dX9_doesNap_17 : decode cX9_doesNap 17 = .ok (.getfield 100, 3) := by decide +kernel
theorem dX9_doesNap_20 : decode cX9_doesNap 20 = .ok (.iload_n 1, 1) := by decide +kernel
theorem dX9_doesNap_21 : decode cX9_doesNap 21 = .ok (.iaload, 1) := by decide +kernel
theorem dX9_doesNap_22 : decode cX9_doesNap 22 = .ok (.aload_n 0, 1) := by decide +kernel
theorem dX9_doesNap_23 : decode cX9_doesNap 23 = .ok (.getfield 401, 3) := by decide +kernel
theorem dX9_doesNap_26 : decode cX9_doesNap 26 = .ok (.if_icmp .lt 7, 3) := by decide +kernel
theorem dX9_doesNap_29 : decode cX9_doesNap 29 = .ok (.iconst 1, 1) := by decide +kernel
theorem dX9_doesNap_30 : decode cX9_doesNap 30 = .ok (.goto 4, 3) := by decide +kernel
theorem dX9_doesNap_33 : decode cX9_doesNap 33 = .ok (.iconst 0, 1) := by decide +kernel
theorem dX9_doesNap_34 : decode cX9_doesNap 34 = .ok (.ireturn, 1) := by decide +kernel
theorem dX9_voters_0 : decode cX9_voters 0 = .ok (.iconst 0, 1) := by decide +kernel
theorem dX9_voters_1 : decode cX9_voters 1 = .ok (.istore_n 1, 1) := by decide +kernel
theorem dX9_voters_2 : decode cX9_voters 2 = .ok (.iconst 0, 1) := by decide +kernel
theorem dX9_voters_3 : decode cX9_voters 3 = .ok (.istore_n 2, 1) := by decide +kernel
theorem dX9_voters_4 : decode cX9_voters 4 = .ok (.iload_n 2, 1) := by decide +kernel
theorem dX9_voters_5 : decode cX9_voters 5 = .ok (.aload_n 0, 1) := by decide +kernel
theorem dX9_voters_6 : decode cX9_voters 6 = .ok (.invokevirtual 417, 3) := by decide +kernel
theorem dX9_voters_9 : decode cX9_voters 9 = .ok (.if_icmp .ge 50, 3) := by decide +kernel
theorem dX9_voters_12 : decode cX9_voters 12 = .ok (.iload_n 1, 1) := by decide +kernel
theorem dX9_voters_13 : decode cX9_voters 13 = .ok (.aload_n 0, 1) := by decide +kernel
theorem dX9_voters_14 : decode cX9_voters 14 = .ok (.getfield 94, 3) := by decide +kernel
theorem dX9_voters_17 : decode cX9_voters 17 = .ok (.iload_n 2, 1) := by decide +kernel
theorem dX9_voters_18 : decode cX9_voters 18 = .ok (.iaload, 1) := by decide +kernel
theorem dX9_voters_19 : decode cX9_voters 19 = .ok (.ifCond .lt 31, 3) := by decide +kernel
theorem dX9_voters_22 : decode cX9_voters 22 = .ok (.aload_n 0, 1) := by decide +kernel
theorem dX9_voters_23 : decode cX9_voters 23 = .ok (.iload_n 2, 1) := by decide +kernel
theorem dX9_voters_24 : decode cX9_voters 24 = .ok (.invokevirtual 445, 3) := by decide +kernel
theorem dX9_voters_27 : decode cX9_voters 27 = .ok (.ifCond .ne 23, 3) := by decide +kernel
theorem dX9_voters_30 : decode cX9_voters 30 = .ok (.aload_n 0, 1) := by decide +kernel
theorem dX9_voters_31 : decode cX9_voters 31 = .ok (.getfield 115, 3) := by decide +kernel
theorem dX9_voters_34 : decode cX9_voters 34 = .ok (.aload_n 0, 1) := by decide +kernel
theorem dX9_voters_35 : decode cX9_voters 35 = .ok (.getfield 94, 3) := by decide +kernel
theorem dX9_voters_38 : decode cX9_voters 38 = .ok (.iload_n 2, 1) := by decide +kernel
theorem dX9_voters_39 : decode cX9_voters 39 = .ok (.iaload, 1) := by decide +kernel
theorem dX9_voters_40 : decode cX9_voters 40 = .ok (.baload, 1) := by decide +kernel
theorem dX9_voters_41 : decode cX9_voters 41 = .ok (.ifCond .ne 9, 3) := by decide +kernel
theorem dX9_voters_44 : decode cX9_voters 44 = .ok (.iconst 1, 1) := by decide +kernel
theorem dX9_voters_45 : decode cX9_voters 45 = .ok (.iload_n 2, 1) := by decide +kernel
theorem dX9_voters_46 : decode cX9_voters 46 = .ok (.ishl, 1) := by decide +kernel
theorem dX9_voters_47 : decode cX9_voters 47 = .ok (.goto 4, 3) := by decide +kernel
theorem dX9_voters_50 : decode cX9_voters 50 = .ok (.iconst 0, 1) := by decide +kernel
theorem dX9_voters_51 : decode cX9_voters 51 = .ok (.ior, 1) := by decide +kernel
theorem dX9_voters_52 : decode cX9_voters 52 = .ok (.istore_n 1, 1) := by decide +kernel
theorem dX9_voters_53 : decode cX9_voters 53 = .ok (.iinc 2 1, 3) := by decide +kernel
theorem dX9_voters_56 : decode cX9_voters 56 = .ok (.goto (-52), 3) := by decide +kernel
theorem dX9_voters_59 : decode cX9_voters 59 = .ok (.iload_n 1, 1) := by decide +kernel
theorem dX9_voters_60 : decode cX9_voters 60 = .ok (.ireturn, 1) := by decide +kernel
theorem dX9_dueSet_0 : decode cX9_dueSet 0 = .ok (.iconst 0, 1) := by decide +kernel
theorem dX9_dueSet_1 : decode cX9_dueSet 1 = .ok (.istore_n 1, 1) := by decide +kernel
theorem dX9_dueSet_2 : decode cX9_dueSet 2 = .ok (.iconst 0, 1) := by decide +kernel
theorem dX9_dueSet_3 : decode cX9_dueSet 3 = .ok (.istore_n 2, 1) := by decide +kernel
theorem dX9_dueSet_4 : decode cX9_dueSet 4 = .ok (.iload_n 2, 1) := by decide +kernel
theorem dX9_dueSet_5 : decode cX9_dueSet 5 = .ok (.aload_n 0, 1) := by decide +kernel
theorem dX9_dueSet_6 : decode cX9_dueSet 6 = .ok (.getfield 398, 3) := by decide +kernel
theorem dX9_dueSet_9 : decode cX9_dueSet 9 = .ok (.if_icmp .ge 51, 3) := by decide +kernel
theorem dX9_dueSet_12 : decode cX9_dueSet 12 = .ok (.iload_n 1, 1) := by decide +kernel
theorem dX9_dueSet_13 : decode cX9_dueSet 13 = .ok (.aload_n 0, 1) := by decide +kernel
theorem dX9_dueSet_14 : decode cX9_dueSet 14 = .ok (.getfield 103, 3) := by decide +kernel
theorem dX9_dueSet_17 : decode cX9_dueSet 17 = .ok (.aload_n 0, 1) := by decide +kernel
theorem dX9_dueSet_18 : decode cX9_dueSet 18 = .ok (.getfield 75, 3) := by decide +kernel
theorem dX9_dueSet_21 : decode cX9_dueSet 21 = .ok (.iconst 4, 1) := by decide +kernel
theorem dX9_dueSet_22 : decode cX9_dueSet 22 = .ok (.iload_n 2, 1) := by decide +kernel
theorem dX9_dueSet_23 : decode cX9_dueSet 23 = .ok (.imul, 1) := by decide +kernel
theorem dX9_dueSet_24 : decode cX9_dueSet 24 = .ok (.iconst 2, 1) := by decide +kernel
theorem dX9_dueSet_25 : decode cX9_dueSet 25 = .ok (.iadd, 1) := by decide +kernel
