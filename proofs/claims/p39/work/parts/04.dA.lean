theorem dX0_init_0 : decode cX0_init 0 = .ok (.aload_n 0, 1) := by decide +kernel
theorem dX0_init_1 : decode cX0_init 1 = .ok (.invokespecial 3, 3) := by decide +kernel
theorem dX0_init_4 : decode cX0_init 4 = .ok (.aload_n 0, 1) := by decide +kernel
theorem dX0_init_5 : decode cX0_init 5 = .ok (.new 9, 3) := by decide +kernel
theorem dX0_init_8 : decode cX0_init 8 = .ok (.dup, 1) := by decide +kernel
theorem dX0_init_9 : decode cX0_init 9 = .ok (.invokespecial 11, 3) := by decide +kernel
theorem dX0_init_12 : decode cX0_init 12 = .ok (.putfield 12, 3) := by decide +kernel
theorem dX0_init_15 : decode cX0_init 15 = .ok (.aload_n 0, 1) := by decide +kernel
theorem dX0_init_16 : decode cX0_init 16 = .ok (.bipush 12, 2) := by decide +kernel
theorem dX0_init_18 : decode cX0_init 18 = .ok (.newarray .int, 2) := by decide +kernel
theorem dX0_init_20 : decode cX0_init 20 = .ok (.putfield 18, 3) := by decide +kernel
theorem dX0_init_23 : decode cX0_init 23 = .ok (.aload_n 0, 1) := by decide +kernel
theorem dX0_init_24 : decode cX0_init 24 = .ok (.bipush 12, 2) := by decide +kernel
theorem dX0_init_26 : decode cX0_init 26 = .ok (.newarray .int, 2) := by decide +kernel
theorem dX0_init_28 : decode cX0_init 28 = .ok (.putfield 22, 3) := by decide +kernel
theorem dX0_init_31 : decode cX0_init 31 = .ok (.aload_n 0, 1) := by decide +kernel
theorem dX0_init_32 : decode cX0_init 32 = .ok (.bipush 12, 2) := by decide +kernel
theorem dX0_init_34 : decode cX0_init 34 = .ok (.newarray .int, 2) := by decide +kernel
theorem dX0_init_36 : decode cX0_init 36 = .ok (.putfield 25, 3) := by decide +kernel
theorem dX0_init_39 : decode cX0_init 39 = .ok (.aload_n 0, 1) := by decide +kernel
theorem dX0_init_40 : decode cX0_init 40 = .ok (.bipush 13, 2) := by decide +kernel
theorem dX0_init_42 : decode cX0_init 42 = .ok (.newarray .int, 2) := by decide +kernel
theorem dX0_init_44 : decode cX0_init 44 = .ok (.putfield 28, 3) := by decide +kernel
theorem dX0_init_47 : decode cX0_init 47 = .ok (.aload_n 0, 1) := by decide +kernel
theorem dX0_init_48 : decode cX0_init 48 = .ok (.bipush 13, 2) := by decide +kernel
theorem dX0_init_50 : decode cX0_init 50 = .ok (.newarray .int, 2) := by decide +kernel
theorem dX0_init_52 : decode cX0_init 52 = .ok (.putfield 31, 3) := by decide +kernel
theorem dX0_init_55 : decode cX0_init 55 = .ok (.aload_n 0, 1) := by decide +kernel
theorem dX0_init_56 : decode cX0_init 56 = .ok (.aload_n 1, 1) := by decide +kernel
theorem dX0_init_57 : decode cX0_init 57 = .ok (.putfield 34, 3) := by decide +kernel
theorem dX0_init_60 : decode cX0_init 60 = .ok (.return_, 1) := by decide +kernel
theorem dX0_gather_0 : decode cX0_gather 0 = .ok (.aload_n 0, 1) := by decide +kernel
theorem dX0_gather_1 : decode cX0_gather 1 = .ok (.iload_n 1, 1) := by decide +kernel
theorem dX0_gather_2 : decode cX0_gather 2 = .ok (.putfield 38, 3) := by decide +kernel
theorem dX0_gather_5 : decode cX0_gather 5 = .ok (.aload_n 0, 1) := by decide +kernel
theorem dX0_gather_6 : decode cX0_gather 6 = .ok (.iconst 0, 1) := by decide +kernel
theorem dX0_gather_7 : decode cX0_gather 7 = .ok (.putfield 42, 3) := by decide +kernel
theorem dX0_gather_10 : decode cX0_gather 10 = .ok (.iconst 0, 1) := by decide +kernel
theorem dX0_gather_11 : decode cX0_gather 11 = .ok (.istore_n 2, 1) := by decide +kernel
theorem dX0_gather_12 : decode cX0_gather 12 = .ok (.iload_n 2, 1) := by decide +kernel
theorem dX0_gather_13 : decode cX0_gather 13 = .ok (.aload_n 0, 1) := by decide +kernel
theorem dX0_gather_14 : decode cX0_gather 14 = .ok (.getfield 34, 3) := by decide +kernel
theorem dX0_gather_17 : decode cX0_gather 17 = .ok (.getfield 45, 3) := by decide +kernel
theorem dX0_gather_20 : decode cX0_gather 20 = .ok (.if_icmp .ge 72, 3) := by decide +kernel
theorem dX0_gather_23 : decode cX0_gather 23 = .ok (.aload_n 0, 1) := by decide +kernel
theorem dX0_gather_24 : decode cX0_gather 24 = .ok (.iload_n 2, 1) := by decide +kernel
theorem dX0_gather_25 : decode cX0_gather 25 = .ok (.invokevirtual 50, 3) := by decide +kernel
theorem dX0_gather_28 : decode cX0_gather 28 = .ok (.istore_n 3, 1) := by decide +kernel
theorem dX0_gather_29 : decode cX0_gather 29 = .ok (.iload_n 3, 1) := by decide +kernel
theorem dX0_gather_30 : decode cX0_gather 30 = .ok (.iconst (-1), 1) := by decide +kernel
theorem dX0_gather_31 : decode cX0_gather 31 = .ok (.if_icmp .ne 29, 3) := by decide +kernel
theorem dX0_gather_34 : decode cX0_gather 34 = .ok (.aload_n 0, 1) := by decide +kernel
theorem dX0_gather_35 : decode cX0_gather 35 = .ok (.getfield 42, 3) := by decide +kernel
theorem dX0_gather_38 : decode cX0_gather 38 = .ok (.ifCond .le 22, 3) := by decide +kernel
theorem dX0_gather_41 : decode cX0_gather 41 = .ok (.aload_n 0, 1) := by decide +kernel
theorem dX0_gather_42 : decode cX0_gather 42 = .ok (.getfield 25, 3) := by decide +kernel
theorem dX0_gather_45 : decode cX0_gather 45 = .ok (.aload_n 0, 1) := by decide +kernel
theorem dX0_gather_46 : decode cX0_gather 46 = .ok (.getfield 42, 3) := by decide +kernel
theorem dX0_gather_49 : decode cX0_gather 49 = .ok (.iconst 1, 1) := by decide +kernel
theorem dX0_gather_50 : decode cX0_gather 50 = .ok (.isub, 1) := by decide +kernel
theorem dX0_gather_51 : decode cX0_gather 51 = .ok (.iaload, 1) := by decide +kernel
theorem dX0_gather_52 : decode cX0_gather 52 = .ok (.iconst (-1), 1) := by decide +kernel
theorem dX0_gather_53 : decode cX0_gather 53 = .ok (.if_icmp .ne 7, 3) := by decide +kernel
theorem dX0_gather_56 : decode cX0_gather 56 = .ok (.iconst 1, 1) := by decide +kernel
theorem dX0_gather_57 : decode cX0_gather 57 = .ok (.goto 4, 3) := by decide +kernel
theorem dX0_gather_60 : decode cX0_gather 60 = .ok (.iconst 0, 1) := by decide +kernel
theorem dX0_gather_61 : decode cX0_gather 61 = .ok (.istore 4, 2) := by decide +kernel
theorem dX0_gather_63 : decode cX0_gather 63 = .ok (.iload 4, 2) := by decide +kernel
theorem dX0_gather_65 : decode cX0_gather 65 = .ok (.ifCond .ne 9, 3) := by decide +kernel
theorem dX0_gather_68 : decode cX0_gather 68 = .ok (.aload_n 0, 1) := by decide +kernel
theorem dX0_gather_69 : decode cX0_gather 69 = .ok (.iload_n 2, 1) := by decide +kernel
theorem dX0_gather_70 : decode cX0_gather 70 = .ok (.iload_n 3, 1) := by decide +kernel
theorem dX0_gather_71 : decode cX0_gather 71 = .ok (.invokevirtual 54, 3) := by decide +kernel
theorem dX0_gather_74 : decode cX0_gather 74 = .ok (.aload_n 0, 1) := by decide +kernel
theorem dX0_gather_75 : decode cX0_gather 75 = .ok (.getfield 22, 3) := by decide +kernel
theorem dX0_gather_78 : decode cX0_gather 78 = .ok (.iload_n 2, 1) := by decide +kernel
theorem dX0_gather_79 : decode cX0_gather 79 = .ok (.aload_n 0, 1) := by decide +kernel
theorem dX0_gather_80 : decode cX0_gather 80 = .ok (.getfield 42, 3) := by decide +kernel
theorem dX0_gather_83 : decode cX0_gather 83 = .ok (.iconst 1, 1) := by decide +kernel
theorem dX0_gather_84 : decode cX0_gather 84 = .ok (.isub, 1) := by decide +kernel
theorem dX0_gather_85 : decode cX0_gather 85 = .ok (.iastore, 1) := by decide +kernel
theorem dX0_gather_86 : decode cX0_gather 86 = .ok (.iinc 2 1, 3) := by decide +kernel
theorem dX0_gather_89 : decode cX0_gather 89 = .ok (.goto (-77), 3) := by decide +kernel
theorem dX0_gather_92 : decode cX0_gather 92 = .ok (.return_, 1) := by decide +kernel
theorem dX0_drawerOf_0 : decode cX0_drawerOf 0 = .ok (.aload_n 0, 1) := by decide +kernel
theorem dX0_drawerOf_1 : decode cX0_drawerOf 1 = .ok (.getfield 38, 3) := by decide +kernel
theorem dX0_drawerOf_4 : decode cX0_drawerOf 4 = .ok (.iconst 5, 1) := by decide +kernel
theorem dX0_drawerOf_5 : decode cX0_drawerOf 5 = .ok (.if_icmp .eq 18, 3) := by decide +kernel
theorem dX0_drawerOf_8 : decode cX0_drawerOf 8 = .ok (.aload_n 0, 1) := by decide +kernel
theorem dX0_drawerOf_9 : decode cX0_drawerOf 9 = .ok (.getfield 34, 3) := by decide +kernel
theorem dX0_drawerOf_12 : decode cX0_drawerOf 12 = .ok (.aload_n 0, 1) := by decide +kernel
theorem dX0_drawerOf_13 : decode cX0_drawerOf 13 = .ok (.getfield 38, 3) := by decide +kernel
theorem dX0_drawerOf_16 : decode cX0_drawerOf 16 = .ok (.iload_n 1, 1) := by decide +kernel
theorem dX0_drawerOf_17 : decode cX0_drawerOf 17 = .ok (.invokevirtual 58, 3) := by decide +kernel
theorem dX0_drawerOf_20 : decode cX0_drawerOf 20 = .ok (.ifCond .ne 8, 3) := by decide +kernel
theorem dX0_drawerOf_23 : decode cX0_drawerOf 23 = .ok (.aload_n 0, 1) := by decide +kernel
theorem dX0_drawerOf_24 : decode cX0_drawerOf 24 = .ok (.getfield 38, 3) := by decide +kernel
theorem dX0_drawerOf_27 : decode cX0_drawerOf 27 = .ok (.ireturn, 1) := by decide +kernel
theorem dX0_drawerOf_28 : decode cX0_drawerOf 28 = .ok (.aload_n 0, 1) := by decide +kernel
theorem dX0_drawerOf_29 : decode cX0_drawerOf 29 = .ok (.getfield 34, 3) := by decide +kernel
theorem dX0_drawerOf_32 : decode cX0_drawerOf 32 = .ok (.aload_n 0, 1) := by decide +kernel
theorem dX0_drawerOf_33 : decode cX0_drawerOf 33 = .ok (.getfield 38, 3) := by decide +kernel
theorem dX0_drawerOf_36 : decode cX0_drawerOf 36 = .ok (.iload_n 1, 1) := by decide +kernel
theorem dX0_drawerOf_37 : decode cX0_drawerOf 37 = .ok (.invokevirtual 62, 3) := by decide +kernel
theorem dX0_drawerOf_40 : decode cX0_drawerOf 40 = .ok (.ireturn, 1) := by decide +kernel
theorem dX0_addItem_0 : decode cX0_addItem 0 = .ok (.aload_n 0, 1) := by decide +kernel
theorem dX0_addItem_1 : decode cX0_addItem 1 = .ok (.getfield 18, 3) := by decide +kernel
theorem dX0_addItem_4 : decode cX0_addItem 4 = .ok (.aload_n 0, 1) := by decide +kernel
theorem dX0_addItem_5 : decode cX0_addItem 5 = .ok (.getfield 42, 3) := by decide +kernel
theorem dX0_addItem_8 : decode cX0_addItem 8 = .ok (.iload_n 1, 1) := by decide +kernel
theorem dX0_addItem_9 : decode cX0_addItem 9 = .ok (.iastore, 1) := by decide +kernel
theorem dX0_addItem_10 : decode cX0_addItem 10 = .ok (.aload_n 0, 1) := by decide +kernel
theorem dX0_addItem_11 : decode cX0_addItem 11 = .ok (.getfield 25, 3) := by decide +kernel
theorem dX0_addItem_14 : decode cX0_addItem 14 = .ok (.aload_n 0, 1) := by decide +kernel
theorem dX0_addItem_15 : decode cX0_addItem 15 = .ok (.getfield 42, 3) := by decide +kernel
theorem dX0_addItem_18 : decode cX0_addItem 18 = .ok (.iload_n 2, 1) := by decide +kernel
theorem dX0_addItem_19 : decode cX0_addItem 19 = .ok (.iastore, 1) := by decide +kernel
theorem dX0_addItem_20 : decode cX0_addItem 20 = .ok (.aload_n 0, 1) := by decide +kernel
theorem dX0_addItem_21 : decode cX0_addItem 21 = .ok (.getfield 12, 3) := by decide +kernel
theorem dX0_addItem_24 : decode cX0_addItem 24 = .ok (.aload_n 0, 1) := by decide +kernel
theorem dX0_addItem_25 : decode cX0_addItem 25 = .ok (.getfield 34, 3) := by decide +kernel
theorem dX0_addItem_28 : decode cX0_addItem 28 = .ok (.iload_n 2, 1) := by decide +kernel
theorem dX0_addItem_29 : decode cX0_addItem 29 = .ok (.iload_n 1, 1) := by decide +kernel
theorem dX0_addItem_30 : decode cX0_addItem 30 = .ok (.invokevirtual 66, 3) := by decide +kernel
theorem dX0_addItem_33 : decode cX0_addItem 33 = .ok (.aload_n 0, 1) := by decide +kernel
theorem dX0_addItem_34 : decode cX0_addItem 34 = .ok (.getfield 28, 3) := by decide +kernel
theorem dX0_addItem_37 : decode cX0_addItem 37 = .ok (.aload_n 0, 1) := by decide +kernel
theorem dX0_addItem_38 : decode cX0_addItem 38 = .ok (.getfield 42, 3) := by decide +kernel
theorem dX0_addItem_41 : decode cX0_addItem 41 = .ok (.iconst 1, 1) := by decide +kernel
theorem dX0_addItem_42 : decode cX0_addItem 42 = .ok (.iadd, 1) := by decide +kernel
theorem dX0_addItem_43 : decode cX0_addItem 43 = .ok (.aload_n 0, 1) := by decide +kernel
theorem dX0_addItem_44 : decode cX0_addItem 44 = .ok (.getfield 28, 3) := by decide +kernel
theorem dX0_addItem_47 : decode cX0_addItem 47 = .ok (.aload_n 0, 1) := by decide +kernel
theorem dX0_addItem_48 : decode cX0_addItem 48 = .ok (.getfield 42, 3) := by decide +kernel
theorem dX0_addItem_51 : decode cX0_addItem 51 = .ok (.iaload, 1) := by decide +kernel
theorem dX0_addItem_52 : decode cX0_addItem 52 = .ok (.aload_n 0, 1) := by decide +kernel
theorem dX0_addItem_53 : decode cX0_addItem 53 = .ok (.getfield 12, 3) := by decide +kernel
theorem dX0_addItem_56 : decode cX0_addItem 56 = .ok (.invokevirtual 70, 3) := by decide +kernel
theorem dX0_addItem_59 : decode cX0_addItem 59 = .ok (.iadd, 1) := by decide +kernel
theorem dX0_addItem_60 : decode cX0_addItem 60 = .ok (.iastore, 1) := by decide +kernel
theorem dX0_addItem_61 : decode cX0_addItem 61 = .ok (.aload_n 0, 1) := by decide +kernel
theorem dX0_addItem_62 : decode cX0_addItem 62 = .ok (.getfield 31, 3) := by decide +kernel
theorem dX0_addItem_65 : decode cX0_addItem 65 = .ok (.aload_n 0, 1) := by decide +kernel
theorem dX0_addItem_66 : decode cX0_addItem 66 = .ok (.getfield 42, 3) := by decide +kernel
theorem dX0_addItem_69 : decode cX0_addItem 69 = .ok (.iconst 1, 1) := by decide +kernel
theorem dX0_addItem_70 : decode cX0_addItem 70 = .ok (.iadd, 1) := by decide +kernel
theorem dX0_addItem_71 : decode cX0_addItem 71 = .ok (.aload_n 0, 1) := by decide +kernel
theorem dX0_addItem_72 : decode cX0_addItem 72 = .ok (.getfield 31, 3) := by decide +kernel
theorem dX0_addItem_75 : decode cX0_addItem 75 = .ok (.aload_n 0, 1) := by decide +kernel
theorem dX0_addItem_76 : decode cX0_addItem 76 = .ok (.getfield 42, 3) := by decide +kernel
theorem dX0_addItem_79 : decode cX0_addItem 79 = .ok (.iaload, 1) := by decide +kernel
theorem dX0_addItem_80 : decode cX0_addItem 80 = .ok (.aload_n 0, 1) := by decide +kernel
theorem dX0_addItem_81 : decode cX0_addItem 81 = .ok (.getfield 12, 3) := by decide +kernel
theorem dX0_addItem_84 : decode cX0_addItem 84 = .ok (.invokevirtual 74, 3) := by decide +kernel
theorem dX0_addItem_87 : decode cX0_addItem 87 = .ok (.iadd, 1) := by decide +kernel
theorem dX0_addItem_88 : decode cX0_addItem 88 = .ok (.iastore, 1) := by decide +kernel
theorem dX0_addItem_89 : decode cX0_addItem 89 = .ok (.aload_n 0, 1) := by decide +kernel
theorem dX0_addItem_90 : decode cX0_addItem 90 = .ok (.dup, 1) := by decide +kernel
theorem dX0_addItem_91 : decode cX0_addItem 91 = .ok (.getfield 42, 3) := by decide +kernel
theorem dX0_addItem_94 : decode cX0_addItem 94 = .ok (.iconst 1, 1) := by decide +kernel
theorem dX0_addItem_95 : decode cX0_addItem 95 = .ok (.iadd, 1) := by decide +kernel
theorem dX0_addItem_96 : decode cX0_addItem 96 = .ok (.putfield 42, 3) := by decide +kernel
theorem dX0_addItem_99 : decode cX0_addItem 99 = .ok (.return_, 1) := by decide +kernel
theorem dX0_drawSpring_0 : decode cX0_drawSpring 0 = .ok (.aload_n 0, 1) := by decide +kernel
theorem dX0_drawSpring_1 : decode cX0_drawSpring 1 = .ok (.getfield 22, 3) := by decide +kernel
theorem dX0_drawSpring_4 : decode cX0_drawSpring 4 = .ok (.iload_n 1, 1) := by decide +kernel
theorem dX0_drawSpring_5 : decode cX0_drawSpring 5 = .ok (.iaload, 1) := by decide +kernel
theorem dX0_drawSpring_6 : decode cX0_drawSpring 6 = .ok (.istore_n 3, 1) := by decide +kernel
theorem dX0_drawSpring_7 : decode cX0_drawSpring 7 = .ok (.aload_n 0, 1) := by decide +kernel
theorem dX0_drawSpring_8 : decode cX0_drawSpring 8 = .ok (.getfield 12, 3) := by decide +kernel
theorem dX0_drawSpring_11 : decode cX0_drawSpring 11 = .ok (.aload_n 0, 1) := by decide +kernel
theorem dX0_drawSpring_12 : decode cX0_drawSpring 12 = .ok (.getfield 34, 3) := by decide +kernel
theorem dX0_drawSpring_15 : decode cX0_drawSpring 15 = .ok (.aload_n 0, 1) := by decide +kernel
theorem dX0_drawSpring_16 : decode cX0_drawSpring 16 = .ok (.getfield 25, 3) := by decide +kernel
theorem dX0_drawSpring_19 : decode cX0_drawSpring 19 = .ok (.iload_n 3, 1) := by decide +kernel
theorem dX0_drawSpring_20 : decode cX0_drawSpring 20 = .ok (.iaload, 1) := by decide +kernel
theorem dX0_drawSpring_21 : decode cX0_drawSpring 21 = .ok (.aload_n 0, 1) := by decide +kernel
theorem dX0_drawSpring_22 : decode cX0_drawSpring 22 = .ok (.getfield 18, 3) := by decide +kernel
theorem dX0_drawSpring_25 : decode cX0_drawSpring 25 = .ok (.iload_n 3, 1) := by decide +kernel
theorem dX0_drawSpring_26 : decode cX0_drawSpring 26 = .ok (.iaload, 1) := by decide +kernel
theorem dX0_drawSpring_27 : decode cX0_drawSpring 27 = .ok (.invokevirtual 66, 3) := by decide +kernel
theorem dX0_drawSpring_30 : decode cX0_drawSpring 30 = .ok (.aload_n 0, 1) := by decide +kernel
theorem dX0_drawSpring_31 : decode cX0_drawSpring 31 = .ok (.getfield 18, 3) := by decide +kernel
theorem dX0_drawSpring_34 : decode cX0_drawSpring 34 = .ok (.iload_n 3, 1) := by decide +kernel
theorem dX0_drawSpring_35 : decode cX0_drawSpring 35 = .ok (.iaload, 1) := by decide +kernel
theorem dX0_drawSpring_36 : decode cX0_drawSpring 36 = .ok (.iload_n 1, 1) := by decide +kernel
theorem dX0_drawSpring_37 : decode cX0_drawSpring 37 = .ok (.if_icmp .ne 14, 3) := by decide +kernel
theorem dX0_drawSpring_40 : decode cX0_drawSpring 40 = .ok (.aload_n 0, 1) := by decide +kernel
theorem dX0_drawSpring_41 : decode cX0_drawSpring 41 = .ok (.getfield 12, 3) := by decide +kernel
theorem dX0_drawSpring_44 : decode cX0_drawSpring 44 = .ok (.iload_n 2, 1) := by decide +kernel
theorem dX0_drawSpring_45 : decode cX0_drawSpring 45 = .ok (.invokevirtual 77, 3) := by decide +kernel
theorem dX0_drawSpring_48 : decode cX0_drawSpring 48 = .ok (.goto 4, 3) := by decide +kernel
theorem dX0_drawSpring_51 : decode cX0_drawSpring 51 = .ok (.iconst (-1), 1) := by decide +kernel
theorem dX0_drawSpring_52 : decode cX0_drawSpring 52 = .ok (.ireturn, 1) := by decide +kernel
theorem dX0_widthOf_0 : decode cX0_widthOf 0 = .ok (.bipush 8, 2) := by decide +kernel
theorem dX0_widthOf_2 : decode cX0_widthOf 2 = .ok (.iload_n 2, 1) := by decide +kernel
theorem dX0_widthOf_3 : decode cX0_widthOf 3 = .ok (.iload_n 1, 1) := by decide +kernel
theorem dX0_widthOf_4 : decode cX0_widthOf 4 = .ok (.isub, 1) := by decide +kernel
theorem dX0_widthOf_5 : decode cX0_widthOf 5 = .ok (.imul, 1) := by decide +kernel
theorem dX0_widthOf_6 : decode cX0_widthOf 6 = .ok (.aload_n 0, 1) := by decide +kernel
theorem dX0_widthOf_7 : decode cX0_widthOf 7 = .ok (.getfield 28, 3) := by decide +kernel
theorem dX0_widthOf_10 : decode cX0_widthOf 10 = .ok (.iload_n 2, 1) := by decide +kernel
theorem dX0_widthOf_11 : decode cX0_widthOf 11 = .ok (.iaload, 1) := by decide +kernel
theorem dX0_widthOf_12 : decode cX0_widthOf 12 = .ok (.iadd, 1) := by decide +kernel
theorem dX0_widthOf_13 : decode cX0_widthOf 13 = .ok (.aload_n 0, 1) := by decide +kernel
theorem dX0_widthOf_14 : decode cX0_widthOf 14 = .ok (.getfield 28, 3) := by decide +kernel
theorem dX0_widthOf_17 : decode cX0_widthOf 17 = .ok (.iload_n 1, 1) := by decide +kernel
theorem dX0_widthOf_18 : decode cX0_widthOf 18 = .ok (.iaload, 1) := by decide +kernel
theorem dX0_widthOf_19 : decode cX0_widthOf 19 = .ok (.isub, 1) := by decide +kernel
theorem dX0_widthOf_20 : decode cX0_widthOf 20 = .ok (.ireturn, 1) := by decide +kernel
theorem dX0_leastOf_0 : decode cX0_leastOf 0 = .ok (.bipush 8, 2) := by decide +kernel
theorem dX0_leastOf_2 : decode cX0_leastOf 2 = .ok (.iload_n 2, 1) := by decide +kernel
theorem dX0_leastOf_3 : decode cX0_leastOf 3 = .ok (.iload_n 1, 1) := by decide +kernel
theorem dX0_leastOf_4 : decode cX0_leastOf 4 = .ok (.isub, 1) := by decide +kernel
theorem dX0_leastOf_5 : decode cX0_leastOf 5 = .ok (.imul, 1) := by decide +kernel
theorem dX0_leastOf_6 : decode cX0_leastOf 6 = .ok (.aload_n 0, 1) := by decide +kernel
theorem dX0_leastOf_7 : decode cX0_leastOf 7 = .ok (.getfield 31, 3) := by decide +kernel
theorem dX0_leastOf_10 : decode cX0_leastOf 10 = .ok (.iload_n 2, 1) := by decide +kernel
theorem dX0_leastOf_11 : decode cX0_leastOf 11 = .ok (.iaload, 1) := by decide +kernel
theorem dX0_leastOf_12 : decode cX0_leastOf 12 = .ok (.iadd, 1) := by decide +kernel
theorem dX0_leastOf_13 : decode cX0_leastOf 13 = .ok (.aload_n 0, 1) := by decide +kernel
theorem dX0_leastOf_14 : decode cX0_leastOf 14 = .ok (.getfield 31, 3) := by decide +kernel
theorem dX0_leastOf_17 : decode cX0_leastOf 17 = .ok (.iload_n 1, 1) := by decide +kernel
theorem dX0_leastOf_18 : decode cX0_leastOf 18 = .ok (.iaload, 1) := by decide +kernel
theorem dX0_leastOf_19 : decode cX0_leastOf 19 = .ok (.isub, 1) := by decide +kernel
theorem dX0_leastOf_20 : decode cX0_leastOf 20 = .ok (.ireturn, 1) := by decide +kernel
theorem dX1_init_0 : decode cX1_init 0 = .ok (.aload_n 0, 1) := by decide +kernel
theorem dX1_init_1 : decode cX1_init 1 = .ok (.invokespecial 3, 3) := by decide +kernel
theorem dX1_init_4 : decode cX1_init 4 = .ok (.aload_n 0, 1) := by decide +kernel
theorem dX1_init_5 : decode cX1_init 5 = .ok (.iconst (-1), 1) := by decide +kernel
theorem dX1_init_6 : decode cX1_init 6 = .ok (.putfield 9, 3) := by decide +kernel
theorem dX1_init_9 : decode cX1_init 9 = .ok (.aload_n 0, 1) := by decide +kernel
theorem dX1_init_10 : decode cX1_init 10 = .ok (.bipush 12, 2) := by decide +kernel
theorem dX1_init_12 : decode cX1_init 12 = .ok (.newarray .int, 2) := by decide +kernel
theorem dX1_init_14 : decode cX1_init 14 = .ok (.putfield 15, 3) := by decide +kernel
theorem dX1_init_17 : decode cX1_init 17 = .ok (.aload_n 0, 1) := by decide +kernel
theorem dX1_init_18 : decode cX1_init 18 = .ok (.aload_n 1, 1) := by decide +kernel
theorem dX1_init_19 : decode cX1_init 19 = .ok (.putfield 19, 3) := by decide +kernel
theorem dX1_init_22 : decode cX1_init 22 = .ok (.return_, 1) := by decide +kernel
theorem dX1_isOut_0 : decode cX1_isOut 0 = .ok (.aload_n 0, 1) := by decide +kernel
theorem dX1_isOut_1 : decode cX1_isOut 1 = .ok (.getfield 9, 3) := by decide +kernel
theorem dX1_isOut_4 : decode cX1_isOut 4 = .ok (.iconst (-1), 1) := by decide +kernel
theorem dX1_isOut_5 : decode cX1_isOut 5 = .ok (.if_icmp .eq 7, 3) := by decide +kernel
theorem dX1_isOut_8 : decode cX1_isOut 8 = .ok (.iconst 1, 1) := by decide +kernel
theorem dX1_isOut_9 : decode cX1_isOut 9 = .ok (.goto 4, 3) := by decide +kernel
theorem dX1_isOut_12 : decode cX1_isOut 12 = .ok (.iconst 0, 1) := by decide +kernel
theorem dX1_isOut_13 : decode cX1_isOut 13 = .ok (.ireturn, 1) := by decide +kernel
theorem dX1_takeVersions_0 : decode cX1_takeVersions 0 = .ok (.iconst 0, 1) := by decide +kernel
theorem dX1_takeVersions_1 : decode cX1_takeVersions 1 = .ok (.istore_n 1, 1) := by decide +kernel
theorem dX1_takeVersions_2 : decode cX1_takeVersions 2 = .ok (.iload_n 1, 1) := by decide +kernel
theorem dX1_takeVersions_3 : decode cX1_takeVersions 3 = .ok (.bipush 12, 2) := by decide +kernel
theorem dX1_takeVersions_5 : decode cX1_takeVersions 5 = .ok (.if_icmp .ge 35, 3) := by decide +kernel
theorem dX1_takeVersions_8 : decode cX1_takeVersions 8 = .ok (.aload_n 0, 1) := by decide +kernel
theorem dX1_takeVersions_9 : decode cX1_takeVersions 9 = .ok (.getfield 15, 3) := by decide +kernel
theorem dX1_takeVersions_12 : decode cX1_takeVersions 12 = .ok (.iload_n 1, 1) := by decide +kernel
theorem dX1_takeVersions_13 : decode cX1_takeVersions 13 = .ok (.iload_n 1, 1) := by decide +kernel
theorem dX1_takeVersions_14 : decode cX1_takeVersions 14 = .ok (.aload_n 0, 1) := by decide +kernel
theorem dX1_takeVersions_15 : decode cX1_takeVersions 15 = .ok (.getfield 19, 3) := by decide +kernel
theorem dX1_takeVersions_18 : decode cX1_takeVersions 18 = .ok (.getfield 23, 3) := by decide +kernel
theorem dX1_takeVersions_21 : decode cX1_takeVersions 21 = .ok (.if_icmp .ge 11, 3) := by decide +kernel
theorem dX1_takeVersions_24 : decode cX1_takeVersions 24 = .ok (.aload_n 0, 1) := by decide +kernel
theorem dX1_takeVersions_25 : decode cX1_takeVersions 25 = .ok (.iload_n 1, 1) := by decide +kernel
theorem dX1_takeVersions_26 : decode cX1_takeVersions 26 = .ok (.invokevirtual 28, 3) := by decide +kernel
theorem dX1_takeVersions_29 : decode cX1_takeVersions 29 = .ok (.goto 4, 3) := by decide +kernel
theorem dX1_takeVersions_32 : decode cX1_takeVersions 32 = .ok (.iconst (-1), 1) := by decide +kernel
theorem dX1_takeVersions_33 : decode cX1_takeVersions 33 = .ok (.iastore, 1) := by decide +kernel
theorem dX1_takeVersions_34 : decode cX1_takeVersions 34 = .ok (.iinc 1 1, 3) := by decide +kernel
theorem dX1_takeVersions_37 : decode cX1_takeVersions 37 = .ok (.goto (-35), 3) := by decide +kernel
theorem dX1_takeVersions_40 : decode cX1_takeVersions 40 = .ok (.return_, 1) := by decide +kernel
theorem dX1_scoreVersion_0 : decode cX1_scoreVersion 0 = .ok (.aload_n 0, 1) := by decide +kernel
theorem dX1_scoreVersion_1 : decode cX1_scoreVersion 1 = .ok (.getfield 19, 3) := by decide +kernel
theorem dX1_scoreVersion_4 : decode cX1_scoreVersion 4 = .ok (.getfield 32, 3) := by decide +kernel
theorem dX1_scoreVersion_7 : decode cX1_scoreVersion 7 = .ok (.aload_n 0, 1) := by decide +kernel
theorem dX1_scoreVersion_8 : decode cX1_scoreVersion 8 = .ok (.getfield 35, 3) := by decide +kernel
theorem dX1_scoreVersion_11 : decode cX1_scoreVersion 11 = .ok (.iload_n 1, 1) := by decide +kernel
theorem dX1_scoreVersion_12 : decode cX1_scoreVersion 12 = .ok (.invokestatic 38, 3) := by decide +kernel
theorem dX1_scoreVersion_15 : decode cX1_scoreVersion 15 = .ok (.iaload, 1) := by decide +kernel
theorem dX1_scoreVersion_16 : decode cX1_scoreVersion 16 = .ok (.ireturn, 1) := by decide +kernel
theorem dX1_versionOf_0 : decode cX1_versionOf 0 = .ok (.aload_n 0, 1) := by decide +kernel
theorem dX1_versionOf_1 : decode cX1_versionOf 1 = .ok (.invokevirtual 42, 3) := by decide +kernel
theorem dX1_versionOf_4 : decode cX1_versionOf 4 = .ok (.ifCond .eq 12, 3) := by decide +kernel
theorem dX1_versionOf_7 : decode cX1_versionOf 7 = .ok (.aload_n 0, 1) := by decide +kernel
theorem dX1_versionOf_8 : decode cX1_versionOf 8 = .ok (.getfield 15, 3) := by decide +kernel
theorem dX1_versionOf_11 : decode cX1_versionOf 11 = .ok (.iload_n 1, 1) := by decide +kernel
theorem dX1_versionOf_12 : decode cX1_versionOf 12 = .ok (.iaload, 1) := by decide +kernel
theorem dX1_versionOf_13 : decode cX1_versionOf 13 = .ok (.goto 8, 3) := by decide +kernel
theorem dX1_versionOf_16 : decode cX1_versionOf 16 = .ok (.aload_n 0, 1) := by decide +kernel
theorem dX1_versionOf_17 : decode cX1_versionOf 17 = .ok (.iload_n 1, 1) := by decide +kernel
theorem dX1_versionOf_18 : decode cX1_versionOf 18 = .ok (.invokevirtual 28, 3) := by decide +kernel
theorem dX1_versionOf_21 : decode cX1_versionOf 21 = .ok (.ireturn, 1) := by decide +kernel
theorem dX1_lacks_0 : decode cX1_lacks 0 = .ok (.aload_n 0, 1) := by decide +kernel
theorem dX1_lacks_1 : decode cX1_lacks 1 = .ok (.iload_n 1, 1) := by decide +kernel
theorem dX1_lacks_2 : decode cX1_lacks 2 = .ok (.invokevirtual 46, 3) := by decide +kernel
theorem dX1_lacks_5 : decode cX1_lacks 5 = .ok (.iconst (-1), 1) := by decide +kernel
theorem dX1_lacks_6 : decode cX1_lacks 6 = .ok (.if_icmp .ne 7, 3) := by decide +kernel
theorem dX1_lacks_9 : decode cX1_lacks 9 = .ok (.iconst 1, 1) := by decide +kernel
theorem dX1_lacks_10 : decode cX1_lacks 10 = .ok (.goto 4, 3) := by decide +kernel
theorem dX1_lacks_13 : decode cX1_lacks 13 = .ok (.iconst 0, 1) := by decide +kernel
theorem dX1_lacks_14 : decode cX1_lacks 14 = .ok (.ireturn, 1) := by decide +kernel
theorem dX1_owes_0 : decode cX1_owes 0 = .ok (.aload_n 0, 1) := by decide +kernel
theorem dX1_owes_1 : decode cX1_owes 1 = .ok (.iload_n 1, 1) := by decide +kernel
theorem dX1_owes_2 : decode cX1_owes 2 = .ok (.invokevirtual 46, 3) := by decide +kernel
theorem dX1_owes_5 : decode cX1_owes 5 = .ok (.aload_n 0, 1) := by decide +kernel
theorem dX1_owes_6 : decode cX1_owes 6 = .ok (.iload_n 1, 1) := by decide +kernel
theorem dX1_owes_7 : decode cX1_owes 7 = .ok (.invokevirtual 28, 3) := by decide +kernel
theorem dX1_owes_10 : decode cX1_owes 10 = .ok (.if_icmp .eq 7, 3) := by decide +kernel
theorem dX1_owes_13 : decode cX1_owes 13 = .ok (.iconst 1, 1) := by decide +kernel
theorem dX1_owes_14 : decode cX1_owes 14 = .ok (.goto 4, 3) := by decide +kernel
theorem dX1_owes_17 : decode cX1_owes 17 = .ok (.iconst 0, 1) := by decide +kernel
theorem dX1_owes_18 : decode cX1_owes 18 = .ok (.ireturn, 1) := by decide +kernel
theorem dX1_countDebts_0 : decode cX1_countDebts 0 = .ok (.iconst 0, 1) := by decide +kernel
theorem dX1_countDebts_1 : decode cX1_countDebts 1 = .ok (.istore_n 1, 1) := by decide +kernel
theorem dX1_countDebts_2 : decode cX1_countDebts 2 = .ok (.iconst 0, 1) := by decide +kernel
theorem dX1_countDebts_3 : decode cX1_countDebts 3 = .ok (.istore_n 2, 1) := by decide +kernel
theorem dX1_countDebts_4 : decode cX1_countDebts 4 = .ok (.iload_n 2, 1) := by decide +kernel
theorem dX1_countDebts_5 : decode cX1_countDebts 5 = .ok (.aload_n 0, 1) := by decide +kernel
theorem dX1_countDebts_6 : decode cX1_countDebts 6 = .ok (.getfield 19, 3) := by decide +kernel
theorem dX1_countDebts_9 : decode cX1_countDebts 9 = .ok (.getfield 23, 3) := by decide +kernel
theorem dX1_countDebts_12 : decode cX1_countDebts 12 = .ok (.if_icmp .ge 20, 3) := by decide +kernel
theorem dX1_countDebts_15 : decode cX1_countDebts 15 = .ok (.aload_n 0, 1) := by decide +kernel
theorem dX1_countDebts_16 : decode cX1_countDebts 16 = .ok (.iload_n 2, 1) := by decide +kernel
theorem dX1_countDebts_17 : decode cX1_countDebts 17 = .ok (.invokevirtual 49, 3) := by decide +kernel
theorem dX1_countDebts_20 : decode cX1_countDebts 20 = .ok (.ifCond .eq 6, 3) := by decide +kernel
theorem dX1_countDebts_23 : decode cX1_countDebts 23 = .ok (.iinc 1 1, 3) := by decide +kernel
theorem dX1_countDebts_26 : decode cX1_countDebts 26 = .ok (.iinc 2 1, 3) := by decide +kernel
theorem dX1_countDebts_29 : decode cX1_countDebts 29 = .ok (.goto (-25), 3) := by decide +kernel
theorem dX1_countDebts_32 : decode cX1_countDebts 32 = .ok (.iload_n 1, 1) := by decide +kernel
theorem dX1_countDebts_33 : decode cX1_countDebts 33 = .ok (.ireturn, 1) := by decide +kernel
theorem dX2_init_0 : decode cX2_init 0 = .ok (.aload_n 0, 1) := by decide +kernel
theorem dX2_init_1 : decode cX2_init 1 = .ok (.invokespecial 3, 3) := by decide +kernel
theorem dX2_init_4 : decode cX2_init 4 = .ok (.aload_n 0, 1) := by decide +kernel
theorem dX2_init_5 : decode cX2_init 5 = .ok (.bipush 60, 2) := by decide +kernel
theorem dX2_init_7 : decode cX2_init 7 = .ok (.newarray .int, 2) := by decide +kernel
theorem dX2_init_9 : decode cX2_init 9 = .ok (.putfield 9, 3) := by decide +kernel
theorem dX2_init_12 : decode cX2_init 12 = .ok (.aload_n 0, 1) := by decide +kernel
theorem dX2_init_13 : decode cX2_init 13 = .ok (.bipush 60, 2) := by decide +kernel
theorem dX2_init_15 : decode cX2_init 15 = .ok (.newarray .int, 2) := by decide +kernel
theorem dX2_init_17 : decode cX2_init 17 = .ok (.putfield 15, 3) := by decide +kernel
theorem dX2_init_20 : decode cX2_init 20 = .ok (.aload_n 0, 1) := by decide +kernel
theorem dX2_init_21 : decode cX2_init 21 = .ok (.bipush 60, 2) := by decide +kernel
theorem dX2_init_23 : decode cX2_init 23 = .ok (.newarray .int, 2) := by decide +kernel
theorem dX2_init_25 : decode cX2_init 25 = .ok (.putfield 18, 3) := by decide +kernel
theorem dX2_init_28 : decode cX2_init 28 = .ok (.aload_n 0, 1) := by decide +kernel
theorem dX2_init_29 : decode cX2_init 29 = .ok (.bipush 60, 2) := by decide +kernel
theorem dX2_init_31 : decode cX2_init 31 = .ok (.newarray .int, 2) := by decide +kernel
theorem dX2_init_33 : decode cX2_init 33 = .ok (.putfield 21, 3) := by decide +kernel
theorem dX2_init_36 : decode cX2_init 36 = .ok (.return_, 1) := by decide +kernel
theorem dX2_changeMark_0 : decode cX2_changeMark 0 = .ok (.aload_n 0, 1) := by decide +kernel
theorem dX2_changeMark_1 : decode cX2_changeMark 1 = .ok (.getfield 9, 3) := by decide +kernel
theorem dX2_changeMark_4 : decode cX2_changeMark 4 = .ok (.iload_n 1, 1) := by decide +kernel
theorem dX2_changeMark_5 : decode cX2_changeMark 5 = .ok (.iaload, 1) := by decide +kernel
theorem dX2_changeMark_6 : decode cX2_changeMark 6 = .ok (.istore 4, 2) := by decide +kernel
theorem dX2_changeMark_8 : decode cX2_changeMark 8 = .ok (.aload_n 0, 1) := by decide +kernel
theorem dX2_changeMark_9 : decode cX2_changeMark 9 = .ok (.getfield 9, 3) := by decide +kernel
theorem dX2_changeMark_12 : decode cX2_changeMark 12 = .ok (.iload_n 1, 1) := by decide +kernel
theorem dX2_changeMark_13 : decode cX2_changeMark 13 = .ok (.iload_n 2, 1) := by decide +kernel
theorem dX2_changeMark_14 : decode cX2_changeMark 14 = .ok (.iastore, 1) := by decide +kernel
theorem dX2_changeMark_15 : decode cX2_changeMark 15 = .ok (.aload_n 0, 1) := by decide +kernel
theorem dX2_changeMark_16 : decode cX2_changeMark 16 = .ok (.getfield 15, 3) := by decide +kernel
theorem dX2_changeMark_19 : decode cX2_changeMark 19 = .ok (.iload_n 1, 1) := by decide +kernel
theorem dX2_changeMark_20 : decode cX2_changeMark 20 = .ok (.iload_n 3, 1) := by decide +kernel
theorem dX2_changeMark_21 : decode cX2_changeMark 21 = .ok (.iastore, 1) := by decide +kernel
theorem dX2_changeMark_22 : decode cX2_changeMark 22 = .ok (.iload 4, 2) := by decide +kernel
theorem dX2_changeMark_24 : decode cX2_changeMark 24 = .ok (.ireturn, 1) := by decide +kernel
theorem dX2_countOldMarks_0 : decode cX2_countOldMarks 0 = .ok (.iconst 0, 1) := by decide +kernel
theorem dX2_countOldMarks_1 : decode cX2_countOldMarks 1 = .ok (.istore_n 2, 1) := by decide +kernel
theorem dX2_countOldMarks_2 : decode cX2_countOldMarks 2 = .ok (.iconst 0, 1) := by decide +kernel
theorem dX2_countOldMarks_3 : decode cX2_countOldMarks 3 = .ok (.istore_n 3, 1) := by decide +kernel
theorem dX2_countOldMarks_4 : decode cX2_countOldMarks 4 = .ok (.iload_n 3, 1) := by decide +kernel
theorem dX2_countOldMarks_5 : decode cX2_countOldMarks 5 = .ok (.bipush 60, 2) := by decide +kernel
theorem dX2_countOldMarks_7 : decode cX2_countOldMarks 7 = .ok (.if_icmp .ge 36, 3) := by decide +kernel
theorem dX2_countOldMarks_10 : decode cX2_countOldMarks 10 = .ok (.aload_n 0, 1) := by decide +kernel
theorem dX2_countOldMarks_11 : decode cX2_countOldMarks 11 = .ok (.getfield 9, 3) := by decide +kernel
theorem dX2_countOldMarks_14 : decode cX2_countOldMarks 14 = .ok (.iload_n 3, 1) := by decide +kernel
theorem dX2_countOldMarks_15 : decode cX2_countOldMarks 15 = .ok (.iaload, 1) := by decide +kernel
theorem dX2_countOldMarks_16 : decode cX2_countOldMarks 16 = .ok (.ifCond .eq 21, 3) := by decide +kernel
theorem dX2_countOldMarks_19 : decode cX2_countOldMarks 19 = .ok (.aload_n 0, 1) := by decide +kernel
theorem dX2_countOldMarks_20 : decode cX2_countOldMarks 20 = .ok (.getfield 15, 3) := by decide +kernel
theorem dX2_countOldMarks_23 : decode cX2_countOldMarks 23 = .ok (.iload_n 3, 1) := by decide +kernel
theorem dX2_countOldMarks_24 : decode cX2_countOldMarks 24 = .ok (.iaload, 1) := by decide +kernel
theorem dX2_countOldMarks_25 : decode cX2_countOldMarks 25 = .ok (.aload_n 1, 1) := by decide +kernel
theorem dX2_countOldMarks_26 : decode cX2_countOldMarks 26 = .ok (.getfield 24, 3) := by decide +kernel
theorem dX2_countOldMarks_29 : decode cX2_countOldMarks 29 = .ok (.iload_n 3, 1) := by decide +kernel
theorem dX2_countOldMarks_30 : decode cX2_countOldMarks 30 = .ok (.iaload, 1) := by decide +kernel
theorem dX2_countOldMarks_31 : decode cX2_countOldMarks 31 = .ok (.if_icmp .eq 6, 3) := by decide +kernel
theorem dX2_countOldMarks_34 : decode cX2_countOldMarks 34 = .ok (.iinc 2 1, 3) := by decide +kernel
theorem dX2_countOldMarks_37 : decode cX2_countOldMarks 37 = .ok (.iinc 3 1, 3) := by decide +kernel
theorem dX2_countOldMarks_40 : decode cX2_countOldMarks 40 = .ok (.goto (-36), 3) := by decide +kernel
theorem dX2_countOldMarks_43 : decode cX2_countOldMarks 43 = .ok (.iload_n 2, 1) := by decide +kernel
theorem dX2_countOldMarks_44 : decode cX2_countOldMarks 44 = .ok (.ireturn, 1) := by decide +kernel
theorem dX2_bowingAt_0 : decode cX2_bowingAt 0 = .ok (.aload_n 0, 1) := by decide +kernel
theorem dX2_bowingAt_1 : decode cX2_bowingAt 1 = .ok (.getfield 21, 3) := by decide +kernel
theorem dX2_bowingAt_4 : decode cX2_bowingAt 4 = .ok (.iload_n 1, 1) := by decide +kernel
theorem dX2_bowingAt_5 : decode cX2_bowingAt 5 = .ok (.iaload, 1) := by decide +kernel
theorem dX2_bowingAt_6 : decode cX2_bowingAt 6 = .ok (.iload_n 3, 1) := by decide +kernel
theorem dX2_bowingAt_7 : decode cX2_bowingAt 7 = .ok (.if_icmp .ne 18, 3) := by decide +kernel
theorem dX2_bowingAt_10 : decode cX2_bowingAt 10 = .ok (.aload_n 0, 1) := by decide +kernel
theorem dX2_bowingAt_11 : decode cX2_bowingAt 11 = .ok (.getfield 18, 3) := by decide +kernel
theorem dX2_bowingAt_14 : decode cX2_bowingAt 14 = .ok (.iload_n 1, 1) := by decide +kernel
theorem dX2_bowingAt_15 : decode cX2_bowingAt 15 = .ok (.iaload, 1) := by decide +kernel
theorem dX2_bowingAt_16 : decode cX2_bowingAt 16 = .ok (.iconst 2, 1) := by decide +kernel
theorem dX2_bowingAt_17 : decode cX2_bowingAt 17 = .ok (.iload_n 2, 1) := by decide +kernel
theorem dX2_bowingAt_18 : decode cX2_bowingAt 18 = .ok (.imul, 1) := by decide +kernel
theorem dX2_bowingAt_19 : decode cX2_bowingAt 19 = .ok (.ishr, 1) := by decide +kernel
theorem dX2_bowingAt_20 : decode cX2_bowingAt 20 = .ok (.iconst 3, 1) := by decide +kernel
theorem dX2_bowingAt_21 : decode cX2_bowingAt 21 = .ok (.iand, 1) := by decide +kernel
theorem dX2_bowingAt_22 : decode cX2_bowingAt 22 = .ok (.goto 4, 3) := by decide +kernel
theorem dX2_bowingAt_25 : decode cX2_bowingAt 25 = .ok (.iconst 0, 1) := by decide +kernel
theorem dX2_bowingAt_26 : decode cX2_bowingAt 26 = .ok (.ireturn, 1) := by decide +kernel
theorem dX2_changeBowing_0 : decode cX2_changeBowing 0 = .ok (.aload_n 0, 1) := by decide +kernel
theorem dX2_changeBowing_1 : decode cX2_changeBowing 1 = .ok (.iload_n 1, 1) := by decide +kernel
theorem dX2_changeBowing_2 : decode cX2_changeBowing 2 = .ok (.iload_n 2, 1) := by decide +kernel
theorem dX2_changeBowing_3 : decode cX2_changeBowing 3 = .ok (.iload 4, 2) := by decide +kernel
theorem dX2_changeBowing_5 : decode cX2_changeBowing 5 = .ok (.invokevirtual 29, 3) := by decide +kernel
theorem dX2_changeBowing_8 : decode cX2_changeBowing 8 = .ok (.istore 5, 2) := by decide +kernel
theorem dX2_changeBowing_10 : decode cX2_changeBowing 10 = .ok (.aload_n 0, 1) := by decide +kernel
theorem dX2_changeBowing_11 : decode cX2_changeBowing 11 = .ok (.getfield 21, 3) := by decide +kernel
theorem dX2_changeBowing_14 : decode cX2_changeBowing 14 = .ok (.iload_n 1, 1) := by decide +kernel
theorem dX2_changeBowing_15 : decode cX2_changeBowing 15 = .ok (.iaload, 1) := by decide +kernel
theorem dX2_changeBowing_16 : decode cX2_changeBowing 16 = .ok (.iload 4, 2) := by decide +kernel
theorem dX2_changeBowing_18 : decode cX2_changeBowing 18 = .ok (.if_icmp .eq 18, 3) := by decide +kernel
theorem dX2_changeBowing_21 : decode cX2_changeBowing 21 = .ok (.aload_n 0, 1) := by decide +kernel
theorem dX2_changeBowing_22 : decode cX2_changeBowing 22 = .ok (.getfield 21, 3) := by decide +kernel
theorem dX2_changeBowing_25 : decode cX2_changeBowing 25 = .ok (.iload_n 1, 1) := by decide +kernel
theorem dX2_changeBowing_26 : decode cX2_changeBowing 26 = .ok (.iload 4, 2) := by decide +kernel
theorem dX2_changeBowing_28 : decode cX2_changeBowing 28 = .ok (.iastore, 1) := by decide +kernel
theorem dX2_changeBowing_29 : decode cX2_changeBowing 29 = .ok (.aload_n 0, 1) := by decide +kernel
theorem dX2_changeBowing_30 : decode cX2_changeBowing 30 = .ok (.getfield 18, 3) := by decide +kernel
theorem dX2_changeBowing_33 : decode cX2_changeBowing 33 = .ok (.iload_n 1, 1) := by decide +kernel
theorem dX2_changeBowing_34 : decode cX2_changeBowing 34 = .ok (.iconst 0, 1) := by decide +kernel
theorem dX2_changeBowing_35 : decode cX2_changeBowing 35 = .ok (.iastore, 1) := by decide +kernel
theorem dX2_changeBowing_36 : decode cX2_changeBowing 36 = .ok (.aload_n 0, 1) := by decide +kernel
theorem dX2_changeBowing_37 : decode cX2_changeBowing 37 = .ok (.getfield 18, 3) := by decide +kernel
theorem dX2_changeBowing_40 : decode cX2_changeBowing 40 = .ok (.iload_n 1, 1) := by decide +kernel
theorem dX2_changeBowing_41 : decode cX2_changeBowing 41 = .ok (.aload_n 0, 1) := by decide +kernel
theorem dX2_changeBowing_42 : decode cX2_changeBowing 42 = .ok (.getfield 18, 3) := by decide +kernel
theorem dX2_changeBowing_45 : decode cX2_changeBowing 45 = .ok (.iload_n 1, 1) := by decide +kernel
theorem dX2_changeBowing_46 : decode cX2_changeBowing 46 = .ok (.iaload, 1) := by decide +kernel
theorem dX2_changeBowing_47 : decode cX2_changeBowing 47 = .ok (.iconst 3, 1) := by decide +kernel
theorem dX2_changeBowing_48 : decode cX2_changeBowing 48 = .ok (.iconst 2, 1) := by decide +kernel
theorem dX2_changeBowing_49 : decode cX2_changeBowing 49 = .ok (.iload_n 2, 1) := by decide +kernel
theorem dX2_changeBowing_50 : decode cX2_changeBowing 50 = .ok (.imul, 1) := by decide +kernel
theorem dX2_changeBowing_51 : decode cX2_changeBowing 51 = .ok (.ishl, 1) := by decide +kernel
theorem dX2_changeBowing_52 : decode cX2_changeBowing 52 = .ok (.iconst (-1), 1) := by decide +kernel
theorem dX2_changeBowing_53 : decode cX2_changeBowing 53 = .ok (.ixor, 1) := by decide +kernel
theorem dX2_changeBowing_54 : decode cX2_changeBowing 54 = .ok (.iand, 1) := by decide +kernel
theorem dX2_changeBowing_55 : decode cX2_changeBowing 55 = .ok (.iload_n 3, 1) := by decide +kernel
theorem dX2_changeBowing_56 : decode cX2_changeBowing 56 = .ok (.iconst 2, 1) := by decide +kernel
theorem dX2_changeBowing_57 : decode cX2_changeBowing 57 = .ok (.iload_n 2, 1) := by decide +kernel
theorem dX2_changeBowing_58 : decode cX2_changeBowing 58 = .ok (.imul, 1) := by decide +kernel
theorem dX2_changeBowing_59 : decode cX2_changeBowing 59 = .ok (.ishl, 1) := by decide +kernel
theorem dX2_changeBowing_60 : decode cX2_changeBowing 60 = .ok (.ior, 1) := by decide +kernel
theorem dX2_changeBowing_61 : decode cX2_changeBowing 61 = .ok (.iastore, 1) := by decide +kernel
theorem dX2_changeBowing_62 : decode cX2_changeBowing 62 = .ok (.iload 5, 2) := by decide +kernel
theorem dX2_changeBowing_64 : decode cX2_changeBowing 64 = .ok (.ireturn, 1) := by decide +kernel
theorem dX3_init_0 : decode cX3_init 0 = .ok (.aload_n 0, 1) := by decide +kernel
theorem dX3_init_1 : decode cX3_init 1 = .ok (.invokespecial 3, 3) := by decide +kernel
theorem dX3_init_4 : decode cX3_init 4 = .ok (.aload_n 0, 1) := by decide +kernel
theorem dX3_init_5 : decode cX3_init 5 = .ok (.sipush 200, 3) := by decide +kernel
theorem dX3_init_8 : decode cX3_init 8 = .ok (.putfield 9, 3) := by decide +kernel
theorem dX3_init_11 : decode cX3_init 11 = .ok (.aload_n 0, 1) := by decide +kernel
theorem dX3_init_12 : decode cX3_init 12 = .ok (.iconst 3, 1) := by decide +kernel
theorem dX3_init_13 : decode cX3_init 13 = .ok (.putfield 15, 3) := by decide +kernel
theorem dX3_init_16 : decode cX3_init 16 = .ok (.aload_n 0, 1) := by decide +kernel
theorem dX3_init_17 : decode cX3_init 17 = .ok (.bipush 13, 2) := by decide +kernel
theorem dX3_init_19 : decode cX3_init 19 = .ok (.newarray .int, 2) := by decide +kernel
theorem dX3_init_21 : decode cX3_init 21 = .ok (.putfield 18, 3) := by decide +kernel
theorem dX3_init_24 : decode cX3_init 24 = .ok (.aload_n 0, 1) := by decide +kernel
theorem dX3_init_25 : decode cX3_init 25 = .ok (.bipush 13, 2) := by decide +kernel
theorem dX3_init_27 : decode cX3_init 27 = .ok (.bipush 6, 2) := by decide +kernel
theorem dX3_init_29 : decode cX3_init 29 = .ok (.multianewarray 22 2, 4) := by decide +kernel
theorem dX3_init_33 : decode cX3_init 33 = .ok (.putfield 24, 3) := by decide +kernel
theorem dX3_init_36 : decode cX3_init 36 = .ok (.aload_n 0, 1) := by decide +kernel
theorem dX3_init_37 : decode cX3_init 37 = .ok (.bipush 13, 2) := by decide +kernel
theorem dX3_init_39 : decode cX3_init 39 = .ok (.bipush 6, 2) := by decide +kernel
theorem dX3_init_41 : decode cX3_init 41 = .ok (.multianewarray 22 2, 4) := by decide +kernel
theorem dX3_init_45 : decode cX3_init 45 = .ok (.putfield 27, 3) := by decide +kernel
theorem dX3_init_48 : decode cX3_init 48 = .ok (.aload_n 0, 1) := by decide +kernel
theorem dX3_init_49 : decode cX3_init 49 = .ok (.bipush 13, 2) := by decide +kernel
theorem dX3_init_51 : decode cX3_init 51 = .ok (.bipush 6, 2) := by decide +kernel
theorem dX3_init_53 : decode cX3_init 53 = .ok (.multianewarray 22 2, 4) := by decide +kernel
theorem dX3_init_57 : decode cX3_init 57 = .ok (.putfield 30, 3) := by decide +kernel
theorem dX3_init_60 : decode cX3_init 60 = .ok (.aload_n 0, 1) := by decide +kernel
theorem dX3_init_61 : decode cX3_init 61 = .ok (.bipush 13, 2) := by decide +kernel
theorem dX3_init_63 : decode cX3_init 63 = .ok (.newarray .int, 2) := by decide +kernel
theorem dX3_init_65 : decode cX3_init 65 = .ok (.putfield 33, 3) := by decide +kernel
theorem dX3_init_68 : decode cX3_init 68 = .ok (.aload_n 0, 1) := by decide +kernel
theorem dX3_init_69 : decode cX3_init 69 = .ok (.bipush 12, 2) := by decide +kernel
theorem dX3_init_71 : decode cX3_init 71 = .ok (.newarray .int, 2) := by decide +kernel
theorem dX3_init_73 : decode cX3_init 73 = .ok (.putfield 36, 3) := by decide +kernel
theorem dX3_init_76 : decode cX3_init 76 = .ok (.aload_n 0, 1) := by decide +kernel
theorem dX3_init_77 : decode cX3_init 77 = .ok (.aload_n 1, 1) := by decide +kernel
theorem dX3_init_78 : decode cX3_init 78 = .ok (.putfield 39, 3) := by decide +kernel
theorem dX3_init_81 : decode cX3_init 81 = .ok (.return_, 1) := by decide +kernel
theorem dX3_breakLines_0 : decode cX3_breakLines 0 = .ok (.aload_n 0, 1) := by decide +kernel
theorem dX3_breakLines_1 : decode cX3_breakLines 1 = .ok (.invokevirtual 43, 3) := by decide +kernel
theorem dX3_breakLines_4 : decode cX3_breakLines 4 = .ok (.iconst 0, 1) := by decide +kernel
theorem dX3_breakLines_5 : decode cX3_breakLines 5 = .ok (.istore_n 1, 1) := by decide +kernel
theorem dX3_breakLines_6 : decode cX3_breakLines 6 = .ok (.iload_n 1, 1) := by decide +kernel
theorem dX3_breakLines_7 : decode cX3_breakLines 7 = .ok (.aload_n 0, 1) := by decide +kernel
theorem dX3_breakLines_8 : decode cX3_breakLines 8 = .ok (.getfield 15, 3) := by decide +kernel
theorem dX3_breakLines_11 : decode cX3_breakLines 11 = .ok (.if_icmp .ge 39, 3) := by decide +kernel
theorem dX3_breakLines_14 : decode cX3_breakLines 14 = .ok (.aload_n 0, 1) := by decide +kernel
theorem dX3_breakLines_15 : decode cX3_breakLines 15 = .ok (.getfield 24, 3) := by decide +kernel
theorem dX3_breakLines_18 : decode cX3_breakLines 18 = .ok (.aload_n 0, 1) := by decide +kernel
theorem dX3_breakLines_19 : decode cX3_breakLines 19 = .ok (.getfield 39, 3) := by decide +kernel
theorem dX3_breakLines_22 : decode cX3_breakLines 22 = .ok (.getfield 46, 3) := by decide +kernel
theorem dX3_breakLines_25 : decode cX3_breakLines 25 = .ok (.aaload, 1) := by decide +kernel
theorem dX3_breakLines_26 : decode cX3_breakLines 26 = .ok (.iload_n 1, 1) := by decide +kernel
theorem dX3_breakLines_27 : decode cX3_breakLines 27 = .ok (.iconst 0, 1) := by decide +kernel
theorem dX3_breakLines_28 : decode cX3_breakLines 28 = .ok (.iastore, 1) := by decide +kernel
theorem dX3_breakLines_29 : decode cX3_breakLines 29 = .ok (.aload_n 0, 1) := by decide +kernel
theorem dX3_breakLines_30 : decode cX3_breakLines 30 = .ok (.getfield 27, 3) := by decide +kernel
theorem dX3_breakLines_33 : decode cX3_breakLines 33 = .ok (.aload_n 0, 1) := by decide +kernel
theorem dX3_breakLines_34 : decode cX3_breakLines 34 = .ok (.getfield 39, 3) := by decide +kernel
theorem dX3_breakLines_37 : decode cX3_breakLines 37 = .ok (.getfield 46, 3) := by decide +kernel
theorem dX3_breakLines_40 : decode cX3_breakLines 40 = .ok (.aaload, 1) := by decide +kernel
theorem dX3_breakLines_41 : decode cX3_breakLines 41 = .ok (.iload_n 1, 1) := by decide +kernel
theorem dX3_breakLines_42 : decode cX3_breakLines 42 = .ok (.iconst 0, 1) := by decide +kernel
theorem dX3_breakLines_43 : decode cX3_breakLines 43 = .ok (.iastore, 1) := by decide +kernel
theorem dX3_breakLines_44 : decode cX3_breakLines 44 = .ok (.iinc 1 1, 3) := by decide +kernel
theorem dX3_breakLines_47 : decode cX3_breakLines 47 = .ok (.goto (-41), 3) := by decide +kernel
theorem dX3_breakLines_50 : decode cX3_breakLines 50 = .ok (.aload_n 0, 1) := by decide +kernel
theorem dX3_breakLines_51 : decode cX3_breakLines 51 = .ok (.getfield 39, 3) := by decide +kernel
theorem dX3_breakLines_54 : decode cX3_breakLines 54 = .ok (.getfield 46, 3) := by decide +kernel
theorem dX3_breakLines_57 : decode cX3_breakLines 57 = .ok (.iconst 1, 1) := by decide +kernel
theorem dX3_breakLines_58 : decode cX3_breakLines 58 = .ok (.isub, 1) := by decide +kernel
theorem dX3_breakLines_59 : decode cX3_breakLines 59 = .ok (.istore_n 1, 1) := by decide +kernel
theorem dX3_breakLines_60 : decode cX3_breakLines 60 = .ok (.iload_n 1, 1) := by decide +kernel
theorem dX3_breakLines_61 : decode cX3_breakLines 61 = .ok (.ifCond .lt 31, 3) := by decide +kernel
theorem dX3_breakLines_64 : decode cX3_breakLines 64 = .ok (.iconst 0, 1) := by decide +kernel
theorem dX3_breakLines_65 : decode cX3_breakLines 65 = .ok (.istore_n 2, 1) := by decide +kernel
theorem dX3_breakLines_66 : decode cX3_breakLines 66 = .ok (.iload_n 2, 1) := by decide +kernel
theorem dX3_breakLines_67 : decode cX3_breakLines 67 = .ok (.aload_n 0, 1) := by decide +kernel
theorem dX3_breakLines_68 : decode cX3_breakLines 68 = .ok (.getfield 15, 3) := by decide +kernel
theorem dX3_breakLines_71 : decode cX3_breakLines 71 = .ok (.if_icmp .ge 15, 3) := by decide +kernel
theorem dX3_breakLines_74 : decode cX3_breakLines 74 = .ok (.aload_n 0, 1) := by decide +kernel
theorem dX3_breakLines_75 : decode cX3_breakLines 75 = .ok (.iload_n 1, 1) := by decide +kernel
theorem dX3_breakLines_76 : decode cX3_breakLines 76 = .ok (.iload_n 2, 1) := by decide +kernel
theorem dX3_breakLines_77 : decode cX3_breakLines 77 = .ok (.invokevirtual 51, 3) := by decide +kernel
theorem dX3_breakLines_80 : decode cX3_breakLines 80 = .ok (.iinc 2 1, 3) := by decide +kernel
theorem dX3_breakLines_83 : decode cX3_breakLines 83 = .ok (.goto (-17), 3) := by decide +kernel
theorem dX3_breakLines_86 : decode cX3_breakLines 86 = .ok (.iinc 1 (-1), 3) := by decide +kernel
theorem dX3_breakLines_89 : decode cX3_breakLines 89 = .ok (.goto (-29), 3) := by decide +kernel
theorem dX3_breakLines_92 : decode cX3_breakLines 92 = .ok (.aload_n 0, 1) := by decide +kernel
theorem dX3_breakLines_93 : decode cX3_breakLines 93 = .ok (.invokevirtual 55, 3) := by decide +kernel
theorem dX3_breakLines_96 : decode cX3_breakLines 96 = .ok (.return_, 1) := by decide +kernel
theorem dX3_priceTurns_0 : decode cX3_priceTurns 0 = .ok (.aload_n 0, 1) := by decide +kernel
theorem dX3_priceTurns_1 : decode cX3_priceTurns 1 = .ok (.getfield 18, 3) := by decide +kernel
theorem dX3_priceTurns_4 : decode cX3_priceTurns 4 = .ok (.iconst 0, 1) := by decide +kernel
theorem dX3_priceTurns_5 : decode cX3_priceTurns 5 = .ok (.invokestatic 58, 3) := by decide +kernel
theorem dX3_priceTurns_8 : decode cX3_priceTurns 8 = .ok (.aload_n 0, 1) := by decide +kernel
theorem dX3_priceTurns_9 : decode cX3_priceTurns 9 = .ok (.getfield 39, 3) := by decide +kernel
theorem dX3_priceTurns_12 : decode cX3_priceTurns 12 = .ok (.getfield 64, 3) := by decide +kernel
theorem dX3_priceTurns_15 : decode cX3_priceTurns 15 = .ok (.iconst 5, 1) := by decide +kernel
theorem dX3_priceTurns_16 : decode cX3_priceTurns 16 = .ok (.if_icmp .ne 4, 3) := by decide +kernel
theorem dX3_priceTurns_19 : decode cX3_priceTurns 19 = .ok (.return_, 1) := by decide +kernel
theorem dX3_priceTurns_20 : decode cX3_priceTurns 20 = .ok (.iconst 0, 1) := by decide +kernel
theorem dX3_priceTurns_21 : decode cX3_priceTurns 21 = .ok (.istore_n 1, 1) := by decide +kernel
theorem dX3_priceTurns_22 : decode cX3_priceTurns 22 = .ok (.iload_n 1, 1) := by decide +kernel
theorem dX3_priceTurns_23 : decode cX3_priceTurns 23 = .ok (.aload_n 0, 1) := by decide +kernel
theorem dX3_priceTurns_24 : decode cX3_priceTurns 24 = .ok (.getfield 39, 3) := by decide +kernel
theorem dX3_priceTurns_27 : decode cX3_priceTurns 27 = .ok (.getfield 46, 3) := by decide +kernel
theorem dX3_priceTurns_30 : decode cX3_priceTurns 30 = .ok (.if_icmp .ge 53, 3) := by decide +kernel
theorem dX3_priceTurns_33 : decode cX3_priceTurns 33 = .ok (.aload_n 0, 1) := by decide +kernel
theorem dX3_priceTurns_34 : decode cX3_priceTurns 34 = .ok (.getfield 39, 3) := by decide +kernel
theorem dX3_priceTurns_37 : decode cX3_priceTurns 37 = .ok (.getfield 67, 3) := by decide +kernel
theorem dX3_priceTurns_40 : decode cX3_priceTurns 40 = .ok (.aload_n 0, 1) := by decide +kernel
theorem dX3_priceTurns_41 : decode cX3_priceTurns 41 = .ok (.getfield 39, 3) := by decide +kernel
theorem dX3_priceTurns_44 : decode cX3_priceTurns 44 = .ok (.getfield 64, 3) := by decide +kernel
theorem dX3_priceTurns_47 : decode cX3_priceTurns 47 = .ok (.aload_n 0, 1) := by decide +kernel
theorem dX3_priceTurns_48 : decode cX3_priceTurns 48 = .ok (.getfield 39, 3) := by decide +kernel
theorem dX3_priceTurns_51 : decode cX3_priceTurns 51 = .ok (.getfield 71, 3) := by decide +kernel
theorem dX3_priceTurns_54 : decode cX3_priceTurns 54 = .ok (.iload_n 1, 1) := by decide +kernel
theorem dX3_priceTurns_55 : decode cX3_priceTurns 55 = .ok (.iaload, 1) := by decide +kernel
theorem dX3_priceTurns_56 : decode cX3_priceTurns 56 = .ok (.invokevirtual 74, 3) := by decide +kernel
theorem dX3_priceTurns_59 : decode cX3_priceTurns 59 = .ok (.istore_n 2, 1) := by decide +kernel
theorem dX3_priceTurns_60 : decode cX3_priceTurns 60 = .ok (.aload_n 0, 1) := by decide +kernel
theorem dX3_priceTurns_61 : decode cX3_priceTurns 61 = .ok (.getfield 18, 3) := by decide +kernel
theorem dX3_priceTurns_64 : decode cX3_priceTurns 64 = .ok (.iload_n 1, 1) := by decide +kernel
theorem dX3_priceTurns_65 : decode cX3_priceTurns 65 = .ok (.bipush 100, 2) := by decide +kernel
theorem dX3_priceTurns_67 : decode cX3_priceTurns 67 = .ok (.iconst 0, 1) := by decide +kernel
theorem dX3_priceTurns_68 : decode cX3_priceTurns 68 = .ok (.bipush 16, 2) := by decide +kernel
theorem dX3_priceTurns_70 : decode cX3_priceTurns 70 = .ok (.iload_n 2, 1) := by decide +kernel
theorem dX3_priceTurns_71 : decode cX3_priceTurns 71 = .ok (.isub, 1) := by decide +kernel
theorem dX3_priceTurns_72 : decode cX3_priceTurns 72 = .ok (.invokestatic 80, 3) := by decide +kernel
theorem dX3_priceTurns_75 : decode cX3_priceTurns 75 = .ok (.imul, 1) := by decide +kernel
theorem dX3_priceTurns_76 : decode cX3_priceTurns 76 = .ok (.iastore, 1) := by decide +kernel
theorem dX3_priceTurns_77 : decode cX3_priceTurns 77 = .ok (.iinc 1 1, 3) := by decide +kernel
theorem dX3_priceTurns_80 : decode cX3_priceTurns 80 = .ok (.goto (-58), 3) := by decide +kernel
theorem dX3_priceTurns_83 : decode cX3_priceTurns 83 = .ok (.return_, 1) := by decide +kernel
theorem dX3_chooseLine_0 : decode cX3_chooseLine 0 = .ok (.aload_n 0, 1) := by decide +kernel
theorem dX3_chooseLine_1 : decode cX3_chooseLine 1 = .ok (.iload_n 2, 1) := by decide +kernel
theorem dX3_chooseLine_2 : decode cX3_chooseLine 2 = .ok (.invokevirtual 85, 3) := by decide +kernel
theorem dX3_chooseLine_5 : decode cX3_chooseLine 5 = .ok (.istore_n 3, 1) := by decide +kernel
theorem dX3_chooseLine_6 : decode cX3_chooseLine 6 = .ok (.aload_n 0, 1) := by decide +kernel
theorem dX3_chooseLine_7 : decode cX3_chooseLine 7 = .ok (.getfield 24, 3) := by decide +kernel
theorem dX3_chooseLine_10 : decode cX3_chooseLine 10 = .ok (.iload_n 1, 1) := by decide +kernel
theorem dX3_chooseLine_11 : decode cX3_chooseLine 11 = .ok (.aaload, 1) := by decide +kernel
theorem dX3_chooseLine_12 : decode cX3_chooseLine 12 = .ok (.iload_n 2, 1) := by decide +kernel
theorem dX3_chooseLine_13 : decode cX3_chooseLine 13 = .ok (.ldc 89, 2) := by decide +kernel
theorem dX3_chooseLine_15 : decode cX3_chooseLine 15 = .ok (.iastore, 1) := by decide +kernel
theorem dX3_chooseLine_16 : decode cX3_chooseLine 16 = .ok (.aload_n 0, 1) := by decide +kernel
theorem dX3_chooseLine_17 : decode cX3_chooseLine 17 = .ok (.getfield 27, 3) := by decide +kernel
theorem dX3_chooseLine_20 : decode cX3_chooseLine 20 = .ok (.iload_n 1, 1) := by decide +kernel
theorem dX3_chooseLine_21 : decode cX3_chooseLine 21 = .ok (.aaload, 1) := by decide +kernel
theorem dX3_chooseLine_22 : decode cX3_chooseLine 22 = .ok (.iload_n 2, 1) := by decide +kernel
theorem dX3_chooseLine_23 : decode cX3_chooseLine 23 = .ok (.iconst 0, 1) := by decide +kernel
theorem dX3_chooseLine_24 : decode cX3_chooseLine 24 = .ok (.iastore, 1) := by decide +kernel
theorem dX3_chooseLine_25 : decode cX3_chooseLine 25 = .ok (.iload_n 1, 1) := by decide +kernel
theorem dX3_chooseLine_26 : decode cX3_chooseLine 26 = .ok (.iconst 1, 1) := by decide +kernel
theorem dX3_chooseLine_27 : decode cX3_chooseLine 27 = .ok (.iadd, 1) := by decide +kernel
theorem dX3_chooseLine_28 : decode cX3_chooseLine 28 = .ok (.istore 4, 2) := by decide +kernel
theorem dX3_chooseLine_30 : decode cX3_chooseLine 30 = .ok (.iload 4, 2) := by decide +kernel
theorem dX3_chooseLine_32 : decode cX3_chooseLine 32 = .ok (.aload_n 0, 1) := by decide +kernel
theorem dX3_chooseLine_33 : decode cX3_chooseLine 33 = .ok (.getfield 39, 3) := by decide +kernel
theorem dX3_chooseLine_36 : decode cX3_chooseLine 36 = .ok (.getfield 46, 3) := by decide +kernel
theorem dX3_chooseLine_39 : decode cX3_chooseLine 39 = .ok (.if_icmp .gt 131, 3) := by decide +kernel
theorem dX3_chooseLine_42 : decode cX3_chooseLine 42 = .ok (.aload_n 0, 1) := by decide +kernel
theorem dX3_chooseLine_43 : decode cX3_chooseLine 43 = .ok (.iload_n 1, 1) := by decide +kernel
theorem dX3_chooseLine_44 : decode cX3_chooseLine 44 = .ok (.iload 4, 2) := by decide +kernel
theorem dX3_chooseLine_46 : decode cX3_chooseLine 46 = .ok (.invokevirtual 90, 3) := by decide +kernel
theorem dX3_chooseLine_49 : decode cX3_chooseLine 49 = .ok (.ifCond .ne 6, 3) := by decide +kernel
theorem dX3_chooseLine_52 : decode cX3_chooseLine 52 = .ok (.goto 118, 3) := by decide +kernel
theorem dX3_chooseLine_55 : decode cX3_chooseLine 55 = .ok (.aload_n 0, 1) := by decide +kernel
theorem dX3_chooseLine_56 : decode cX3_chooseLine 56 = .ok (.iload_n 1, 1) := by decide +kernel
theorem dX3_chooseLine_57 : decode cX3_chooseLine 57 = .ok (.iload 4, 2) := by decide +kernel
theorem dX3_chooseLine_59 : decode cX3_chooseLine 59 = .ok (.invokevirtual 94, 3) := by decide +kernel
theorem dX3_chooseLine_62 : decode cX3_chooseLine 62 = .ok (.aload_n 0, 1) := by decide +kernel
theorem dX3_chooseLine_63 : decode cX3_chooseLine 63 = .ok (.iload 4, 2) := by decide +kernel
theorem dX3_chooseLine_65 : decode cX3_chooseLine 65 = .ok (.iload_n 3, 1) := by decide +kernel
theorem dX3_chooseLine_66 : decode cX3_chooseLine 66 = .ok (.invokevirtual 97, 3) := by decide +kernel
theorem dX3_chooseLine_69 : decode cX3_chooseLine 69 = .ok (.iadd, 1) := by decide +kernel
theorem dX3_chooseLine_70 : decode cX3_chooseLine 70 = .ok (.aload_n 0, 1) := by decide +kernel
theorem dX3_chooseLine_71 : decode cX3_chooseLine 71 = .ok (.getfield 24, 3) := by decide +kernel
theorem dX3_chooseLine_74 : decode cX3_chooseLine 74 = .ok (.iload 4, 2) := by decide +kernel
theorem dX3_chooseLine_76 : decode cX3_chooseLine 76 = .ok (.aaload, 1) := by decide +kernel
theorem dX3_chooseLine_77 : decode cX3_chooseLine 77 = .ok (.iload_n 3, 1) := by decide +kernel
theorem dX3_chooseLine_78 : decode cX3_chooseLine 78 = .ok (.iaload, 1) := by decide +kernel
theorem dX3_chooseLine_79 : decode cX3_chooseLine 79 = .ok (.iadd, 1) := by decide +kernel
theorem dX3_chooseLine_80 : decode cX3_chooseLine 80 = .ok (.istore 5, 2) := by decide +kernel
theorem dX3_chooseLine_82 : decode cX3_chooseLine 82 = .ok (.iconst 1, 1) := by decide +kernel
theorem dX3_chooseLine_83 : decode cX3_chooseLine 83 = .ok (.aload_n 0, 1) := by decide +kernel
theorem dX3_chooseLine_84 : decode cX3_chooseLine 84 = .ok (.getfield 27, 3) := by decide +kernel
theorem dX3_chooseLine_87 : decode cX3_chooseLine 87 = .ok (.iload 4, 2) := by decide +kernel
theorem dX3_chooseLine_89 : decode cX3_chooseLine 89 = .ok (.aaload, 1) := by decide +kernel
theorem dX3_chooseLine_90 : decode cX3_chooseLine 90 = .ok (.iload_n 3, 1) := by decide +kernel
theorem dX3_chooseLine_91 : decode cX3_chooseLine 91 = .ok (.iaload, 1) := by decide +kernel
theorem dX3_chooseLine_92 : decode cX3_chooseLine 92 = .ok (.iadd, 1) := by decide +kernel
theorem dX3_chooseLine_93 : decode cX3_chooseLine 93 = .ok (.istore 6, 2) := by decide +kernel
theorem dX3_chooseLine_95 : decode cX3_chooseLine 95 = .ok (.iload 5, 2) := by decide +kernel
theorem dX3_chooseLine_97 : decode cX3_chooseLine 97 = .ok (.aload_n 0, 1) := by decide +kernel
theorem dX3_chooseLine_98 : decode cX3_chooseLine 98 = .ok (.getfield 24, 3) := by decide +kernel
theorem dX3_chooseLine_101 : decode cX3_chooseLine 101 = .ok (.iload_n 1, 1) := by decide +kernel
theorem dX3_chooseLine_102 : decode cX3_chooseLine 102 = .ok (.aaload, 1) := by decide +kernel
theorem dX3_chooseLine_103 : decode cX3_chooseLine 103 = .ok (.iload_n 2, 1) := by decide +kernel
theorem dX3_chooseLine_104 : decode cX3_chooseLine 104 = .ok (.iaload, 1) := by decide +kernel
theorem dX3_chooseLine_105 : decode cX3_chooseLine 105 = .ok (.if_icmp .lt 29, 3) := by decide +kernel
theorem dX3_chooseLine_108 : decode cX3_chooseLine 108 = .ok (.iload 5, 2) := by decide +kernel
theorem dX3_chooseLine_110 : decode cX3_chooseLine 110 = .ok (.aload_n 0, 1) := by decide +kernel
theorem dX3_chooseLine_111 : decode cX3_chooseLine 111 = .ok (.getfield 24, 3) := by decide +kernel
theorem dX3_chooseLine_114 : decode cX3_chooseLine 114 = .ok (.iload_n 1, 1) := by decide +kernel
theorem dX3_chooseLine_115 : decode cX3_chooseLine 115 = .ok (.aaload, 1) := by decide +kernel
theorem dX3_chooseLine_116 : decode cX3_chooseLine 116 = .ok (.iload_n 2, 1) := by decide +kernel
theorem dX3_chooseLine_117 : decode cX3_chooseLine 117 = .ok (.iaload, 1) := by decide +kernel
theorem dX3_chooseLine_118 : decode cX3_chooseLine 118 = .ok (.if_icmp .ne 46, 3) := by decide +kernel
theorem dX3_chooseLine_121 : decode cX3_chooseLine 121 = .ok (.iload 6, 2) := by decide +kernel
theorem dX3_chooseLine_123 : decode cX3_chooseLine 123 = .ok (.aload_n 0, 1) := by decide +kernel
theorem dX3_chooseLine_124 : decode cX3_chooseLine 124 = .ok (.getfield 27, 3) := by decide +kernel
theorem dX3_chooseLine_127 : decode cX3_chooseLine 127 = .ok (.iload_n 1, 1) := by decide +kernel
theorem dX3_chooseLine_128 : decode cX3_chooseLine 128 = .ok (.aaload, 1) := by decide +kernel
theorem dX3_chooseLine_129 : decode cX3_chooseLine 129 = .ok (.iload_n 2, 1) := by decide +kernel
theorem dX3_chooseLine_130 : decode cX3_chooseLine 130 = .ok (.iaload, 1) := by decide +kernel
theorem dX3_chooseLine_131 : decode cX3_chooseLine 131 = .ok (.if_icmp .ge 33, 3) := by decide +kernel
theorem dX3_chooseLine_134 : decode cX3_chooseLine 134 = .ok (.aload_n 0, 1) := by decide +kernel
theorem dX3_chooseLine_135 : decode cX3_chooseLine 135 = .ok (.getfield 24, 3) := by decide +kernel
theorem dX3_chooseLine_138 : decode cX3_chooseLine 138 = .ok (.iload_n 1, 1) := by decide +kernel
theorem dX3_chooseLine_139 : decode cX3_chooseLine 139 = .ok (.aaload, 1) := by decide +kernel
theorem dX3_chooseLine_140 : decode cX3_chooseLine 140 = .ok (.iload_n 2, 1) := by decide +kernel
theorem dX3_chooseLine_141 : decode cX3_chooseLine 141 = .ok (.iload 5, 2) := by decide +kernel
theorem dX3_chooseLine_143 : decode cX3_chooseLine 143 = .ok (.iastore, 1) := by decide +kernel
theorem dX3_chooseLine_144 : decode cX3_chooseLine 144 = .ok (.aload_n 0, 1) := by decide +kernel
theorem dX3_chooseLine_145 : decode cX3_chooseLine 145 = .ok (.getfield 27, 3) := by decide +kernel
theorem dX3_chooseLine_148 : decode cX3_chooseLine 148 = .ok (.iload_n 1, 1) := by decide +kernel
theorem dX3_chooseLine_149 : decode cX3_chooseLine 149 = .ok (.aaload, 1) := by decide +kernel
theorem dX3_chooseLine_150 : decode cX3_chooseLine 150 = .ok (.iload_n 2, 1) := by decide +kernel
theorem dX3_chooseLine_151 : decode cX3_chooseLine 151 = .ok (.iload 6, 2) := by decide +kernel
theorem dX3_chooseLine_153 : decode cX3_chooseLine 153 = .ok (.iastore, 1) := by decide +kernel
theorem dX3_chooseLine_154 : decode cX3_chooseLine 154 = .ok (.aload_n 0, 1) := by decide +kernel
theorem dX3_chooseLine_155 : decode cX3_chooseLine 155 = .ok (.getfield 30, 3) := by decide +kernel
theorem dX3_chooseLine_158 : decode cX3_chooseLine 158 = .ok (.iload_n 1, 1) := by decide +kernel
theorem dX3_chooseLine_159 : decode cX3_chooseLine 159 = .ok (.aaload, 1) := by decide +kernel
theorem dX3_chooseLine_160 : decode cX3_chooseLine 160 = .ok (.iload_n 2, 1) := by decide +kernel
theorem dX3_chooseLine_161 : decode cX3_chooseLine 161 = .ok (.iload 4, 2) := by decide +kernel
theorem dX3_chooseLine_163 : decode cX3_chooseLine 163 = .ok (.iastore, 1) := by decide +kernel
theorem dX3_chooseLine_164 : decode cX3_chooseLine 164 = .ok (.iinc 4 1, 3) := by decide +kernel
theorem dX3_chooseLine_167 : decode cX3_chooseLine 167 = .ok (.goto (-137), 3) := by decide +kernel
theorem dX3_chooseLine_170 : decode cX3_chooseLine 170 = .ok (.return_, 1) := by decide +kernel
theorem dX3_setLines_0 : decode cX3_setLines 0 = .ok (.aload_n 0, 1) := by decide +kernel
theorem dX3_setLines_1 : decode cX3_setLines 1 = .ok (.aload_n 0, 1) := by decide +kernel
theorem dX3_setLines_2 : decode cX3_setLines 2 = .ok (.getfield 27, 3) := by decide +kernel
theorem dX3_setLines_5 : decode cX3_setLines 5 = .ok (.iconst 0, 1) := by decide +kernel
theorem dX3_setLines_6 : decode cX3_setLines 6 = .ok (.aaload, 1) := by decide +kernel
theorem dX3_setLines_7 : decode cX3_setLines 7 = .ok (.iconst 0, 1) := by decide +kernel
theorem dX3_setLines_8 : decode cX3_setLines 8 = .ok (.iaload, 1) := by decide +kernel
theorem dX3_setLines_9 : decode cX3_setLines 9 = .ok (.putfield 100, 3) := by decide +kernel
theorem dX3_setLines_12 : decode cX3_setLines 12 = .ok (.aload_n 0, 1) := by decide +kernel
theorem dX3_setLines_13 : decode cX3_setLines 13 = .ok (.iconst 0, 1) := by decide +kernel
theorem dX3_setLines_14 : decode cX3_setLines 14 = .ok (.putfield 103, 3) := by decide +kernel
theorem dX3_setLines_17 : decode cX3_setLines 17 = .ok (.iconst 0, 1) := by decide +kernel
theorem dX3_setLines_18 : decode cX3_setLines 18 = .ok (.istore_n 1, 1) := by decide +kernel
theorem dX3_setLines_19 : decode cX3_setLines 19 = .ok (.iconst 0, 1) := by decide +kernel
theorem dX3_setLines_20 : decode cX3_setLines 20 = .ok (.istore_n 2, 1) := by decide +kernel
theorem dX3_setLines_21 : decode cX3_setLines 21 = .ok (.iconst 0, 1) := by decide +kernel
theorem dX3_setLines_22 : decode cX3_setLines 22 = .ok (.istore_n 3, 1) := by decide +kernel
theorem dX3_setLines_23 : decode cX3_setLines 23 = .ok (.iload_n 3, 1) := by decide +kernel
theorem dX3_setLines_24 : decode cX3_setLines 24 = .ok (.aload_n 0, 1) := by decide +kernel
theorem dX3_setLines_25 : decode cX3_setLines 25 = .ok (.getfield 100, 3) := by decide +kernel
theorem dX3_setLines_28 : decode cX3_setLines 28 = .ok (.if_icmp .ge 75, 3) := by decide +kernel
theorem dX3_setLines_31 : decode cX3_setLines 31 = .ok (.aload_n 0, 1) := by decide +kernel
theorem dX3_setLines_32 : decode cX3_setLines 32 = .ok (.getfield 33, 3) := by decide +kernel
theorem dX3_setLines_35 : decode cX3_setLines 35 = .ok (.iload_n 3, 1) := by decide +kernel
theorem dX3_setLines_36 : decode cX3_setLines 36 = .ok (.iload_n 1, 1) := by decide +kernel
theorem dX3_setLines_37 : decode cX3_setLines 37 = .ok (.iastore, 1) := by decide +kernel
theorem dX3_setLines_38 : decode cX3_setLines 38 = .ok (.aload_n 0, 1) := by decide +kernel
theorem dX3_setLines_39 : decode cX3_setLines 39 = .ok (.getfield 30, 3) := by decide +kernel
theorem dX3_setLines_42 : decode cX3_setLines 42 = .ok (.iload_n 1, 1) := by decide +kernel
theorem dX3_setLines_43 : decode cX3_setLines 43 = .ok (.aaload, 1) := by decide +kernel
theorem dX3_setLines_44 : decode cX3_setLines 44 = .ok (.iload_n 2, 1) := by decide +kernel
theorem dX3_setLines_45 : decode cX3_setLines 45 = .ok (.iaload, 1) := by decide +kernel
theorem dX3_setLines_46 : decode cX3_setLines 46 = .ok (.istore 4, 2) := by decide +kernel
theorem dX3_setLines_48 : decode cX3_setLines 48 = .ok (.iload_n 1, 1) := by decide +kernel
theorem dX3_setLines_49 : decode cX3_setLines 49 = .ok (.istore 5, 2) := by decide +kernel
theorem dX3_setLines_51 : decode cX3_setLines 51 = .ok (.iload 5, 2) := by decide +kernel
theorem dX3_setLines_53 : decode cX3_setLines 53 = .ok (.iload 4, 2) := by decide +kernel
theorem dX3_setLines_55 : decode cX3_setLines 55 = .ok (.if_icmp .ge 17, 3) := by decide +kernel
theorem dX3_setLines_58 : decode cX3_setLines 58 = .ok (.aload_n 0, 1) := by decide +kernel
theorem dX3_setLines_59 : decode cX3_setLines 59 = .ok (.getfield 36, 3) := by decide +kernel
theorem dX3_setLines_62 : decode cX3_setLines 62 = .ok (.iload 5, 2) := by decide +kernel
theorem dX3_setLines_64 : decode cX3_setLines 64 = .ok (.iload_n 3, 1) := by decide +kernel
theorem dX3_setLines_65 : decode cX3_setLines 65 = .ok (.iastore, 1) := by decide +kernel
theorem dX3_setLines_66 : decode cX3_setLines 66 = .ok (.iinc 5 1, 3) := by decide +kernel
theorem dX3_setLines_69 : decode cX3_setLines 69 = .ok (.goto (-18), 3) := by decide +kernel
theorem dX3_setLines_72 : decode cX3_setLines 72 = .ok (.aload_n 0, 1) := by decide +kernel
theorem dX3_setLines_73 : decode cX3_setLines 73 = .ok (.iload_n 2, 1) := by decide +kernel
theorem dX3_setLines_74 : decode cX3_setLines 74 = .ok (.invokevirtual 85, 3) := by decide +kernel
theorem dX3_setLines_77 : decode cX3_setLines 77 = .ok (.istore_n 2, 1) := by decide +kernel
theorem dX3_setLines_78 : decode cX3_setLines 78 = .ok (.aload_n 0, 1) := by decide +kernel
theorem dX3_setLines_79 : decode cX3_setLines 79 = .ok (.dup, 1) := by decide +kernel
theorem dX3_setLines_80 : decode cX3_setLines 80 = .ok (.getfield 103, 3) := by decide +kernel
theorem dX3_setLines_83 : decode cX3_setLines 83 = .ok (.aload_n 0, 1) := by decide +kernel
theorem dX3_setLines_84 : decode cX3_setLines 84 = .ok (.iload 4, 2) := by decide +kernel
theorem dX3_setLines_86 : decode cX3_setLines 86 = .ok (.iload_n 2, 1) := by decide +kernel
theorem dX3_setLines_87 : decode cX3_setLines 87 = .ok (.invokevirtual 97, 3) := by decide +kernel
theorem dX3_setLines_90 : decode cX3_setLines 90 = .ok (.iadd, 1) := by decide +kernel
theorem dX3_setLines_91 : decode cX3_setLines 91 = .ok (.putfield 103, 3) := by decide +kernel
theorem dX3_setLines_94 : decode cX3_setLines 94 = .ok (.iload 4, 2) := by decide +kernel
theorem dX3_setLines_96 : decode cX3_setLines 96 = .ok (.istore_n 1, 1) := by decide +kernel
theorem dX3_setLines_97 : decode cX3_setLines 97 = .ok (.iinc 3 1, 3) := by decide +kernel
theorem dX3_setLines_100 : decode cX3_setLines 100 = .ok (.goto (-77), 3) := by decide +kernel
theorem dX3_setLines_103 : decode cX3_setLines 103 = .ok (.aload_n 0, 1) := by decide +kernel
theorem dX3_setLines_104 : decode cX3_setLines 104 = .ok (.getfield 33, 3) := by decide +kernel
theorem dX3_setLines_107 : decode cX3_setLines 107 = .ok (.aload_n 0, 1) := by decide +kernel
theorem dX3_setLines_108 : decode cX3_setLines 108 = .ok (.getfield 100, 3) := by decide +kernel
theorem dX3_setLines_111 : decode cX3_setLines 111 = .ok (.iload_n 1, 1) := by decide +kernel
theorem dX3_setLines_112 : decode cX3_setLines 112 = .ok (.iastore, 1) := by decide +kernel
theorem dX3_setLines_113 : decode cX3_setLines 113 = .ok (.return_, 1) := by decide +kernel
theorem dX3_nextOnPage_0 : decode cX3_nextOnPage 0 = .ok (.iload_n 1, 1) := by decide +kernel
theorem dX3_nextOnPage_1 : decode cX3_nextOnPage 1 = .ok (.iconst 1, 1) := by decide +kernel
theorem dX3_nextOnPage_2 : decode cX3_nextOnPage 2 = .ok (.iadd, 1) := by decide +kernel
theorem dX3_nextOnPage_3 : decode cX3_nextOnPage 3 = .ok (.aload_n 0, 1) := by decide +kernel
theorem dX3_nextOnPage_4 : decode cX3_nextOnPage 4 = .ok (.getfield 15, 3) := by decide +kernel
theorem dX3_nextOnPage_7 : decode cX3_nextOnPage 7 = .ok (.if_icmp .ge 9, 3) := by decide +kernel
theorem dX3_nextOnPage_10 : decode cX3_nextOnPage 10 = .ok (.iload_n 1, 1) := by decide +kernel
theorem dX3_nextOnPage_11 : decode cX3_nextOnPage 11 = .ok (.iconst 1, 1) := by decide +kernel
theorem dX3_nextOnPage_12 : decode cX3_nextOnPage 12 = .ok (.iadd, 1) := by decide +kernel
theorem dX3_nextOnPage_13 : decode cX3_nextOnPage 13 = .ok (.goto 4, 3) := by decide +kernel
theorem dX3_nextOnPage_16 : decode cX3_nextOnPage 16 = .ok (.iconst 0, 1) := by decide +kernel
theorem dX3_nextOnPage_17 : decode cX3_nextOnPage 17 = .ok (.ireturn, 1) := by decide +kernel
theorem dX3_mayBeLine_0 : decode cX3_mayBeLine 0 = .ok (.iload_n 2, 1) := by decide +kernel
theorem dX3_mayBeLine_1 : decode cX3_mayBeLine 1 = .ok (.iload_n 1, 1) := by decide +kernel
theorem dX3_mayBeLine_2 : decode cX3_mayBeLine 2 = .ok (.isub, 1) := by decide +kernel
theorem dX3_mayBeLine_3 : decode cX3_mayBeLine 3 = .ok (.iconst 1, 1) := by decide +kernel
theorem dX3_mayBeLine_4 : decode cX3_mayBeLine 4 = .ok (.if_icmp .eq 19, 3) := by decide +kernel
theorem dX3_mayBeLine_7 : decode cX3_mayBeLine 7 = .ok (.aload_n 0, 1) := by decide +kernel
theorem dX3_mayBeLine_8 : decode cX3_mayBeLine 8 = .ok (.getfield 39, 3) := by decide +kernel
theorem dX3_mayBeLine_11 : decode cX3_mayBeLine 11 = .ok (.iload_n 1, 1) := by decide +kernel
theorem dX3_mayBeLine_12 : decode cX3_mayBeLine 12 = .ok (.iload_n 2, 1) := by decide +kernel
theorem dX3_mayBeLine_13 : decode cX3_mayBeLine 13 = .ok (.invokevirtual 106, 3) := by decide +kernel
theorem dX3_mayBeLine_16 : decode cX3_mayBeLine 16 = .ok (.aload_n 0, 1) := by decide +kernel
theorem dX3_mayBeLine_17 : decode cX3_mayBeLine 17 = .ok (.getfield 9, 3) := by decide +kernel
theorem dX3_mayBeLine_20 : decode cX3_mayBeLine 20 = .ok (.if_icmp .gt 7, 3) := by decide +kernel
theorem dX3_mayBeLine_23 : decode cX3_mayBeLine 23 = .ok (.iconst 1, 1) := by decide +kernel
theorem dX3_mayBeLine_24 : decode cX3_mayBeLine 24 = .ok (.goto 4, 3) := by decide +kernel
theorem dX3_mayBeLine_27 : decode cX3_mayBeLine 27 = .ok (.iconst 0, 1) := by decide +kernel
theorem dX3_mayBeLine_28 : decode cX3_mayBeLine 28 = .ok (.ireturn, 1) := by decide +kernel
theorem dX3_badness_0 : decode cX3_badness 0 = .ok (.aload_n 0, 1) := by decide +kernel
theorem dX3_badness_1 : decode cX3_badness 1 = .ok (.getfield 39, 3) := by decide +kernel
theorem dX3_badness_4 : decode cX3_badness 4 = .ok (.iload_n 1, 1) := by decide +kernel
theorem dX3_badness_5 : decode cX3_badness 5 = .ok (.iload_n 2, 1) := by decide +kernel
theorem dX3_badness_6 : decode cX3_badness 6 = .ok (.invokevirtual 109, 3) := by decide +kernel
theorem dX3_badness_9 : decode cX3_badness 9 = .ok (.aload_n 0, 1) := by decide +kernel
theorem dX3_badness_10 : decode cX3_badness 10 = .ok (.getfield 9, 3) := by decide +kernel
theorem dX3_badness_13 : decode cX3_badness 13 = .ok (.isub, 1) := by decide +kernel
theorem dX3_badness_14 : decode cX3_badness 14 = .ok (.istore_n 3, 1) := by decide +kernel
theorem dX3_badness_15 : decode cX3_badness 15 = .ok (.iload_n 3, 1) := by decide +kernel
theorem dX3_badness_16 : decode cX3_badness 16 = .ok (.ifCond .le 11, 3) := by decide +kernel
theorem dX3_badness_19 : decode cX3_badness 19 = .ok (.iconst 2, 1) := by decide +kernel
theorem dX3_badness_20 : decode cX3_badness 20 = .ok (.iload_n 3, 1) := by decide +kernel
theorem dX3_badness_21 : decode cX3_badness 21 = .ok (.imul, 1) := by decide +kernel
theorem dX3_badness_22 : decode cX3_badness 22 = .ok (.iconst 2, 1) := by decide +kernel
theorem dX3_badness_23 : decode cX3_badness 23 = .ok (.imul, 1) := by decide +kernel
theorem dX3_badness_24 : decode cX3_badness 24 = .ok (.iload_n 3, 1) := by decide +kernel
theorem dX3_badness_25 : decode cX3_badness 25 = .ok (.imul, 1) := by decide +kernel
theorem dX3_badness_26 : decode cX3_badness 26 = .ok (.ireturn, 1) := by decide +kernel
theorem dX3_badness_27 : decode cX3_badness 27 = .ok (.iload_n 2, 1) := by decide +kernel
theorem dX3_badness_28 : decode cX3_badness 28 = .ok (.aload_n 0, 1) := by decide +kernel
theorem dX3_badness_29 : decode cX3_badness 29 = .ok (.getfield 39, 3) := by decide +kernel
theorem dX3_badness_32 : decode cX3_badness 32 = .ok (.getfield 46, 3) := by decide +kernel
theorem dX3_badness_35 : decode cX3_badness 35 = .ok (.if_icmp .ne 7, 3) := by decide +kernel
theorem dX3_badness_38 : decode cX3_badness 38 = .ok (.iconst 0, 1) := by decide +kernel
theorem dX3_badness_39 : decode cX3_badness 39 = .ok (.goto 6, 3) := by decide +kernel
theorem dX3_badness_42 : decode cX3_badness 42 = .ok (.iload_n 3, 1) := by decide +kernel
theorem dX3_badness_43 : decode cX3_badness 43 = .ok (.iload_n 3, 1) := by decide +kernel
theorem dX3_badness_44 : decode cX3_badness 44 = .ok (.imul, 1) := by decide +kernel
theorem dX3_badness_45 : decode cX3_badness 45 = .ok (.ireturn, 1) := by decide +kernel
theorem dX3_turnAhead_0 : decode cX3_turnAhead 0 = .ok (.iload_n 2, 1) := by decide +kernel
theorem dX3_turnAhead_1 : decode cX3_turnAhead 1 = .ok (.ifCond .ne 12, 3) := by decide +kernel
theorem dX3_turnAhead_4 : decode cX3_turnAhead 4 = .ok (.aload_n 0, 1) := by decide +kernel
theorem dX3_turnAhead_5 : decode cX3_turnAhead 5 = .ok (.getfield 18, 3) := by decide +kernel
theorem dX3_turnAhead_8 : decode cX3_turnAhead 8 = .ok (.iload_n 1, 1) := by decide +kernel
theorem dX3_turnAhead_9 : decode cX3_turnAhead 9 = .ok (.iaload, 1) := by decide +kernel
theorem dX3_turnAhead_10 : decode cX3_turnAhead 10 = .ok (.goto 4, 3) := by decide +kernel
theorem dX3_turnAhead_13 : decode cX3_turnAhead 13 = .ok (.iconst 0, 1) := by decide +kernel
theorem dX3_turnAhead_14 : decode cX3_turnAhead 14 = .ok (.ireturn, 1) := by decide +kernel
theorem dX3_leastCost_0 : decode cX3_leastCost 0 = .ok (.aload_n 0, 1) := by decide +kernel
theorem dX3_leastCost_1 : decode cX3_leastCost 1 = .ok (.getfield 24, 3) := by decide +kernel
theorem dX3_leastCost_4 : decode cX3_leastCost 4 = .ok (.iconst 0, 1) := by decide +kernel
theorem dX3_leastCost_5 : decode cX3_leastCost 5 = .ok (.aaload, 1) := by decide +kernel
theorem dX3_leastCost_6 : decode cX3_leastCost 6 = .ok (.iconst 0, 1) := by decide +kernel
theorem dX3_leastCost_7 : decode cX3_leastCost 7 = .ok (.iaload, 1) := by decide +kernel
theorem dX3_leastCost_8 : decode cX3_leastCost 8 = .ok (.ireturn, 1) := by decide +kernel
theorem dX3_leastByTrying_0 : decode cX3_leastByTrying 0 = .ok (.aload_n 0, 1) := by decide +kernel
theorem dX3_leastByTrying_1 : decode cX3_leastByTrying 1 = .ok (.invokevirtual 43, 3) := by decide +kernel
theorem dX3_leastByTrying_4 : decode cX3_leastByTrying 4 = .ok (.aload_n 0, 1) := by decide +kernel
theorem dX3_leastByTrying_5 : decode cX3_leastByTrying 5 = .ok (.iconst 0, 1) := by decide +kernel
theorem dX3_leastByTrying_6 : decode cX3_leastByTrying 6 = .ok (.iconst 0, 1) := by decide +kernel
theorem dX3_leastByTrying_7 : decode cX3_leastByTrying 7 = .ok (.iconst 0, 1) := by decide +kernel
theorem dX3_leastByTrying_8 : decode cX3_leastByTrying 8 = .ok (.invokevirtual 112, 3) := by decide +kernel
theorem dX3_leastByTrying_11 : decode cX3_leastByTrying 11 = .ok (.ireturn, 1) := by decide +kernel
theorem dX3_leastOfAllWays_0 : decode cX3_leastOfAllWays 0 = .ok (.iload_n 1, 1) := by decide +kernel
theorem dX3_leastOfAllWays_1 : decode cX3_leastOfAllWays 1 = .ok (.aload_n 0, 1) := by decide +kernel
theorem dX3_leastOfAllWays_2 : decode cX3_leastOfAllWays 2 = .ok (.getfield 39, 3) := by decide +kernel
theorem dX3_leastOfAllWays_5 : decode cX3_leastOfAllWays 5 = .ok (.getfield 46, 3) := by decide +kernel
theorem dX3_leastOfAllWays_8 : decode cX3_leastOfAllWays 8 = .ok (.if_icmp .ge 9, 3) := by decide +kernel
theorem dX3_leastOfAllWays_11 : decode cX3_leastOfAllWays 11 = .ok (.iload_n 3, 1) := by decide +kernel
theorem dX3_leastOfAllWays_12 : decode cX3_leastOfAllWays 12 = .ok (.bipush 12, 2) := by decide +kernel
theorem dX3_leastOfAllWays_14 : decode cX3_leastOfAllWays 14 = .ok (.if_icmp .lt 5, 3) := by decide +kernel
theorem dX3_leastOfAllWays_17 : decode cX3_leastOfAllWays 17 = .ok (.iconst 0, 1) := by decide +kernel
theorem dX3_leastOfAllWays_18 : decode cX3_leastOfAllWays 18 = .ok (.ireturn, 1) := by decide +kernel
theorem dX3_leastOfAllWays_19 : decode cX3_leastOfAllWays 19 = .ok (.aload_n 0, 1) := by decide +kernel
theorem dX3_leastOfAllWays_20 : decode cX3_leastOfAllWays 20 = .ok (.iload_n 2, 1) := by decide +kernel
theorem dX3_leastOfAllWays_21 : decode cX3_leastOfAllWays 21 = .ok (.invokevirtual 85, 3) := by decide +kernel
theorem dX3_leastOfAllWays_24 : decode cX3_leastOfAllWays 24 = .ok (.istore 4, 2) := by decide +kernel
theorem dX3_leastOfAllWays_26 : decode cX3_leastOfAllWays 26 = .ok (.ldc 89, 2) := by decide +kernel
theorem dX3_leastOfAllWays_28 : decode cX3_leastOfAllWays 28 = .ok (.istore 5, 2) := by decide +kernel
theorem dX3_leastOfAllWays_30 : decode cX3_leastOfAllWays 30 = .ok (.iload_n 1, 1) := by decide +kernel
theorem dX3_leastOfAllWays_31 : decode cX3_leastOfAllWays 31 = .ok (.iconst 1, 1) := by decide +kernel
theorem dX3_leastOfAllWays_32 : decode cX3_leastOfAllWays 32 = .ok (.iadd, 1) := by decide +kernel
theorem dX3_leastOfAllWays_33 : decode cX3_leastOfAllWays 33 = .ok (.istore 6, 2) := by decide +kernel
theorem dX3_leastOfAllWays_35 : decode cX3_leastOfAllWays 35 = .ok (.iload 6, 2) := by decide +kernel
theorem dX3_leastOfAllWays_37 : decode cX3_leastOfAllWays 37 = .ok (.aload_n 0, 1) := by decide +kernel
theorem dX3_leastOfAllWays_38 : decode cX3_leastOfAllWays 38 = .ok (.getfield 39, 3) := by decide +kernel
theorem dX3_leastOfAllWays_41 : decode cX3_leastOfAllWays 41 = .ok (.getfield 46, 3) := by decide +kernel
theorem dX3_leastOfAllWays_44 : decode cX3_leastOfAllWays 44 = .ok (.if_icmp .gt 58, 3) := by decide +kernel
theorem dX3_leastOfAllWays_47 : decode cX3_leastOfAllWays 47 = .ok (.aload_n 0, 1) := by decide +kernel
theorem dX3_leastOfAllWays_48 : decode cX3_leastOfAllWays 48 = .ok (.iload_n 1, 1) := by decide +kernel
theorem dX3_leastOfAllWays_49 : decode cX3_leastOfAllWays 49 = .ok (.iload 6, 2) := by decide +kernel
theorem dX3_leastOfAllWays_51 : decode cX3_leastOfAllWays 51 = .ok (.invokevirtual 90, 3) := by decide +kernel
theorem dX3_leastOfAllWays_54 : decode cX3_leastOfAllWays 54 = .ok (.ifCond .eq 42, 3) := by decide +kernel
theorem dX3_leastOfAllWays_57 : decode cX3_leastOfAllWays 57 = .ok (.aload_n 0, 1) := by decide +kernel
theorem dX3_leastOfAllWays_58 : decode cX3_leastOfAllWays 58 = .ok (.iload_n 1, 1) := by decide +kernel
theorem dX3_leastOfAllWays_59 : decode cX3_leastOfAllWays 59 = .ok (.iload 6, 2) := by decide +kernel
theorem dX3_leastOfAllWays_61 : decode cX3_leastOfAllWays 61 = .ok (.invokevirtual 94, 3) := by decide +kernel
theorem dX3_leastOfAllWays_64 : decode cX3_leastOfAllWays 64 = .ok (.aload_n 0, 1) := by decide +kernel
theorem dX3_leastOfAllWays_65 : decode cX3_leastOfAllWays 65 = .ok (.iload 6, 2) := by decide +kernel
theorem dX3_leastOfAllWays_67 : decode cX3_leastOfAllWays 67 = .ok (.iload 4, 2) := by decide +kernel
theorem dX3_leastOfAllWays_69 : decode cX3_leastOfAllWays 69 = .ok (.invokevirtual 97, 3) := by decide +kernel
theorem dX3_leastOfAllWays_72 : decode cX3_leastOfAllWays 72 = .ok (.iadd, 1) := by decide +kernel
theorem dX3_leastOfAllWays_73 : decode cX3_leastOfAllWays 73 = .ok (.istore 7, 2) := by decide +kernel
theorem dX3_leastOfAllWays_75 : decode cX3_leastOfAllWays 75 = .ok (.iload 5, 2) := by decide +kernel
theorem dX3_leastOfAllWays_77 : decode cX3_leastOfAllWays 77 = .ok (.iload 7, 2) := by decide +kernel
theorem dX3_leastOfAllWays_79 : decode cX3_leastOfAllWays 79 = .ok (.aload_n 0, 1) := by decide +kernel
theorem dX3_leastOfAllWays_80 : decode cX3_leastOfAllWays 80 = .ok (.iload 6, 2) := by decide +kernel
theorem dX3_leastOfAllWays_82 : decode cX3_leastOfAllWays 82 = .ok (.iload 4, 2) := by decide +kernel
theorem dX3_leastOfAllWays_84 : decode cX3_leastOfAllWays 84 = .ok (.iload_n 3, 1) := by decide +kernel
theorem dX3_leastOfAllWays_85 : decode cX3_leastOfAllWays 85 = .ok (.iconst 1, 1) := by decide +kernel
theorem dX3_leastOfAllWays_86 : decode cX3_leastOfAllWays 86 = .ok (.iadd, 1) := by decide +kernel
theorem dX3_leastOfAllWays_87 : decode cX3_leastOfAllWays 87 = .ok (.invokevirtual 112, 3) := by decide +kernel
theorem dX3_leastOfAllWays_90 : decode cX3_leastOfAllWays 90 = .ok (.iadd, 1) := by decide +kernel
theorem dX3_leastOfAllWays_91 : decode cX3_leastOfAllWays 91 = .ok (.invokestatic 116, 3) := by decide +kernel
theorem dX3_leastOfAllWays_94 : decode cX3_leastOfAllWays 94 = .ok (.istore 5, 2) := by decide +kernel
theorem dX3_leastOfAllWays_96 : decode cX3_leastOfAllWays 96 = .ok (.iinc 6 1, 3) := by decide +kernel
theorem dX3_leastOfAllWays_99 : decode cX3_leastOfAllWays 99 = .ok (.goto (-64), 3) := by decide +kernel
theorem dX3_leastOfAllWays_102 : decode cX3_leastOfAllWays 102 = .ok (.iload 5, 2) := by decide +kernel
theorem dX3_leastOfAllWays_104 : decode cX3_leastOfAllWays 104 = .ok (.ireturn, 1) := by decide +kernel
theorem dX3_springAt_0 : decode cX3_springAt 0 = .ok (.aload_n 0, 1) := by decide +kernel
theorem dX3_springAt_1 : decode cX3_springAt 1 = .ok (.getfield 36, 3) := by decide +kernel
theorem dX3_springAt_4 : decode cX3_springAt 4 = .ok (.iload_n 1, 1) := by decide +kernel
theorem dX3_springAt_5 : decode cX3_springAt 5 = .ok (.iaload, 1) := by decide +kernel
theorem dX3_springAt_6 : decode cX3_springAt 6 = .ok (.istore_n 3, 1) := by decide +kernel
theorem dX3_springAt_7 : decode cX3_springAt 7 = .ok (.aload_n 0, 1) := by decide +kernel
theorem dX3_springAt_8 : decode cX3_springAt 8 = .ok (.getfield 33, 3) := by decide +kernel
theorem dX3_springAt_11 : decode cX3_springAt 11 = .ok (.iload_n 3, 1) := by decide +kernel
theorem dX3_springAt_12 : decode cX3_springAt 12 = .ok (.iaload, 1) := by decide +kernel
theorem dX3_springAt_13 : decode cX3_springAt 13 = .ok (.istore 4, 2) := by decide +kernel
theorem dX3_springAt_15 : decode cX3_springAt 15 = .ok (.aload_n 0, 1) := by decide +kernel
theorem dX3_springAt_16 : decode cX3_springAt 16 = .ok (.getfield 33, 3) := by decide +kernel
theorem dX3_springAt_19 : decode cX3_springAt 19 = .ok (.iload_n 3, 1) := by decide +kernel
theorem dX3_springAt_20 : decode cX3_springAt 20 = .ok (.iconst 1, 1) := by decide +kernel
theorem dX3_springAt_21 : decode cX3_springAt 21 = .ok (.iadd, 1) := by decide +kernel
theorem dX3_springAt_22 : decode cX3_springAt 22 = .ok (.iaload, 1) := by decide +kernel
theorem dX3_springAt_23 : decode cX3_springAt 23 = .ok (.istore 5, 2) := by decide +kernel
theorem dX3_springAt_25 : decode cX3_springAt 25 = .ok (.aload_n 0, 1) := by decide +kernel
theorem dX3_springAt_26 : decode cX3_springAt 26 = .ok (.getfield 39, 3) := by decide +kernel
theorem dX3_springAt_29 : decode cX3_springAt 29 = .ok (.getfield 119, 3) := by decide +kernel
theorem dX3_springAt_32 : decode cX3_springAt 32 = .ok (.iload_n 1, 1) := by decide +kernel
theorem dX3_springAt_33 : decode cX3_springAt 33 = .ok (.iaload, 1) := by decide +kernel
theorem dX3_springAt_34 : decode cX3_springAt 34 = .ok (.aload_n 0, 1) := by decide +kernel
theorem dX3_springAt_35 : decode cX3_springAt 35 = .ok (.getfield 39, 3) := by decide +kernel
theorem dX3_springAt_38 : decode cX3_springAt 38 = .ok (.getfield 119, 3) := by decide +kernel
theorem dX3_springAt_41 : decode cX3_springAt 41 = .ok (.iload 4, 2) := by decide +kernel
theorem dX3_springAt_43 : decode cX3_springAt 43 = .ok (.iaload, 1) := by decide +kernel
theorem dX3_springAt_44 : decode cX3_springAt 44 = .ok (.isub, 1) := by decide +kernel
theorem dX3_springAt_45 : decode cX3_springAt 45 = .ok (.aload_n 0, 1) := by decide +kernel
theorem dX3_springAt_46 : decode cX3_springAt 46 = .ok (.getfield 39, 3) := by decide +kernel
theorem dX3_springAt_49 : decode cX3_springAt 49 = .ok (.getfield 122, 3) := by decide +kernel
theorem dX3_springAt_52 : decode cX3_springAt 52 = .ok (.getfield 126, 3) := by decide +kernel
theorem dX3_springAt_55 : decode cX3_springAt 55 = .ok (.iload_n 2, 1) := by decide +kernel
theorem dX3_springAt_56 : decode cX3_springAt 56 = .ok (.iaload, 1) := by decide +kernel
theorem dX3_springAt_57 : decode cX3_springAt 57 = .ok (.iadd, 1) := by decide +kernel
theorem dX3_springAt_58 : decode cX3_springAt 58 = .ok (.istore 6, 2) := by decide +kernel
theorem dX3_springAt_60 : decode cX3_springAt 60 = .ok (.aload_n 0, 1) := by decide +kernel
theorem dX3_springAt_61 : decode cX3_springAt 61 = .ok (.getfield 39, 3) := by decide +kernel
theorem dX3_springAt_64 : decode cX3_springAt 64 = .ok (.getfield 131, 3) := by decide +kernel
theorem dX3_springAt_67 : decode cX3_springAt 67 = .ok (.iload_n 1, 1) := by decide +kernel
theorem dX3_springAt_68 : decode cX3_springAt 68 = .ok (.iaload, 1) := by decide +kernel
theorem dX3_springAt_69 : decode cX3_springAt 69 = .ok (.aload_n 0, 1) := by decide +kernel
theorem dX3_springAt_70 : decode cX3_springAt 70 = .ok (.getfield 39, 3) := by decide +kernel
theorem dX3_springAt_73 : decode cX3_springAt 73 = .ok (.getfield 131, 3) := by decide +kernel
theorem dX3_springAt_76 : decode cX3_springAt 76 = .ok (.iload 4, 2) := by decide +kernel
theorem dX3_springAt_78 : decode cX3_springAt 78 = .ok (.iaload, 1) := by decide +kernel
theorem dX3_springAt_79 : decode cX3_springAt 79 = .ok (.isub, 1) := by decide +kernel
theorem dX3_springAt_80 : decode cX3_springAt 80 = .ok (.aload_n 0, 1) := by decide +kernel
theorem dX3_springAt_81 : decode cX3_springAt 81 = .ok (.getfield 39, 3) := by decide +kernel
theorem dX3_springAt_84 : decode cX3_springAt 84 = .ok (.getfield 122, 3) := by decide +kernel
theorem dX3_springAt_87 : decode cX3_springAt 87 = .ok (.getfield 134, 3) := by decide +kernel
theorem dX3_springAt_90 : decode cX3_springAt 90 = .ok (.iload_n 2, 1) := by decide +kernel
theorem dX3_springAt_91 : decode cX3_springAt 91 = .ok (.iaload, 1) := by decide +kernel
theorem dX3_springAt_92 : decode cX3_springAt 92 = .ok (.iadd, 1) := by decide +kernel
theorem dX3_springAt_93 : decode cX3_springAt 93 = .ok (.istore 7, 2) := by decide +kernel
theorem dX3_springAt_95 : decode cX3_springAt 95 = .ok (.bipush 8, 2) := by decide +kernel
theorem dX3_springAt_97 : decode cX3_springAt 97 = .ok (.iload_n 1, 1) := by decide +kernel
theorem dX3_springAt_98 : decode cX3_springAt 98 = .ok (.iload 4, 2) := by decide +kernel
theorem dX3_springAt_100 : decode cX3_springAt 100 = .ok (.isub, 1) := by decide +kernel
theorem dX3_springAt_101 : decode cX3_springAt 101 = .ok (.imul, 1) := by decide +kernel
theorem dX3_springAt_102 : decode cX3_springAt 102 = .ok (.iconst 4, 1) := by decide +kernel
theorem dX3_springAt_103 : decode cX3_springAt 103 = .ok (.iadd, 1) := by decide +kernel
theorem dX3_springAt_104 : decode cX3_springAt 104 = .ok (.iload 6, 2) := by decide +kernel
theorem dX3_springAt_106 : decode cX3_springAt 106 = .ok (.iadd, 1) := by decide +kernel
theorem dX3_springAt_107 : decode cX3_springAt 107 = .ok (.istore 8, 2) := by decide +kernel
theorem dX3_springAt_109 : decode cX3_springAt 109 = .ok (.aload_n 0, 1) := by decide +kernel
theorem dX3_springAt_110 : decode cX3_springAt 110 = .ok (.getfield 39, 3) := by decide +kernel
theorem dX3_springAt_113 : decode cX3_springAt 113 = .ok (.iload 4, 2) := by decide +kernel
theorem dX3_springAt_115 : decode cX3_springAt 115 = .ok (.iload 5, 2) := by decide +kernel
theorem dX3_springAt_117 : decode cX3_springAt 117 = .ok (.invokevirtual 109, 3) := by decide +kernel
theorem dX3_springAt_120 : decode cX3_springAt 120 = .ok (.aload_n 0, 1) := by decide +kernel
theorem dX3_springAt_121 : decode cX3_springAt 121 = .ok (.getfield 9, 3) := by decide +kernel
theorem dX3_springAt_124 : decode cX3_springAt 124 = .ok (.isub, 1) := by decide +kernel
theorem dX3_springAt_125 : decode cX3_springAt 125 = .ok (.istore 9, 2) := by decide +kernel
theorem dX3_springAt_127 : decode cX3_springAt 127 = .ok (.iload 9, 2) := by decide +kernel
theorem dX3_springAt_129 : decode cX3_springAt 129 = .ok (.ifCond .le 22, 3) := by decide +kernel
theorem dX3_springAt_132 : decode cX3_springAt 132 = .ok (.iload 8, 2) := by decide +kernel
theorem dX3_springAt_134 : decode cX3_springAt 134 = .ok (.aload_n 0, 1) := by decide +kernel
theorem dX3_springAt_135 : decode cX3_springAt 135 = .ok (.iload 4, 2) := by decide +kernel
theorem dX3_springAt_137 : decode cX3_springAt 137 = .ok (.iload 5, 2) := by decide +kernel
theorem dX3_springAt_139 : decode cX3_springAt 139 = .ok (.iload 9, 2) := by decide +kernel
theorem dX3_springAt_141 : decode cX3_springAt 141 = .ok (.iload 6, 2) := by decide +kernel
theorem dX3_springAt_143 : decode cX3_springAt 143 = .ok (.iload 7, 2) := by decide +kernel
theorem dX3_springAt_145 : decode cX3_springAt 145 = .ok (.isub, 1) := by decide +kernel
theorem dX3_springAt_146 : decode cX3_springAt 146 = .ok (.invokevirtual 135, 3) := by decide +kernel
theorem dX3_springAt_149 : decode cX3_springAt 149 = .ok (.isub, 1) := by decide +kernel
theorem dX3_springAt_150 : decode cX3_springAt 150 = .ok (.ireturn, 1) := by decide +kernel
theorem dX3_springAt_151 : decode cX3_springAt 151 = .ok (.iload 5, 2) := by decide +kernel
theorem dX3_springAt_153 : decode cX3_springAt 153 = .ok (.aload_n 0, 1) := by decide +kernel
theorem dX3_springAt_154 : decode cX3_springAt 154 = .ok (.getfield 39, 3) := by decide +kernel
theorem dX3_springAt_157 : decode cX3_springAt 157 = .ok (.getfield 46, 3) := by decide +kernel
theorem dX3_springAt_160 : decode cX3_springAt 160 = .ok (.if_icmp .ne 8, 3) := by decide +kernel
theorem dX3_springAt_163 : decode cX3_springAt 163 = .ok (.iload 8, 2) := by decide +kernel
theorem dX3_springAt_165 : decode cX3_springAt 165 = .ok (.goto 19, 3) := by decide +kernel
theorem dX3_springAt_168 : decode cX3_springAt 168 = .ok (.iload 8, 2) := by decide +kernel
theorem dX3_springAt_170 : decode cX3_springAt 170 = .ok (.aload_n 0, 1) := by decide +kernel
theorem dX3_springAt_171 : decode cX3_springAt 171 = .ok (.iload 4, 2) := by decide +kernel
theorem dX3_springAt_173 : decode cX3_springAt 173 = .ok (.iload 5, 2) := by decide +kernel
theorem dX3_springAt_175 : decode cX3_springAt 175 = .ok (.iload 9, 2) := by decide +kernel
theorem dX3_springAt_177 : decode cX3_springAt 177 = .ok (.ineg, 1) := by decide +kernel
theorem dX3_springAt_178 : decode cX3_springAt 178 = .ok (.iload 6, 2) := by decide +kernel
theorem dX3_springAt_180 : decode cX3_springAt 180 = .ok (.invokevirtual 139, 3) := by decide +kernel
theorem dX3_springAt_183 : decode cX3_springAt 183 = .ok (.iadd, 1) := by decide +kernel
theorem dX3_springAt_184 : decode cX3_springAt 184 = .ok (.ireturn, 1) := by decide +kernel
theorem dX3_shrunkAhead_0 : decode cX3_shrunkAhead 0 = .ok (.aload_n 0, 1) := by decide +kernel
theorem dX3_shrunkAhead_1 : decode cX3_shrunkAhead 1 = .ok (.getfield 39, 3) := by decide +kernel
theorem dX3_shrunkAhead_4 : decode cX3_shrunkAhead 4 = .ok (.iload_n 1, 1) := by decide +kernel
theorem dX3_shrunkAhead_5 : decode cX3_shrunkAhead 5 = .ok (.iload_n 2, 1) := by decide +kernel
theorem dX3_shrunkAhead_6 : decode cX3_shrunkAhead 6 = .ok (.invokevirtual 109, 3) := by decide +kernel
theorem dX3_shrunkAhead_9 : decode cX3_shrunkAhead 9 = .ok (.aload_n 0, 1) := by decide +kernel
theorem dX3_shrunkAhead_10 : decode cX3_shrunkAhead 10 = .ok (.getfield 39, 3) := by decide +kernel
theorem dX3_shrunkAhead_13 : decode cX3_shrunkAhead 13 = .ok (.iload_n 1, 1) := by decide +kernel
theorem dX3_shrunkAhead_14 : decode cX3_shrunkAhead 14 = .ok (.iload_n 2, 1) := by decide +kernel
theorem dX3_shrunkAhead_15 : decode cX3_shrunkAhead 15 = .ok (.invokevirtual 106, 3) := by decide +kernel
theorem dX3_shrunkAhead_18 : decode cX3_shrunkAhead 18 = .ok (.isub, 1) := by decide +kernel
theorem dX3_shrunkAhead_19 : decode cX3_shrunkAhead 19 = .ok (.istore 5, 2) := by decide +kernel
theorem dX3_shrunkAhead_21 : decode cX3_shrunkAhead 21 = .ok (.iload 5, 2) := by decide +kernel
theorem dX3_shrunkAhead_23 : decode cX3_shrunkAhead 23 = .ok (.ifCond .le 18, 3) := by decide +kernel
theorem dX3_shrunkAhead_26 : decode cX3_shrunkAhead 26 = .ok (.iload_n 3, 1) := by decide +kernel
theorem dX3_shrunkAhead_27 : decode cX3_shrunkAhead 27 = .ok (.iload 5, 2) := by decide +kernel
theorem dX3_shrunkAhead_29 : decode cX3_shrunkAhead 29 = .ok (.invokestatic 116, 3) := by decide +kernel
theorem dX3_shrunkAhead_32 : decode cX3_shrunkAhead 32 = .ok (.iload 4, 2) := by decide +kernel
theorem dX3_shrunkAhead_34 : decode cX3_shrunkAhead 34 = .ok (.imul, 1) := by decide +kernel
theorem dX3_shrunkAhead_35 : decode cX3_shrunkAhead 35 = .ok (.iload 5, 2) := by decide +kernel
theorem dX3_shrunkAhead_37 : decode cX3_shrunkAhead 37 = .ok (.idiv, 1) := by decide +kernel
theorem dX3_shrunkAhead_38 : decode cX3_shrunkAhead 38 = .ok (.goto 4, 3) := by decide +kernel
theorem dX3_shrunkAhead_41 : decode cX3_shrunkAhead 41 = .ok (.iconst 0, 1) := by decide +kernel
theorem dX3_shrunkAhead_42 : decode cX3_shrunkAhead 42 = .ok (.ireturn, 1) := by decide +kernel
theorem dX3_stretchedAhead_0 : decode cX3_stretchedAhead 0 = .ok (.aload_n 0, 1) := by decide +kernel
theorem dX3_stretchedAhead_1 : decode cX3_stretchedAhead 1 = .ok (.getfield 39, 3) := by decide +kernel
theorem dX3_stretchedAhead_4 : decode cX3_stretchedAhead 4 = .ok (.getfield 119, 3) := by decide +kernel
theorem dX3_stretchedAhead_7 : decode cX3_stretchedAhead 7 = .ok (.iload_n 2, 1) := by decide +kernel
theorem dX3_stretchedAhead_8 : decode cX3_stretchedAhead 8 = .ok (.iaload, 1) := by decide +kernel
theorem dX3_stretchedAhead_9 : decode cX3_stretchedAhead 9 = .ok (.aload_n 0, 1) := by decide +kernel
theorem dX3_stretchedAhead_10 : decode cX3_stretchedAhead 10 = .ok (.getfield 39, 3) := by decide +kernel
theorem dX3_stretchedAhead_13 : decode cX3_stretchedAhead 13 = .ok (.getfield 119, 3) := by decide +kernel
theorem dX3_stretchedAhead_16 : decode cX3_stretchedAhead 16 = .ok (.iload_n 1, 1) := by decide +kernel
theorem dX3_stretchedAhead_17 : decode cX3_stretchedAhead 17 = .ok (.iaload, 1) := by decide +kernel
theorem dX3_stretchedAhead_18 : decode cX3_stretchedAhead 18 = .ok (.isub, 1) := by decide +kernel
theorem dX3_stretchedAhead_19 : decode cX3_stretchedAhead 19 = .ok (.istore 5, 2) := by decide +kernel
theorem dX3_stretchedAhead_21 : decode cX3_stretchedAhead 21 = .ok (.iload 5, 2) := by decide +kernel
theorem dX3_stretchedAhead_23 : decode cX3_stretchedAhead 23 = .ok (.ifCond .le 13, 3) := by decide +kernel
theorem dX3_stretchedAhead_26 : decode cX3_stretchedAhead 26 = .ok (.iload_n 3, 1) := by decide +kernel
theorem dX3_stretchedAhead_27 : decode cX3_stretchedAhead 27 = .ok (.iload 4, 2) := by decide +kernel
theorem dX3_stretchedAhead_29 : decode cX3_stretchedAhead 29 = .ok (.imul, 1) := by decide +kernel
theorem dX3_stretchedAhead_30 : decode cX3_stretchedAhead 30 = .ok (.iload 5, 2) := by decide +kernel
theorem dX3_stretchedAhead_32 : decode cX3_stretchedAhead 32 = .ok (.idiv, 1) := by decide +kernel
theorem dX3_stretchedAhead_33 : decode cX3_stretchedAhead 33 = .ok (.goto 4, 3) := by decide +kernel
theorem dX3_stretchedAhead_36 : decode cX3_stretchedAhead 36 = .ok (.iconst 0, 1) := by decide +kernel
theorem dX3_stretchedAhead_37 : decode cX3_stretchedAhead 37 = .ok (.ireturn, 1) := by decide +kernel
theorem dX4_init_0 : decode cX4_init 0 = .ok (.aload_n 0, 1) := by decide +kernel
theorem dX4_init_1 : decode cX4_init 1 = .ok (.invokespecial 3, 3) := by decide +kernel
theorem dX4_init_4 : decode cX4_init 4 = .ok (.aload_n 0, 1) := by decide +kernel
theorem dX4_init_5 : decode cX4_init 5 = .ok (.bipush 12, 2) := by decide +kernel
theorem dX4_init_7 : decode cX4_init 7 = .ok (.newarray .int, 2) := by decide +kernel
theorem dX4_init_9 : decode cX4_init 9 = .ok (.putfield 9, 3) := by decide +kernel
theorem dX4_init_12 : decode cX4_init 12 = .ok (.aload_n 0, 1) := by decide +kernel
theorem dX4_init_13 : decode cX4_init 13 = .ok (.bipush 13, 2) := by decide +kernel
theorem dX4_init_15 : decode cX4_init 15 = .ok (.newarray .int, 2) := by decide +kernel
theorem dX4_init_17 : decode cX4_init 17 = .ok (.putfield 15, 3) := by decide +kernel
theorem dX4_init_20 : decode cX4_init 20 = .ok (.aload_n 0, 1) := by decide +kernel
theorem dX4_init_21 : decode cX4_init 21 = .ok (.bipush 60, 2) := by decide +kernel
theorem dX4_init_23 : decode cX4_init 23 = .ok (.newarray .int, 2) := by decide +kernel
theorem dX4_init_25 : decode cX4_init 25 = .ok (.putfield 18, 3) := by decide +kernel
theorem dX4_init_28 : decode cX4_init 28 = .ok (.aload_n 0, 1) := by decide +kernel
theorem dX4_init_29 : decode cX4_init 29 = .ok (.bipush 60, 2) := by decide +kernel
theorem dX4_init_31 : decode cX4_init 31 = .ok (.newarray .int, 2) := by decide +kernel
theorem dX4_init_33 : decode cX4_init 33 = .ok (.putfield 21, 3) := by decide +kernel
theorem dX4_init_36 : decode cX4_init 36 = .ok (.aload_n 0, 1) := by decide +kernel
theorem dX4_init_37 : decode cX4_init 37 = .ok (.sipush 480, 3) := by decide +kernel
theorem dX4_init_40 : decode cX4_init 40 = .ok (.newarray .int, 2) := by decide +kernel
theorem dX4_init_42 : decode cX4_init 42 = .ok (.putfield 24, 3) := by decide +kernel
theorem dX4_init_45 : decode cX4_init 45 = .ok (.aload_n 0, 1) := by decide +kernel
theorem dX4_init_46 : decode cX4_init 46 = .ok (.sipush 480, 3) := by decide +kernel
theorem dX4_init_49 : decode cX4_init 49 = .ok (.newarray .int, 2) := by decide +kernel
theorem dX4_init_51 : decode cX4_init 51 = .ok (.putfield 27, 3) := by decide +kernel
theorem dX4_init_54 : decode cX4_init 54 = .ok (.return_, 1) := by decide +kernel
theorem dX4_addBar_0 : decode cX4_addBar 0 = .ok (.aload_n 0, 1) := by decide +kernel
theorem dX4_addBar_1 : decode cX4_addBar 1 = .ok (.getfield 9, 3) := by decide +kernel
theorem dX4_addBar_4 : decode cX4_addBar 4 = .ok (.aload_n 0, 1) := by decide +kernel
theorem dX4_addBar_5 : decode cX4_addBar 5 = .ok (.getfield 30, 3) := by decide +kernel
theorem dX4_addBar_8 : decode cX4_addBar 8 = .ok (.iload_n 1, 1) := by decide +kernel
theorem dX4_addBar_9 : decode cX4_addBar 9 = .ok (.iastore, 1) := by decide +kernel
theorem dX4_addBar_10 : decode cX4_addBar 10 = .ok (.aload_n 0, 1) := by decide +kernel
theorem dX4_addBar_11 : decode cX4_addBar 11 = .ok (.getfield 15, 3) := by decide +kernel
theorem dX4_addBar_14 : decode cX4_addBar 14 = .ok (.aload_n 0, 1) := by decide +kernel
theorem dX4_addBar_15 : decode cX4_addBar 15 = .ok (.getfield 30, 3) := by decide +kernel
theorem dX4_addBar_18 : decode cX4_addBar 18 = .ok (.iconst 1, 1) := by decide +kernel
theorem dX4_addBar_19 : decode cX4_addBar 19 = .ok (.iadd, 1) := by decide +kernel
theorem dX4_addBar_20 : decode cX4_addBar 20 = .ok (.aload_n 0, 1) := by decide +kernel
theorem dX4_addBar_21 : decode cX4_addBar 21 = .ok (.getfield 15, 3) := by decide +kernel
theorem dX4_addBar_24 : decode cX4_addBar 24 = .ok (.aload_n 0, 1) := by decide +kernel
theorem dX4_addBar_25 : decode cX4_addBar 25 = .ok (.getfield 30, 3) := by decide +kernel
theorem dX4_addBar_28 : decode cX4_addBar 28 = .ok (.iaload, 1) := by decide +kernel
theorem dX4_addBar_29 : decode cX4_addBar 29 = .ok (.iload_n 1, 1) := by decide +kernel
theorem dX4_addBar_30 : decode cX4_addBar 30 = .ok (.iadd, 1) := by decide +kernel
theorem dX4_addBar_31 : decode cX4_addBar 31 = .ok (.iastore, 1) := by decide +kernel
theorem dX4_addBar_32 : decode cX4_addBar 32 = .ok (.aload_n 0, 1) := by decide +kernel
theorem dX4_addBar_33 : decode cX4_addBar 33 = .ok (.dup, 1) := by decide +kernel
theorem dX4_addBar_34 : decode cX4_addBar 34 = .ok (.getfield 30, 3) := by decide +kernel
theorem dX4_addBar_37 : decode cX4_addBar 37 = .ok (.iconst 1, 1) := by decide +kernel
theorem dX4_addBar_38 : decode cX4_addBar 38 = .ok (.iadd, 1) := by decide +kernel
theorem dX4_addBar_39 : decode cX4_addBar 39 = .ok (.putfield 30, 3) := by decide +kernel
theorem dX4_addBar_42 : decode cX4_addBar 42 = .ok (.aload_n 0, 1) := by decide +kernel
theorem dX4_addBar_43 : decode cX4_addBar 43 = .ok (.getfield 30, 3) := by decide +kernel
theorem dX4_addBar_46 : decode cX4_addBar 46 = .ok (.iconst 1, 1) := by decide +kernel
theorem dX4_addBar_47 : decode cX4_addBar 47 = .ok (.isub, 1) := by decide +kernel
theorem dX4_addBar_48 : decode cX4_addBar 48 = .ok (.ireturn, 1) := by decide +kernel
theorem dX4_addNote_0 : decode cX4_addNote 0 = .ok (.iload_n 1, 1) := by decide +kernel
theorem dX4_addNote_1 : decode cX4_addNote 1 = .ok (.bipush 8, 2) := by decide +kernel
theorem dX4_addNote_3 : decode cX4_addNote 3 = .ok (.imul, 1) := by decide +kernel
theorem dX4_addNote_4 : decode cX4_addNote 4 = .ok (.aload_n 0, 1) := by decide +kernel
theorem dX4_addNote_5 : decode cX4_addNote 5 = .ok (.getfield 21, 3) := by decide +kernel
theorem dX4_addNote_8 : decode cX4_addNote 8 = .ok (.iload_n 1, 1) := by decide +kernel
theorem dX4_addNote_9 : decode cX4_addNote 9 = .ok (.iaload, 1) := by decide +kernel
theorem dX4_addNote_10 : decode cX4_addNote 10 = .ok (.iadd, 1) := by decide +kernel
theorem dX4_addNote_11 : decode cX4_addNote 11 = .ok (.istore 4, 2) := by decide +kernel
theorem dX4_addNote_13 : decode cX4_addNote 13 = .ok (.aload_n 0, 1) := by decide +kernel
theorem dX4_addNote_14 : decode cX4_addNote 14 = .ok (.getfield 24, 3) := by decide +kernel
theorem dX4_addNote_17 : decode cX4_addNote 17 = .ok (.iload 4, 2) := by decide +kernel
theorem dX4_addNote_19 : decode cX4_addNote 19 = .ok (.iload_n 2, 1) := by decide +kernel
theorem dX4_addNote_20 : decode cX4_addNote 20 = .ok (.iastore, 1) := by decide +kernel
theorem dX4_addNote_21 : decode cX4_addNote 21 = .ok (.aload_n 0, 1) := by decide +kernel
theorem dX4_addNote_22 : decode cX4_addNote 22 = .ok (.getfield 27, 3) := by decide +kernel
theorem dX4_addNote_25 : decode cX4_addNote 25 = .ok (.iload 4, 2) := by decide +kernel
theorem dX4_addNote_27 : decode cX4_addNote 27 = .ok (.iload_n 3, 1) := by decide +kernel
theorem dX4_addNote_28 : decode cX4_addNote 28 = .ok (.iastore, 1) := by decide +kernel
theorem dX4_addNote_29 : decode cX4_addNote 29 = .ok (.aload_n 0, 1) := by decide +kernel
theorem dX4_addNote_30 : decode cX4_addNote 30 = .ok (.getfield 21, 3) := by decide +kernel
theorem dX4_addNote_33 : decode cX4_addNote 33 = .ok (.iload_n 1, 1) := by decide +kernel
theorem dX4_addNote_34 : decode cX4_addNote 34 = .ok (.dup2, 1) := by decide +kernel
theorem dX4_addNote_35 : decode cX4_addNote 35 = .ok (.iaload, 1) := by decide +kernel
theorem dX4_addNote_36 : decode cX4_addNote 36 = .ok (.iconst 1, 1) := by decide +kernel
theorem dX4_addNote_37 : decode cX4_addNote 37 = .ok (.iadd, 1) := by decide +kernel
theorem dX4_addNote_38 : decode cX4_addNote 38 = .ok (.iastore, 1) := by decide +kernel
theorem dX4_addNote_39 : decode cX4_addNote 39 = .ok (.aload_n 0, 1) := by decide +kernel
theorem dX4_addNote_40 : decode cX4_addNote 40 = .ok (.getfield 18, 3) := by decide +kernel
theorem dX4_addNote_43 : decode cX4_addNote 43 = .ok (.iload_n 1, 1) := by decide +kernel
theorem dX4_addNote_44 : decode cX4_addNote 44 = .ok (.dup2, 1) := by decide +kernel
theorem dX4_addNote_45 : decode cX4_addNote 45 = .ok (.iaload, 1) := by decide +kernel
theorem dX4_addNote_46 : decode cX4_addNote 46 = .ok (.iconst 1, 1) := by decide +kernel
theorem dX4_addNote_47 : decode cX4_addNote 47 = .ok (.iadd, 1) := by decide +kernel
theorem dX4_addNote_48 : decode cX4_addNote 48 = .ok (.iastore, 1) := by decide +kernel
theorem dX4_addNote_49 : decode cX4_addNote 49 = .ok (.aload_n 0, 1) := by decide +kernel
theorem dX4_addNote_50 : decode cX4_addNote 50 = .ok (.getfield 21, 3) := by decide +kernel
theorem dX4_addNote_53 : decode cX4_addNote 53 = .ok (.iload_n 1, 1) := by decide +kernel
theorem dX4_addNote_54 : decode cX4_addNote 54 = .ok (.iaload, 1) := by decide +kernel
theorem dX4_addNote_55 : decode cX4_addNote 55 = .ok (.ireturn, 1) := by decide +kernel
theorem dX4_changePitch_0 : decode cX4_changePitch 0 = .ok (.iload_n 1, 1) := by decide +kernel
theorem dX4_changePitch_1 : decode cX4_changePitch 1 = .ok (.bipush 8, 2) := by decide +kernel
theorem dX4_changePitch_3 : decode cX4_changePitch 3 = .ok (.imul, 1) := by decide +kernel
theorem dX4_changePitch_4 : decode cX4_changePitch 4 = .ok (.iload_n 2, 1) := by decide +kernel
theorem dX4_changePitch_5 : decode cX4_changePitch 5 = .ok (.iadd, 1) := by decide +kernel
theorem dX4_changePitch_6 : decode cX4_changePitch 6 = .ok (.istore 4, 2) := by decide +kernel
theorem dX4_changePitch_8 : decode cX4_changePitch 8 = .ok (.aload_n 0, 1) := by decide +kernel
theorem dX4_changePitch_9 : decode cX4_changePitch 9 = .ok (.getfield 27, 3) := by decide +kernel
theorem dX4_changePitch_12 : decode cX4_changePitch 12 = .ok (.iload 4, 2) := by decide +kernel
theorem dX4_changePitch_14 : decode cX4_changePitch 14 = .ok (.iaload, 1) := by decide +kernel
theorem dX4_changePitch_15 : decode cX4_changePitch 15 = .ok (.istore 5, 2) := by decide +kernel
theorem dX4_changePitch_17 : decode cX4_changePitch 17 = .ok (.iload 5, 2) := by decide +kernel
theorem dX4_changePitch_19 : decode cX4_changePitch 19 = .ok (.iload_n 3, 1) := by decide +kernel
theorem dX4_changePitch_20 : decode cX4_changePitch 20 = .ok (.if_icmp .eq 21, 3) := by decide +kernel
theorem dX4_changePitch_23 : decode cX4_changePitch 23 = .ok (.aload_n 0, 1) := by decide +kernel
theorem dX4_changePitch_24 : decode cX4_changePitch 24 = .ok (.getfield 27, 3) := by decide +kernel
theorem dX4_changePitch_27 : decode cX4_changePitch 27 = .ok (.iload 4, 2) := by decide +kernel
theorem dX4_changePitch_29 : decode cX4_changePitch 29 = .ok (.iload_n 3, 1) := by decide +kernel
theorem dX4_changePitch_30 : decode cX4_changePitch 30 = .ok (.iastore, 1) := by decide +kernel
theorem dX4_changePitch_31 : decode cX4_changePitch 31 = .ok (.aload_n 0, 1) := by decide +kernel
theorem dX4_changePitch_32 : decode cX4_changePitch 32 = .ok (.getfield 18, 3) := by decide +kernel
theorem dX4_changePitch_35 : decode cX4_changePitch 35 = .ok (.iload_n 1, 1) := by decide +kernel
theorem dX4_changePitch_36 : decode cX4_changePitch 36 = .ok (.dup2, 1) := by decide +kernel
theorem dX4_changePitch_37 : decode cX4_changePitch 37 = .ok (.iaload, 1) := by decide +kernel
theorem dX4_changePitch_38 : decode cX4_changePitch 38 = .ok (.iconst 1, 1) := by decide +kernel
theorem dX4_changePitch_39 : decode cX4_changePitch 39 = .ok (.iadd, 1) := by decide +kernel
theorem dX4_changePitch_40 : decode cX4_changePitch 40 = .ok (.iastore, 1) := by decide +kernel
theorem dX4_changePitch_41 : decode cX4_changePitch 41 = .ok (.iload 5, 2) := by decide +kernel
theorem dX4_changePitch_43 : decode cX4_changePitch 43 = .ok (.ireturn, 1) := by decide +kernel
theorem dX4_takeNotes_0 : decode cX4_takeNotes 0 = .ok (.aload_n 0, 1) := by decide +kernel
theorem dX4_takeNotes_1 : decode cX4_takeNotes 1 = .ok (.getfield 21, 3) := by decide +kernel
theorem dX4_takeNotes_4 : decode cX4_takeNotes 4 = .ok (.iload_n 1, 1) := by decide +kernel
theorem dX4_takeNotes_5 : decode cX4_takeNotes 5 = .ok (.iaload, 1) := by decide +kernel
theorem dX4_takeNotes_6 : decode cX4_takeNotes 6 = .ok (.istore_n 2, 1) := by decide +kernel
theorem dX4_takeNotes_7 : decode cX4_takeNotes 7 = .ok (.iload_n 2, 1) := by decide +kernel
theorem dX4_takeNotes_8 : decode cX4_takeNotes 8 = .ok (.ifCond .le 20, 3) := by decide +kernel
theorem dX4_takeNotes_11 : decode cX4_takeNotes 11 = .ok (.aload_n 0, 1) := by decide +kernel
theorem dX4_takeNotes_12 : decode cX4_takeNotes 12 = .ok (.getfield 21, 3) := by decide +kernel
theorem dX4_takeNotes_15 : decode cX4_takeNotes 15 = .ok (.iload_n 1, 1) := by decide +kernel
theorem dX4_takeNotes_16 : decode cX4_takeNotes 16 = .ok (.iconst 0, 1) := by decide +kernel
theorem dX4_takeNotes_17 : decode cX4_takeNotes 17 = .ok (.iastore, 1) := by decide +kernel
theorem dX4_takeNotes_18 : decode cX4_takeNotes 18 = .ok (.aload_n 0, 1) := by decide +kernel
theorem dX4_takeNotes_19 : decode cX4_takeNotes 19 = .ok (.getfield 18, 3) := by decide +kernel
theorem dX4_takeNotes_22 : decode cX4_takeNotes 22 = .ok (.iload_n 1, 1) := by decide +kernel
theorem dX4_takeNotes_23 : decode cX4_takeNotes 23 = .ok (.dup2, 1) := by decide +kernel
theorem dX4_takeNotes_24 : decode cX4_takeNotes 24 = .ok (.iaload, 1) := by decide +kernel
theorem dX4_takeNotes_25 : decode cX4_takeNotes 25 = .ok (.iconst 1, 1) := by decide +kernel
theorem dX4_takeNotes_26 : decode cX4_takeNotes 26 = .ok (.iadd, 1) := by decide +kernel
theorem dX4_takeNotes_27 : decode cX4_takeNotes 27 = .ok (.iastore, 1) := by decide +kernel
theorem dX4_takeNotes_28 : decode cX4_takeNotes 28 = .ok (.iload_n 2, 1) := by decide +kernel
theorem dX4_takeNotes_29 : decode cX4_takeNotes 29 = .ok (.ireturn, 1) := by decide +kernel
theorem dX4_lengthAt_0 : decode cX4_lengthAt 0 = .ok (.aload_n 0, 1) := by decide +kernel
theorem dX4_lengthAt_1 : decode cX4_lengthAt 1 = .ok (.getfield 24, 3) := by decide +kernel
theorem dX4_lengthAt_4 : decode cX4_lengthAt 4 = .ok (.iload_n 1, 1) := by decide +kernel
theorem dX4_lengthAt_5 : decode cX4_lengthAt 5 = .ok (.bipush 8, 2) := by decide +kernel
theorem dX4_lengthAt_7 : decode cX4_lengthAt 7 = .ok (.imul, 1) := by decide +kernel
theorem dX4_lengthAt_8 : decode cX4_lengthAt 8 = .ok (.iload_n 2, 1) := by decide +kernel
theorem dX4_lengthAt_9 : decode cX4_lengthAt 9 = .ok (.iadd, 1) := by decide +kernel
theorem dX4_lengthAt_10 : decode cX4_lengthAt 10 = .ok (.iaload, 1) := by decide +kernel
theorem dX4_lengthAt_11 : decode cX4_lengthAt 11 = .ok (.ireturn, 1) := by decide +kernel
theorem dX4_pitchAt_0 : decode cX4_pitchAt 0 = .ok (.aload_n 0, 1) := by decide +kernel
theorem dX4_pitchAt_1 : decode cX4_pitchAt 1 = .ok (.getfield 27, 3) := by decide +kernel
theorem dX4_pitchAt_4 : decode cX4_pitchAt 4 = .ok (.iload_n 1, 1) := by decide +kernel
theorem dX4_pitchAt_5 : decode cX4_pitchAt 5 = .ok (.bipush 8, 2) := by decide +kernel
theorem dX4_pitchAt_7 : decode cX4_pitchAt 7 = .ok (.imul, 1) := by decide +kernel
theorem dX4_pitchAt_8 : decode cX4_pitchAt 8 = .ok (.iload_n 2, 1) := by decide +kernel
theorem dX4_pitchAt_9 : decode cX4_pitchAt 9 = .ok (.iadd, 1) := by decide +kernel
theorem dX4_pitchAt_10 : decode cX4_pitchAt 10 = .ok (.iaload, 1) := by decide +kernel
theorem dX4_pitchAt_11 : decode cX4_pitchAt 11 = .ok (.ireturn, 1) := by decide +kernel
theorem dX4_filled_0 : decode cX4_filled 0 = .ok (.iconst 0, 1) := by decide +kernel
theorem dX4_filled_1 : decode cX4_filled 1 = .ok (.istore_n 2, 1) := by decide +kernel
theorem dX4_filled_2 : decode cX4_filled 2 = .ok (.iconst 0, 1) := by decide +kernel
theorem dX4_filled_3 : decode cX4_filled 3 = .ok (.istore_n 3, 1) := by decide +kernel
theorem dX4_filled_4 : decode cX4_filled 4 = .ok (.iload_n 3, 1) := by decide +kernel
theorem dX4_filled_5 : decode cX4_filled 5 = .ok (.aload_n 0, 1) := by decide +kernel
theorem dX4_filled_6 : decode cX4_filled 6 = .ok (.getfield 21, 3) := by decide +kernel
theorem dX4_filled_9 : decode cX4_filled 9 = .ok (.iload_n 1, 1) := by decide +kernel
theorem dX4_filled_10 : decode cX4_filled 10 = .ok (.iaload, 1) := by decide +kernel
theorem dX4_filled_11 : decode cX4_filled 11 = .ok (.if_icmp .ge 18, 3) := by decide +kernel
theorem dX4_filled_14 : decode cX4_filled 14 = .ok (.iload_n 2, 1) := by decide +kernel
theorem dX4_filled_15 : decode cX4_filled 15 = .ok (.aload_n 0, 1) := by decide +kernel
theorem dX4_filled_16 : decode cX4_filled 16 = .ok (.iload_n 1, 1) := by decide +kernel
theorem dX4_filled_17 : decode cX4_filled 17 = .ok (.iload_n 3, 1) := by decide +kernel
theorem dX4_filled_18 : decode cX4_filled 18 = .ok (.invokevirtual 34, 3) := by decide +kernel
theorem dX4_filled_21 : decode cX4_filled 21 = .ok (.iadd, 1) := by decide +kernel
theorem dX4_filled_22 : decode cX4_filled 22 = .ok (.istore_n 2, 1) := by decide +kernel
theorem dX4_filled_23 : decode cX4_filled 23 = .ok (.iinc 3 1, 3) := by decide +kernel
theorem dX4_filled_26 : decode cX4_filled 26 = .ok (.goto (-22), 3) := by decide +kernel
theorem dX4_filled_29 : decode cX4_filled 29 = .ok (.iload_n 2, 1) := by decide +kernel
theorem dX4_filled_30 : decode cX4_filled 30 = .ok (.ireturn, 1) := by decide +kernel
theorem dX4_countTime_0 : decode cX4_countTime 0 = .ok (.iconst 0, 1) := by decide +kernel
theorem dX4_countTime_1 : decode cX4_countTime 1 = .ok (.istore_n 2, 1) := by decide +kernel
theorem dX4_countTime_2 : decode cX4_countTime 2 = .ok (.iconst 0, 1) := by decide +kernel
theorem dX4_countTime_3 : decode cX4_countTime 3 = .ok (.istore_n 3, 1) := by decide +kernel
theorem dX4_countTime_4 : decode cX4_countTime 4 = .ok (.iload_n 3, 1) := by decide +kernel
theorem dX4_countTime_5 : decode cX4_countTime 5 = .ok (.iload_n 1, 1) := by decide +kernel
theorem dX4_countTime_6 : decode cX4_countTime 6 = .ok (.if_icmp .ge 18, 3) := by decide +kernel
theorem dX4_countTime_9 : decode cX4_countTime 9 = .ok (.iload_n 2, 1) := by decide +kernel
theorem dX4_countTime_10 : decode cX4_countTime 10 = .ok (.aload_n 0, 1) := by decide +kernel
theorem dX4_countTime_11 : decode cX4_countTime 11 = .ok (.getfield 9, 3) := by decide +kernel
theorem dX4_countTime_14 : decode cX4_countTime 14 = .ok (.iload_n 3, 1) := by decide +kernel
theorem dX4_countTime_15 : decode cX4_countTime 15 = .ok (.iaload, 1) := by decide +kernel
theorem dX4_countTime_16 : decode cX4_countTime 16 = .ok (.iadd, 1) := by decide +kernel
theorem dX4_countTime_17 : decode cX4_countTime 17 = .ok (.istore_n 2, 1) := by decide +kernel
theorem dX4_countTime_18 : decode cX4_countTime 18 = .ok (.iinc 3 1, 3) := by decide +kernel
theorem dX4_countTime_21 : decode cX4_countTime 21 = .ok (.goto (-17), 3) := by decide +kernel
theorem dX4_countTime_24 : decode cX4_countTime 24 = .ok (.iload_n 2, 1) := by decide +kernel
theorem dX4_countTime_25 : decode cX4_countTime 25 = .ok (.ireturn, 1) := by decide +kernel
theorem dX4_isSilent_0 : decode cX4_isSilent 0 = .ok (.iload_n 1, 1) := by decide +kernel
theorem dX4_isSilent_1 : decode cX4_isSilent 1 = .ok (.iload_n 2, 1) := by decide +kernel
theorem dX4_isSilent_2 : decode cX4_isSilent 2 = .ok (.invokestatic 38, 3) := by decide +kernel
theorem dX4_isSilent_5 : decode cX4_isSilent 5 = .ok (.istore_n 3, 1) := by decide +kernel
theorem dX4_isSilent_6 : decode cX4_isSilent 6 = .ok (.iconst 0, 1) := by decide +kernel
theorem dX4_isSilent_7 : decode cX4_isSilent 7 = .ok (.istore 4, 2) := by decide +kernel
theorem dX4_isSilent_9 : decode cX4_isSilent 9 = .ok (.iload 4, 2) := by decide +kernel
theorem dX4_isSilent_11 : decode cX4_isSilent 11 = .ok (.aload_n 0, 1) := by decide +kernel
theorem dX4_isSilent_12 : decode cX4_isSilent 12 = .ok (.getfield 21, 3) := by decide +kernel
theorem dX4_isSilent_15 : decode cX4_isSilent 15 = .ok (.iload_n 3, 1) := by decide +kernel
theorem dX4_isSilent_16 : decode cX4_isSilent 16 = .ok (.iaload, 1) := by decide +kernel
theorem dX4_isSilent_17 : decode cX4_isSilent 17 = .ok (.if_icmp .ge 21, 3) := by decide +kernel
theorem dX4_isSilent_20 : decode cX4_isSilent 20 = .ok (.aload_n 0, 1) := by decide +kernel
theorem dX4_isSilent_21 : decode cX4_isSilent 21 = .ok (.iload_n 3, 1) := by decide +kernel
theorem dX4_isSilent_22 : decode cX4_isSilent 22 = .ok (.iload 4, 2) := by decide +kernel
theorem dX4_isSilent_24 : decode cX4_isSilent 24 = .ok (.invokevirtual 41, 3) := by decide +kernel
theorem dX4_isSilent_27 : decode cX4_isSilent 27 = .ok (.ifCond .le 5, 3) := by decide +kernel
theorem dX4_isSilent_30 : decode cX4_isSilent 30 = .ok (.iconst 0, 1) := by decide +kernel
theorem dX4_isSilent_31 : decode cX4_isSilent 31 = .ok (.ireturn, 1) := by decide +kernel
theorem dX4_isSilent_32 : decode cX4_isSilent 32 = .ok (.iinc 4 1, 3) := by decide +kernel
theorem dX4_isSilent_35 : decode cX4_isSilent 35 = .ok (.goto (-26), 3) := by decide +kernel
theorem dX4_isSilent_38 : decode cX4_isSilent 38 = .ok (.iconst 1, 1) := by decide +kernel
theorem dX4_isSilent_39 : decode cX4_isSilent 39 = .ok (.ireturn, 1) := by decide +kernel
theorem dX4_cuePlayer_0 : decode cX4_cuePlayer 0 = .ok (.iload_n 2, 1) := by decide +kernel
theorem dX4_cuePlayer_1 : decode cX4_cuePlayer 1 = .ok (.iconst 2, 1) := by decide +kernel
theorem dX4_cuePlayer_2 : decode cX4_cuePlayer 2 = .ok (.if_icmp .lt 59, 3) := by decide +kernel
theorem dX4_cuePlayer_5 : decode cX4_cuePlayer 5 = .ok (.iload_n 2, 1) := by decide +kernel
theorem dX4_cuePlayer_6 : decode cX4_cuePlayer 6 = .ok (.iconst 1, 1) := by decide +kernel
theorem dX4_cuePlayer_7 : decode cX4_cuePlayer 7 = .ok (.iadd, 1) := by decide +kernel
theorem dX4_cuePlayer_8 : decode cX4_cuePlayer 8 = .ok (.aload_n 0, 1) := by decide +kernel
theorem dX4_cuePlayer_9 : decode cX4_cuePlayer 9 = .ok (.getfield 30, 3) := by decide +kernel
theorem dX4_cuePlayer_12 : decode cX4_cuePlayer 12 = .ok (.if_icmp .ge 49, 3) := by decide +kernel
theorem dX4_cuePlayer_15 : decode cX4_cuePlayer 15 = .ok (.aload_n 0, 1) := by decide +kernel
theorem dX4_cuePlayer_16 : decode cX4_cuePlayer 16 = .ok (.iload_n 1, 1) := by decide +kernel
theorem dX4_cuePlayer_17 : decode cX4_cuePlayer 17 = .ok (.iload_n 2, 1) := by decide +kernel
theorem dX4_cuePlayer_18 : decode cX4_cuePlayer 18 = .ok (.iconst 2, 1) := by decide +kernel
theorem dX4_cuePlayer_19 : decode cX4_cuePlayer 19 = .ok (.isub, 1) := by decide +kernel
theorem dX4_cuePlayer_20 : decode cX4_cuePlayer 20 = .ok (.invokevirtual 44, 3) := by decide +kernel
theorem dX4_cuePlayer_23 : decode cX4_cuePlayer 23 = .ok (.ifCond .eq 38, 3) := by decide +kernel
theorem dX4_cuePlayer_26 : decode cX4_cuePlayer 26 = .ok (.aload_n 0, 1) := by decide +kernel
theorem dX4_cuePlayer_27 : decode cX4_cuePlayer 27 = .ok (.iload_n 1, 1) := by decide +kernel
theorem dX4_cuePlayer_28 : decode cX4_cuePlayer 28 = .ok (.iload_n 2, 1) := by decide +kernel
theorem dX4_cuePlayer_29 : decode cX4_cuePlayer 29 = .ok (.iconst 1, 1) := by decide +kernel
theorem dX4_cuePlayer_30 : decode cX4_cuePlayer 30 = .ok (.isub, 1) := by decide +kernel
theorem dX4_cuePlayer_31 : decode cX4_cuePlayer 31 = .ok (.invokevirtual 44, 3) := by decide +kernel
theorem dX4_cuePlayer_34 : decode cX4_cuePlayer 34 = .ok (.ifCond .eq 27, 3) := by decide +kernel
theorem dX4_cuePlayer_37 : decode cX4_cuePlayer 37 = .ok (.aload_n 0, 1) := by decide +kernel
theorem dX4_cuePlayer_38 : decode cX4_cuePlayer 38 = .ok (.iload_n 1, 1) := by decide +kernel
theorem dX4_cuePlayer_39 : decode cX4_cuePlayer 39 = .ok (.iload_n 2, 1) := by decide +kernel
theorem dX4_cuePlayer_40 : decode cX4_cuePlayer 40 = .ok (.invokevirtual 44, 3) := by decide +kernel
theorem dX4_cuePlayer_43 : decode cX4_cuePlayer 43 = .ok (.ifCond .eq 18, 3) := by decide +kernel
theorem dX4_cuePlayer_46 : decode cX4_cuePlayer 46 = .ok (.aload_n 0, 1) := by decide +kernel
theorem dX4_cuePlayer_47 : decode cX4_cuePlayer 47 = .ok (.iload_n 1, 1) := by decide +kernel
theorem dX4_cuePlayer_48 : decode cX4_cuePlayer 48 = .ok (.iload_n 2, 1) := by decide +kernel
theorem dX4_cuePlayer_49 : decode cX4_cuePlayer 49 = .ok (.iconst 1, 1) := by decide +kernel
theorem dX4_cuePlayer_50 : decode cX4_cuePlayer 50 = .ok (.iadd, 1) := by decide +kernel
theorem dX4_cuePlayer_51 : decode cX4_cuePlayer 51 = .ok (.invokevirtual 44, 3) := by decide +kernel
theorem dX4_cuePlayer_54 : decode cX4_cuePlayer 54 = .ok (.ifCond .ne 7, 3) := by decide +kernel
theorem dX4_cuePlayer_57 : decode cX4_cuePlayer 57 = .ok (.iconst 1, 1) := by decide +kernel
theorem dX4_cuePlayer_58 : decode cX4_cuePlayer 58 = .ok (.goto 4, 3) := by decide +kernel
theorem dX4_cuePlayer_61 : decode cX4_cuePlayer 61 = .ok (.iconst 0, 1) := by decide +kernel
theorem dX4_cuePlayer_62 : decode cX4_cuePlayer 62 = .ok (.istore_n 3, 1) := by decide +kernel
theorem dX4_cuePlayer_63 : decode cX4_cuePlayer 63 = .ok (.iload_n 3, 1) := by decide +kernel
theorem dX4_cuePlayer_64 : decode cX4_cuePlayer 64 = .ok (.ifCond .ne 5, 3) := by decide +kernel
theorem dX4_cuePlayer_67 : decode cX4_cuePlayer 67 = .ok (.iconst (-1), 1) := by decide +kernel
theorem dX4_cuePlayer_68 : decode cX4_cuePlayer 68 = .ok (.ireturn, 1) := by decide +kernel
theorem dX4_cuePlayer_69 : decode cX4_cuePlayer 69 = .ok (.iconst (-1), 1) := by decide +kernel
theorem dX4_cuePlayer_70 : decode cX4_cuePlayer 70 = .ok (.istore 4, 2) := by decide +kernel
theorem dX4_cuePlayer_72 : decode cX4_cuePlayer 72 = .ok (.iconst 0, 1) := by decide +kernel
theorem dX4_cuePlayer_73 : decode cX4_cuePlayer 73 = .ok (.istore 5, 2) := by decide +kernel
theorem dX4_cuePlayer_75 : decode cX4_cuePlayer 75 = .ok (.iconst 0, 1) := by decide +kernel
theorem dX4_cuePlayer_76 : decode cX4_cuePlayer 76 = .ok (.istore 6, 2) := by decide +kernel
theorem dX4_cuePlayer_78 : decode cX4_cuePlayer 78 = .ok (.iload 6, 2) := by decide +kernel
theorem dX4_cuePlayer_80 : decode cX4_cuePlayer 80 = .ok (.iconst 5, 1) := by decide +kernel
theorem dX4_cuePlayer_81 : decode cX4_cuePlayer 81 = .ok (.if_icmp .ge 53, 3) := by decide +kernel
theorem dX4_cuePlayer_84 : decode cX4_cuePlayer 84 = .ok (.aload_n 0, 1) := by decide +kernel
theorem dX4_cuePlayer_85 : decode cX4_cuePlayer 85 = .ok (.getfield 21, 3) := by decide +kernel
theorem dX4_cuePlayer_88 : decode cX4_cuePlayer 88 = .ok (.iload 6, 2) := by decide +kernel
theorem dX4_cuePlayer_90 : decode cX4_cuePlayer 90 = .ok (.iload_n 2, 1) := by decide +kernel
theorem dX4_cuePlayer_91 : decode cX4_cuePlayer 91 = .ok (.invokestatic 38, 3) := by decide +kernel
theorem dX4_cuePlayer_94 : decode cX4_cuePlayer 94 = .ok (.iaload, 1) := by decide +kernel
theorem dX4_cuePlayer_95 : decode cX4_cuePlayer 95 = .ok (.istore 7, 2) := by decide +kernel
theorem dX4_cuePlayer_97 : decode cX4_cuePlayer 97 = .ok (.iload 6, 2) := by decide +kernel
theorem dX4_cuePlayer_99 : decode cX4_cuePlayer 99 = .ok (.iload_n 1, 1) := by decide +kernel
theorem dX4_cuePlayer_100 : decode cX4_cuePlayer 100 = .ok (.if_icmp .eq 28, 3) := by decide +kernel
theorem dX4_cuePlayer_103 : decode cX4_cuePlayer 103 = .ok (.iload 7, 2) := by decide +kernel
theorem dX4_cuePlayer_105 : decode cX4_cuePlayer 105 = .ok (.iload 5, 2) := by decide +kernel
theorem dX4_cuePlayer_107 : decode cX4_cuePlayer 107 = .ok (.if_icmp .le 21, 3) := by decide +kernel
theorem dX4_cuePlayer_110 : decode cX4_cuePlayer 110 = .ok (.aload_n 0, 1) := by decide +kernel
theorem dX4_cuePlayer_111 : decode cX4_cuePlayer 111 = .ok (.iload 6, 2) := by decide +kernel
theorem dX4_cuePlayer_113 : decode cX4_cuePlayer 113 = .ok (.iload_n 2, 1) := by decide +kernel
theorem dX4_cuePlayer_114 : decode cX4_cuePlayer 114 = .ok (.invokevirtual 44, 3) := by decide +kernel
theorem dX4_cuePlayer_117 : decode cX4_cuePlayer 117 = .ok (.ifCond .ne 11, 3) := by decide +kernel
theorem dX4_cuePlayer_120 : decode cX4_cuePlayer 120 = .ok (.iload 6, 2) := by decide +kernel
theorem dX4_cuePlayer_122 : decode cX4_cuePlayer 122 = .ok (.istore 4, 2) := by decide +kernel
theorem dX4_cuePlayer_124 : decode cX4_cuePlayer 124 = .ok (.iload 7, 2) := by decide +kernel
theorem dX4_cuePlayer_126 : decode cX4_cuePlayer 126 = .ok (.istore 5, 2) := by decide +kernel
theorem dX4_cuePlayer_128 : decode cX4_cuePlayer 128 = .ok (.iinc 6 1, 3) := by decide +kernel
theorem dX4_cuePlayer_131 : decode cX4_cuePlayer 131 = .ok (.goto (-53), 3) := by decide +kernel
theorem dX4_cuePlayer_134 : decode cX4_cuePlayer 134 = .ok (.iload 4, 2) := by decide +kernel
theorem dX4_cuePlayer_136 : decode cX4_cuePlayer 136 = .ok (.ireturn, 1) := by decide +kernel
theorem dX4_silenceAround_0 : decode cX4_silenceAround 0 = .ok (.iconst 0, 1) := by decide +kernel
theorem dX4_silenceAround_1 : decode cX4_silenceAround 1 = .ok (.istore_n 3, 1) := by decide +kernel
theorem dX4_silenceAround_2 : decode cX4_silenceAround 2 = .ok (.iload_n 2, 1) := by decide +kernel
theorem dX4_silenceAround_3 : decode cX4_silenceAround 3 = .ok (.iconst 1, 1) := by decide +kernel
theorem dX4_silenceAround_4 : decode cX4_silenceAround 4 = .ok (.isub, 1) := by decide +kernel
theorem dX4_silenceAround_5 : decode cX4_silenceAround 5 = .ok (.istore 4, 2) := by decide +kernel
theorem dX4_silenceAround_7 : decode cX4_silenceAround 7 = .ok (.iload 4, 2) := by decide +kernel
theorem dX4_silenceAround_9 : decode cX4_silenceAround 9 = .ok (.ifCond .lt 38, 3) := by decide +kernel
theorem dX4_silenceAround_12 : decode cX4_silenceAround 12 = .ok (.aload_n 0, 1) := by decide +kernel
theorem dX4_silenceAround_13 : decode cX4_silenceAround 13 = .ok (.iload_n 1, 1) := by decide +kernel
theorem dX4_silenceAround_14 : decode cX4_silenceAround 14 = .ok (.iload 4, 2) := by decide +kernel
theorem dX4_silenceAround_16 : decode cX4_silenceAround 16 = .ok (.invokevirtual 48, 3) := by decide +kernel
theorem dX4_silenceAround_19 : decode cX4_silenceAround 19 = .ok (.istore 5, 2) := by decide +kernel
theorem dX4_silenceAround_21 : decode cX4_silenceAround 21 = .ok (.iload_n 3, 1) := by decide +kernel
theorem dX4_silenceAround_22 : decode cX4_silenceAround 22 = .ok (.iload 5, 2) := by decide +kernel
theorem dX4_silenceAround_24 : decode cX4_silenceAround 24 = .ok (.iadd, 1) := by decide +kernel
theorem dX4_silenceAround_25 : decode cX4_silenceAround 25 = .ok (.istore_n 3, 1) := by decide +kernel
theorem dX4_silenceAround_26 : decode cX4_silenceAround 26 = .ok (.iload 5, 2) := by decide +kernel
theorem dX4_silenceAround_28 : decode cX4_silenceAround 28 = .ok (.aload_n 0, 1) := by decide +kernel
theorem dX4_silenceAround_29 : decode cX4_silenceAround 29 = .ok (.getfield 9, 3) := by decide +kernel
theorem dX4_silenceAround_32 : decode cX4_silenceAround 32 = .ok (.iload 4, 2) := by decide +kernel
theorem dX4_silenceAround_34 : decode cX4_silenceAround 34 = .ok (.iaload, 1) := by decide +kernel
theorem dX4_silenceAround_35 : decode cX4_silenceAround 35 = .ok (.if_icmp .ge 6, 3) := by decide +kernel
theorem dX4_silenceAround_38 : decode cX4_silenceAround 38 = .ok (.goto 9, 3) := by decide +kernel
theorem dX4_silenceAround_41 : decode cX4_silenceAround 41 = .ok (.iinc 4 (-1), 3) := by decide +kernel
theorem dX4_silenceAround_44 : decode cX4_silenceAround 44 = .ok (.goto (-37), 3) := by decide +kernel
theorem dX4_silenceAround_47 : decode cX4_silenceAround 47 = .ok (.iload_n 2, 1) := by decide +kernel
theorem dX4_silenceAround_48 : decode cX4_silenceAround 48 = .ok (.istore 4, 2) := by decide +kernel
theorem dX4_silenceAround_50 : decode cX4_silenceAround 50 = .ok (.iload 4, 2) := by decide +kernel
theorem dX4_silenceAround_52 : decode cX4_silenceAround 52 = .ok (.aload_n 0, 1) := by decide +kernel
theorem dX4_silenceAround_53 : decode cX4_silenceAround 53 = .ok (.getfield 30, 3) := by decide +kernel
theorem dX4_silenceAround_56 : decode cX4_silenceAround 56 = .ok (.if_icmp .ge 38, 3) := by decide +kernel
theorem dX4_silenceAround_59 : decode cX4_silenceAround 59 = .ok (.aload_n 0, 1) := by decide +kernel
theorem dX4_silenceAround_60 : decode cX4_silenceAround 60 = .ok (.iload_n 1, 1) := by decide +kernel
theorem dX4_silenceAround_61 : decode cX4_silenceAround 61 = .ok (.iload 4, 2) := by decide +kernel
theorem dX4_silenceAround_63 : decode cX4_silenceAround 63 = .ok (.invokevirtual 51, 3) := by decide +kernel
theorem dX4_silenceAround_66 : decode cX4_silenceAround 66 = .ok (.istore 5, 2) := by decide +kernel
theorem dX4_silenceAround_68 : decode cX4_silenceAround 68 = .ok (.iload_n 3, 1) := by decide +kernel
theorem dX4_silenceAround_69 : decode cX4_silenceAround 69 = .ok (.iload 5, 2) := by decide +kernel
theorem dX4_silenceAround_71 : decode cX4_silenceAround 71 = .ok (.iadd, 1) := by decide +kernel
theorem dX4_silenceAround_72 : decode cX4_silenceAround 72 = .ok (.istore_n 3, 1) := by decide +kernel
theorem dX4_silenceAround_73 : decode cX4_silenceAround 73 = .ok (.iload 5, 2) := by decide +kernel
theorem dX4_silenceAround_75 : decode cX4_silenceAround 75 = .ok (.aload_n 0, 1) := by decide +kernel
theorem dX4_silenceAround_76 : decode cX4_silenceAround 76 = .ok (.getfield 9, 3) := by decide +kernel
theorem dX4_silenceAround_79 : decode cX4_silenceAround 79 = .ok (.iload 4, 2) := by decide +kernel
theorem dX4_silenceAround_81 : decode cX4_silenceAround 81 = .ok (.iaload, 1) := by decide +kernel
theorem dX4_silenceAround_82 : decode cX4_silenceAround 82 = .ok (.if_icmp .ge 6, 3) := by decide +kernel
theorem dX4_silenceAround_85 : decode cX4_silenceAround 85 = .ok (.goto 9, 3) := by decide +kernel
theorem dX4_silenceAround_88 : decode cX4_silenceAround 88 = .ok (.iinc 4 1, 3) := by decide +kernel
theorem dX4_silenceAround_91 : decode cX4_silenceAround 91 = .ok (.goto (-41), 3) := by decide +kernel
theorem dX4_silenceAround_94 : decode cX4_silenceAround 94 = .ok (.iload_n 3, 1) := by decide +kernel
theorem dX4_silenceAround_95 : decode cX4_silenceAround 95 = .ok (.ireturn, 1) := by decide +kernel
theorem dX4_silenceAtEnd_0 : decode cX4_silenceAtEnd 0 = .ok (.iload_n 1, 1) := by decide +kernel
theorem dX4_silenceAtEnd_1 : decode cX4_silenceAtEnd 1 = .ok (.iload_n 2, 1) := by decide +kernel
theorem dX4_silenceAtEnd_2 : decode cX4_silenceAtEnd 2 = .ok (.invokestatic 38, 3) := by decide +kernel
theorem dX4_silenceAtEnd_5 : decode cX4_silenceAtEnd 5 = .ok (.istore_n 3, 1) := by decide +kernel
theorem dX4_silenceAtEnd_6 : decode cX4_silenceAtEnd 6 = .ok (.iconst 0, 1) := by decide +kernel
theorem dX4_silenceAtEnd_7 : decode cX4_silenceAtEnd 7 = .ok (.istore 4, 2) := by decide +kernel
theorem dX4_silenceAtEnd_9 : decode cX4_silenceAtEnd 9 = .ok (.iconst 0, 1) := by decide +kernel
theorem dX4_silenceAtEnd_10 : decode cX4_silenceAtEnd 10 = .ok (.istore 5, 2) := by decide +kernel
theorem dX4_silenceAtEnd_12 : decode cX4_silenceAtEnd 12 = .ok (.iconst 0, 1) := by decide +kernel
theorem dX4_silenceAtEnd_13 : decode cX4_silenceAtEnd 13 = .ok (.istore 6, 2) := by decide +kernel
theorem dX4_silenceAtEnd_15 : decode cX4_silenceAtEnd 15 = .ok (.iload 6, 2) := by decide +kernel
theorem dX4_silenceAtEnd_17 : decode cX4_silenceAtEnd 17 = .ok (.aload_n 0, 1) := by decide +kernel
theorem dX4_silenceAtEnd_18 : decode cX4_silenceAtEnd 18 = .ok (.getfield 21, 3) := by decide +kernel
theorem dX4_silenceAtEnd_21 : decode cX4_silenceAtEnd 21 = .ok (.iload_n 3, 1) := by decide +kernel
theorem dX4_silenceAtEnd_22 : decode cX4_silenceAtEnd 22 = .ok (.iaload, 1) := by decide +kernel
theorem dX4_silenceAtEnd_23 : decode cX4_silenceAtEnd 23 = .ok (.if_icmp .ge 35, 3) := by decide +kernel
theorem dX4_silenceAtEnd_26 : decode cX4_silenceAtEnd 26 = .ok (.iload 4, 2) := by decide +kernel
theorem dX4_silenceAtEnd_28 : decode cX4_silenceAtEnd 28 = .ok (.aload_n 0, 1) := by decide +kernel
theorem dX4_silenceAtEnd_29 : decode cX4_silenceAtEnd 29 = .ok (.iload_n 3, 1) := by decide +kernel
theorem dX4_silenceAtEnd_30 : decode cX4_silenceAtEnd 30 = .ok (.iload 6, 2) := by decide +kernel
theorem dX4_silenceAtEnd_32 : decode cX4_silenceAtEnd 32 = .ok (.invokevirtual 34, 3) := by decide +kernel
theorem dX4_silenceAtEnd_35 : decode cX4_silenceAtEnd 35 = .ok (.iadd, 1) := by decide +kernel
theorem dX4_silenceAtEnd_36 : decode cX4_silenceAtEnd 36 = .ok (.istore 4, 2) := by decide +kernel
theorem dX4_silenceAtEnd_38 : decode cX4_silenceAtEnd 38 = .ok (.aload_n 0, 1) := by decide +kernel
theorem dX4_silenceAtEnd_39 : decode cX4_silenceAtEnd 39 = .ok (.iload_n 3, 1) := by decide +kernel
theorem dX4_silenceAtEnd_40 : decode cX4_silenceAtEnd 40 = .ok (.iload 6, 2) := by decide +kernel
theorem dX4_silenceAtEnd_42 : decode cX4_silenceAtEnd 42 = .ok (.invokevirtual 41, 3) := by decide +kernel
theorem dX4_silenceAtEnd_45 : decode cX4_silenceAtEnd 45 = .ok (.ifCond .le 7, 3) := by decide +kernel
theorem dX4_silenceAtEnd_48 : decode cX4_silenceAtEnd 48 = .ok (.iload 4, 2) := by decide +kernel
theorem dX4_silenceAtEnd_50 : decode cX4_silenceAtEnd 50 = .ok (.istore 5, 2) := by decide +kernel
theorem dX4_silenceAtEnd_52 : decode cX4_silenceAtEnd 52 = .ok (.iinc 6 1, 3) := by decide +kernel
theorem dX4_silenceAtEnd_55 : decode cX4_silenceAtEnd 55 = .ok (.goto (-40), 3) := by decide +kernel
theorem dX4_silenceAtEnd_58 : decode cX4_silenceAtEnd 58 = .ok (.aload_n 0, 1) := by decide +kernel
theorem dX4_silenceAtEnd_59 : decode cX4_silenceAtEnd 59 = .ok (.getfield 9, 3) := by decide +kernel
theorem dX4_silenceAtEnd_62 : decode cX4_silenceAtEnd 62 = .ok (.iload_n 2, 1) := by decide +kernel
theorem dX4_silenceAtEnd_63 : decode cX4_silenceAtEnd 63 = .ok (.iaload, 1) := by decide +kernel
theorem dX4_silenceAtEnd_64 : decode cX4_silenceAtEnd 64 = .ok (.iload 5, 2) := by decide +kernel
theorem dX4_silenceAtEnd_66 : decode cX4_silenceAtEnd 66 = .ok (.isub, 1) := by decide +kernel
theorem dX4_silenceAtEnd_67 : decode cX4_silenceAtEnd 67 = .ok (.ireturn, 1) := by decide +kernel
theorem dX4_silenceAtBeginning_0 : decode cX4_silenceAtBeginning 0 = .ok (.iload_n 1, 1) := by decide +kernel
theorem dX4_silenceAtBeginning_1 : decode cX4_silenceAtBeginning 1 = .ok (.iload_n 2, 1) := by decide +kernel
theorem dX4_silenceAtBeginning_2 : decode cX4_silenceAtBeginning 2 = .ok (.invokestatic 38, 3) := by decide +kernel
theorem dX4_silenceAtBeginning_5 : decode cX4_silenceAtBeginning 5 = .ok (.istore_n 3, 1) := by decide +kernel
theorem dX4_silenceAtBeginning_6 : decode cX4_silenceAtBeginning 6 = .ok (.iconst 0, 1) := by decide +kernel
theorem dX4_silenceAtBeginning_7 : decode cX4_silenceAtBeginning 7 = .ok (.istore 4, 2) := by decide +kernel
theorem dX4_silenceAtBeginning_9 : decode cX4_silenceAtBeginning 9 = .ok (.iconst 0, 1) := by decide +kernel
theorem dX4_silenceAtBeginning_10 : decode cX4_silenceAtBeginning 10 = .ok (.istore 5, 2) := by decide +kernel
theorem dX4_silenceAtBeginning_12 : decode cX4_silenceAtBeginning 12 = .ok (.iload 5, 2) := by decide +kernel
theorem dX4_silenceAtBeginning_14 : decode cX4_silenceAtBeginning 14 = .ok (.aload_n 0, 1) := by decide +kernel
theorem dX4_silenceAtBeginning_15 : decode cX4_silenceAtBeginning 15 = .ok (.getfield 21, 3) := by decide +kernel
theorem dX4_silenceAtBeginning_18 : decode cX4_silenceAtBeginning 18 = .ok (.iload_n 3, 1) := by decide +kernel
theorem dX4_silenceAtBeginning_19 : decode cX4_silenceAtBeginning 19 = .ok (.iaload, 1) := by decide +kernel
theorem dX4_silenceAtBeginning_20 : decode cX4_silenceAtBeginning 20 = .ok (.if_icmp .ge 34, 3) := by decide +kernel
theorem dX4_silenceAtBeginning_23 : decode cX4_silenceAtBeginning 23 = .ok (.aload_n 0, 1) := by decide +kernel
theorem dX4_silenceAtBeginning_24 : decode cX4_silenceAtBeginning 24 = .ok (.iload_n 3, 1) := by decide +kernel
theorem dX4_silenceAtBeginning_25 : decode cX4_silenceAtBeginning 25 = .ok (.iload 5, 2) := by decide +kernel
theorem dX4_silenceAtBeginning_27 : decode cX4_silenceAtBeginning 27 = .ok (.invokevirtual 41, 3) := by decide +kernel
theorem dX4_silenceAtBeginning_30 : decode cX4_silenceAtBeginning 30 = .ok (.ifCond .le 6, 3) := by decide +kernel
theorem dX4_silenceAtBeginning_33 : decode cX4_silenceAtBeginning 33 = .ok (.iload 4, 2) := by decide +kernel
theorem dX4_silenceAtBeginning_35 : decode cX4_silenceAtBeginning 35 = .ok (.ireturn, 1) := by decide +kernel
theorem dX4_silenceAtBeginning_36 : decode cX4_silenceAtBeginning 36 = .ok (.iload 4, 2) := by decide +kernel
theorem dX4_silenceAtBeginning_38 : decode cX4_silenceAtBeginning 38 = .ok (.aload_n 0, 1) := by decide +kernel
theorem dX4_silenceAtBeginning_39 : decode cX4_silenceAtBeginning 39 = .ok (.iload_n 3, 1) := by decide +kernel
theorem dX4_silenceAtBeginning_40 : decode cX4_silenceAtBeginning 40 = .ok (.iload 5, 2) := by decide +kernel
theorem dX4_silenceAtBeginning_42 : decode cX4_silenceAtBeginning 42 = .ok (.invokevirtual 34, 3) := by decide +kernel
theorem dX4_silenceAtBeginning_45 : decode cX4_silenceAtBeginning 45 = .ok (.iadd, 1) := by decide +kernel
theorem dX4_silenceAtBeginning_46 : decode cX4_silenceAtBeginning 46 = .ok (.istore 4, 2) := by decide +kernel
theorem dX4_silenceAtBeginning_48 : decode cX4_silenceAtBeginning 48 = .ok (.iinc 5 1, 3) := by decide +kernel
theorem dX4_silenceAtBeginning_51 : decode cX4_silenceAtBeginning 51 = .ok (.goto (-39), 3) := by decide +kernel
theorem dX4_silenceAtBeginning_54 : decode cX4_silenceAtBeginning 54 = .ok (.aload_n 0, 1) := by decide +kernel
theorem dX4_silenceAtBeginning_55 : decode cX4_silenceAtBeginning 55 = .ok (.getfield 9, 3) := by decide +kernel
theorem dX4_silenceAtBeginning_58 : decode cX4_silenceAtBeginning 58 = .ok (.iload_n 2, 1) := by decide +kernel
theorem dX4_silenceAtBeginning_59 : decode cX4_silenceAtBeginning 59 = .ok (.iaload, 1) := by decide +kernel
theorem dX4_silenceAtBeginning_60 : decode cX4_silenceAtBeginning 60 = .ok (.ireturn, 1) := by decide +kernel
theorem dX5_init_0 : decode cX5_init 0 = .ok (.aload_n 0, 1) := by decide +kernel
theorem dX5_init_1 : decode cX5_init 1 = .ok (.invokespecial 3, 3) := by decide +kernel
theorem dX5_init_4 : decode cX5_init 4 = .ok (.aload_n 0, 1) := by decide +kernel
theorem dX5_init_5 : decode cX5_init 5 = .ok (.bipush 32, 2) := by decide +kernel
theorem dX5_init_7 : decode cX5_init 7 = .ok (.newarray .int, 2) := by decide +kernel
theorem dX5_init_9 : decode cX5_init 9 = .ok (.putfield 9, 3) := by decide +kernel
theorem dX5_init_12 : decode cX5_init 12 = .ok (.aload_n 0, 1) := by decide +kernel
theorem dX5_init_13 : decode cX5_init 13 = .ok (.bipush 33, 2) := by decide +kernel
theorem dX5_init_15 : decode cX5_init 15 = .ok (.newarray .int, 2) := by decide +kernel
theorem dX5_init_17 : decode cX5_init 17 = .ok (.putfield 15, 3) := by decide +kernel
theorem dX5_init_20 : decode cX5_init 20 = .ok (.aload_n 0, 1) := by decide +kernel
theorem dX5_init_21 : decode cX5_init 21 = .ok (.bipush 33, 2) := by decide +kernel
theorem dX5_init_23 : decode cX5_init 23 = .ok (.newarray .int, 2) := by decide +kernel
theorem dX5_init_25 : decode cX5_init 25 = .ok (.putfield 18, 3) := by decide +kernel
theorem dX5_init_28 : decode cX5_init 28 = .ok (.aload_n 0, 1) := by decide +kernel
theorem dX5_init_29 : decode cX5_init 29 = .ok (.bipush 32, 2) := by decide +kernel
theorem dX5_init_31 : decode cX5_init 31 = .ok (.newarray .int, 2) := by decide +kernel
theorem dX5_init_33 : decode cX5_init 33 = .ok (.putfield 21, 3) := by decide +kernel
theorem dX5_init_36 : decode cX5_init 36 = .ok (.return_, 1) := by decide +kernel
theorem dX5_draw_0 : decode cX5_draw 0 = .ok (.aload_n 0, 1) := by decide +kernel
theorem dX5_draw_1 : decode cX5_draw 1 = .ok (.iconst 0, 1) := by decide +kernel
theorem dX5_draw_2 : decode cX5_draw 2 = .ok (.putfield 24, 3) := by decide +kernel
theorem dX5_draw_5 : decode cX5_draw 5 = .ok (.iload_n 2, 1) := by decide +kernel
theorem dX5_draw_6 : decode cX5_draw 6 = .ok (.iconst (-1), 1) := by decide +kernel
theorem dX5_draw_7 : decode cX5_draw 7 = .ok (.if_icmp .ne 13, 3) := by decide +kernel
theorem dX5_draw_10 : decode cX5_draw 10 = .ok (.aload_n 0, 1) := by decide +kernel
theorem dX5_draw_11 : decode cX5_draw 11 = .ok (.iconst 0, 1) := by decide +kernel
theorem dX5_draw_12 : decode cX5_draw 12 = .ok (.bipush 24, 2) := by decide +kernel
theorem dX5_draw_14 : decode cX5_draw 14 = .ok (.bipush 16, 2) := by decide +kernel
theorem dX5_draw_16 : decode cX5_draw 16 = .ok (.invokevirtual 28, 3) := by decide +kernel
theorem dX5_draw_19 : decode cX5_draw 19 = .ok (.return_, 1) := by decide +kernel
theorem dX5_draw_20 : decode cX5_draw 20 = .ok (.aload_n 0, 1) := by decide +kernel
theorem dX5_draw_21 : decode cX5_draw 21 = .ok (.getfield 21, 3) := by decide +kernel
theorem dX5_draw_24 : decode cX5_draw 24 = .ok (.iconst (-1), 1) := by decide +kernel
theorem dX5_draw_25 : decode cX5_draw 25 = .ok (.invokestatic 32, 3) := by decide +kernel
theorem dX5_draw_28 : decode cX5_draw 28 = .ok (.iconst 0, 1) := by decide +kernel
theorem dX5_draw_29 : decode cX5_draw 29 = .ok (.istore 4, 2) := by decide +kernel
theorem dX5_draw_31 : decode cX5_draw 31 = .ok (.iload 4, 2) := by decide +kernel
theorem dX5_draw_33 : decode cX5_draw 33 = .ok (.iconst 5, 1) := by decide +kernel
theorem dX5_draw_34 : decode cX5_draw 34 = .ok (.if_icmp .ge 37, 3) := by decide +kernel
theorem dX5_draw_37 : decode cX5_draw 37 = .ok (.iload_n 2, 1) := by decide +kernel
theorem dX5_draw_38 : decode cX5_draw 38 = .ok (.iconst 5, 1) := by decide +kernel
theorem dX5_draw_39 : decode cX5_draw 39 = .ok (.if_icmp .eq 9, 3) := by decide +kernel
theorem dX5_draw_42 : decode cX5_draw 42 = .ok (.iload_n 2, 1) := by decide +kernel
theorem dX5_draw_43 : decode cX5_draw 43 = .ok (.iload 4, 2) := by decide +kernel
theorem dX5_draw_45 : decode cX5_draw 45 = .ok (.if_icmp .ne 20, 3) := by decide +kernel
theorem dX5_draw_48 : decode cX5_draw 48 = .ok (.aload_n 0, 1) := by decide +kernel
theorem dX5_draw_49 : decode cX5_draw 49 = .ok (.aload_n 1, 1) := by decide +kernel
theorem dX5_draw_50 : decode cX5_draw 50 = .ok (.iload 4, 2) := by decide +kernel
theorem dX5_draw_52 : decode cX5_draw 52 = .ok (.iload_n 3, 1) := by decide +kernel
theorem dX5_draw_53 : decode cX5_draw 53 = .ok (.invokestatic 38, 3) := by decide +kernel
theorem dX5_draw_56 : decode cX5_draw 56 = .ok (.aload_n 1, 1) := by decide +kernel
theorem dX5_draw_57 : decode cX5_draw 57 = .ok (.getfield 42, 3) := by decide +kernel
theorem dX5_draw_60 : decode cX5_draw 60 = .ok (.iload_n 3, 1) := by decide +kernel
theorem dX5_draw_61 : decode cX5_draw 61 = .ok (.iaload, 1) := by decide +kernel
theorem dX5_draw_62 : decode cX5_draw 62 = .ok (.invokevirtual 47, 3) := by decide +kernel
theorem dX5_draw_65 : decode cX5_draw 65 = .ok (.iinc 4 1, 3) := by decide +kernel
theorem dX5_draw_68 : decode cX5_draw 68 = .ok (.goto (-37), 3) := by decide +kernel
theorem dX5_draw_71 : decode cX5_draw 71 = .ok (.aload_n 0, 1) := by decide +kernel
theorem dX5_draw_72 : decode cX5_draw 72 = .ok (.aload_n 1, 1) := by decide +kernel
theorem dX5_draw_73 : decode cX5_draw 73 = .ok (.getfield 42, 3) := by decide +kernel
theorem dX5_draw_76 : decode cX5_draw 76 = .ok (.iload_n 3, 1) := by decide +kernel
theorem dX5_draw_77 : decode cX5_draw 77 = .ok (.iaload, 1) := by decide +kernel
theorem dX5_draw_78 : decode cX5_draw 78 = .ok (.invokevirtual 51, 3) := by decide +kernel
theorem dX5_draw_81 : decode cX5_draw 81 = .ok (.return_, 1) := by decide +kernel
theorem dX5_addPlaces_0 : decode cX5_addPlaces 0 = .ok (.iconst 0, 1) := by decide +kernel
theorem dX5_addPlaces_1 : decode cX5_addPlaces 1 = .ok (.istore 4, 2) := by decide +kernel
theorem dX5_addPlaces_3 : decode cX5_addPlaces 3 = .ok (.iconst 0, 1) := by decide +kernel
theorem dX5_addPlaces_4 : decode cX5_addPlaces 4 = .ok (.istore 5, 2) := by decide +kernel
theorem dX5_addPlaces_6 : decode cX5_addPlaces 6 = .ok (.iload 5, 2) := by decide +kernel
theorem dX5_addPlaces_8 : decode cX5_addPlaces 8 = .ok (.aload_n 1, 1) := by decide +kernel
theorem dX5_addPlaces_9 : decode cX5_addPlaces 9 = .ok (.getfield 55, 3) := by decide +kernel
theorem dX5_addPlaces_12 : decode cX5_addPlaces 12 = .ok (.iload_n 2, 1) := by decide +kernel
theorem dX5_addPlaces_13 : decode cX5_addPlaces 13 = .ok (.iaload, 1) := by decide +kernel
theorem dX5_addPlaces_14 : decode cX5_addPlaces 14 = .ok (.if_icmp .ge 48, 3) := by decide +kernel
theorem dX5_addPlaces_17 : decode cX5_addPlaces 17 = .ok (.iload 4, 2) := by decide +kernel
theorem dX5_addPlaces_19 : decode cX5_addPlaces 19 = .ok (.iload_n 3, 1) := by decide +kernel
theorem dX5_addPlaces_20 : decode cX5_addPlaces 20 = .ok (.if_icmp .ge 42, 3) := by decide +kernel
theorem dX5_addPlaces_23 : decode cX5_addPlaces 23 = .ok (.aload_n 0, 1) := by decide +kernel
theorem dX5_addPlaces_24 : decode cX5_addPlaces 24 = .ok (.iload 4, 2) := by decide +kernel
theorem dX5_addPlaces_26 : decode cX5_addPlaces 26 = .ok (.aload_n 1, 1) := by decide +kernel
theorem dX5_addPlaces_27 : decode cX5_addPlaces 27 = .ok (.iload_n 2, 1) := by decide +kernel
theorem dX5_addPlaces_28 : decode cX5_addPlaces 28 = .ok (.iload 5, 2) := by decide +kernel
theorem dX5_addPlaces_30 : decode cX5_addPlaces 30 = .ok (.invokevirtual 58, 3) := by decide +kernel
theorem dX5_addPlaces_33 : decode cX5_addPlaces 33 = .ok (.ifCond .le 7, 3) := by decide +kernel
theorem dX5_addPlaces_36 : decode cX5_addPlaces 36 = .ok (.iconst 1, 1) := by decide +kernel
theorem dX5_addPlaces_37 : decode cX5_addPlaces 37 = .ok (.goto 4, 3) := by decide +kernel
theorem dX5_addPlaces_40 : decode cX5_addPlaces 40 = .ok (.iconst 0, 1) := by decide +kernel
theorem dX5_addPlaces_41 : decode cX5_addPlaces 41 = .ok (.invokevirtual 61, 3) := by decide +kernel
theorem dX5_addPlaces_44 : decode cX5_addPlaces 44 = .ok (.iload 4, 2) := by decide +kernel
theorem dX5_addPlaces_46 : decode cX5_addPlaces 46 = .ok (.aload_n 1, 1) := by decide +kernel
theorem dX5_addPlaces_47 : decode cX5_addPlaces 47 = .ok (.iload_n 2, 1) := by decide +kernel
theorem dX5_addPlaces_48 : decode cX5_addPlaces 48 = .ok (.iload 5, 2) := by decide +kernel
theorem dX5_addPlaces_50 : decode cX5_addPlaces 50 = .ok (.invokevirtual 65, 3) := by decide +kernel
theorem dX5_addPlaces_53 : decode cX5_addPlaces 53 = .ok (.iadd, 1) := by decide +kernel
theorem dX5_addPlaces_54 : decode cX5_addPlaces 54 = .ok (.istore 4, 2) := by decide +kernel
theorem dX5_addPlaces_56 : decode cX5_addPlaces 56 = .ok (.iinc 5 1, 3) := by decide +kernel
theorem dX5_addPlaces_59 : decode cX5_addPlaces 59 = .ok (.goto (-53), 3) := by decide +kernel
theorem dX5_addPlaces_62 : decode cX5_addPlaces 62 = .ok (.iload 4, 2) := by decide +kernel
theorem dX5_addPlaces_64 : decode cX5_addPlaces 64 = .ok (.iload_n 3, 1) := by decide +kernel
theorem dX5_addPlaces_65 : decode cX5_addPlaces 65 = .ok (.if_icmp .ge 10, 3) := by decide +kernel
theorem dX5_addPlaces_68 : decode cX5_addPlaces 68 = .ok (.aload_n 0, 1) := by decide +kernel
theorem dX5_addPlaces_69 : decode cX5_addPlaces 69 = .ok (.iload 4, 2) := by decide +kernel
theorem dX5_addPlaces_71 : decode cX5_addPlaces 71 = .ok (.iconst 0, 1) := by decide +kernel
theorem dX5_addPlaces_72 : decode cX5_addPlaces 72 = .ok (.invokevirtual 61, 3) := by decide +kernel
theorem dX5_addPlaces_75 : decode cX5_addPlaces 75 = .ok (.return_, 1) := by decide +kernel
theorem dX5_addPlace_0 : decode cX5_addPlace 0 = .ok (.aload_n 0, 1) := by decide +kernel
theorem dX5_addPlace_1 : decode cX5_addPlace 1 = .ok (.getfield 21, 3) := by decide +kernel
theorem dX5_addPlace_4 : decode cX5_addPlace 4 = .ok (.iload_n 1, 1) := by decide +kernel
theorem dX5_addPlace_5 : decode cX5_addPlace 5 = .ok (.iaload, 1) := by decide +kernel
theorem dX5_addPlace_6 : decode cX5_addPlace 6 = .ok (.iconst (-1), 1) := by decide +kernel
theorem dX5_addPlace_7 : decode cX5_addPlace 7 = .ok (.if_icmp .ne 10, 3) := by decide +kernel
theorem dX5_addPlace_10 : decode cX5_addPlace 10 = .ok (.aload_n 0, 1) := by decide +kernel
theorem dX5_addPlace_11 : decode cX5_addPlace 11 = .ok (.getfield 21, 3) := by decide +kernel
theorem dX5_addPlace_14 : decode cX5_addPlace 14 = .ok (.iload_n 1, 1) := by decide +kernel
theorem dX5_addPlace_15 : decode cX5_addPlace 15 = .ok (.iconst 0, 1) := by decide +kernel
theorem dX5_addPlace_16 : decode cX5_addPlace 16 = .ok (.iastore, 1) := by decide +kernel
theorem dX5_addPlace_17 : decode cX5_addPlace 17 = .ok (.iload_n 2, 1) := by decide +kernel
theorem dX5_addPlace_18 : decode cX5_addPlace 18 = .ok (.ifCond .eq 13, 3) := by decide +kernel
theorem dX5_addPlace_21 : decode cX5_addPlace 21 = .ok (.aload_n 0, 1) := by decide +kernel
theorem dX5_addPlace_22 : decode cX5_addPlace 22 = .ok (.getfield 21, 3) := by decide +kernel
theorem dX5_addPlace_25 : decode cX5_addPlace 25 = .ok (.iload_n 1, 1) := by decide +kernel
theorem dX5_addPlace_26 : decode cX5_addPlace 26 = .ok (.dup2, 1) := by decide +kernel
theorem dX5_addPlace_27 : decode cX5_addPlace 27 = .ok (.iaload, 1) := by decide +kernel
theorem dX5_addPlace_28 : decode cX5_addPlace 28 = .ok (.iconst 1, 1) := by decide +kernel
theorem dX5_addPlace_29 : decode cX5_addPlace 29 = .ok (.iadd, 1) := by decide +kernel
theorem dX5_addPlace_30 : decode cX5_addPlace 30 = .ok (.iastore, 1) := by decide +kernel
theorem dX5_addPlace_31 : decode cX5_addPlace 31 = .ok (.return_, 1) := by decide +kernel
theorem dX5_addSprings_0 : decode cX5_addSprings 0 = .ok (.iconst 0, 1) := by decide +kernel
theorem dX5_addSprings_1 : decode cX5_addSprings 1 = .ok (.istore_n 2, 1) := by decide +kernel
theorem dX5_addSprings_2 : decode cX5_addSprings 2 = .ok (.iload_n 2, 1) := by decide +kernel
theorem dX5_addSprings_3 : decode cX5_addSprings 3 = .ok (.iload_n 1, 1) := by decide +kernel
theorem dX5_addSprings_4 : decode cX5_addSprings 4 = .ok (.if_icmp .ge 53, 3) := by decide +kernel
theorem dX5_addSprings_7 : decode cX5_addSprings 7 = .ok (.aload_n 0, 1) := by decide +kernel
theorem dX5_addSprings_8 : decode cX5_addSprings 8 = .ok (.getfield 21, 3) := by decide +kernel
theorem dX5_addSprings_11 : decode cX5_addSprings 11 = .ok (.iload_n 2, 1) := by decide +kernel
theorem dX5_addSprings_12 : decode cX5_addSprings 12 = .ok (.iaload, 1) := by decide +kernel
theorem dX5_addSprings_13 : decode cX5_addSprings 13 = .ok (.iconst (-1), 1) := by decide +kernel
theorem dX5_addSprings_14 : decode cX5_addSprings 14 = .ok (.if_icmp .eq 37, 3) := by decide +kernel
theorem dX5_addSprings_17 : decode cX5_addSprings 17 = .ok (.iconst 4, 1) := by decide +kernel
theorem dX5_addSprings_18 : decode cX5_addSprings 18 = .ok (.aload_n 0, 1) := by decide +kernel
theorem dX5_addSprings_19 : decode cX5_addSprings 19 = .ok (.getfield 21, 3) := by decide +kernel
theorem dX5_addSprings_22 : decode cX5_addSprings 22 = .ok (.iload_n 2, 1) := by decide +kernel
theorem dX5_addSprings_23 : decode cX5_addSprings 23 = .ok (.iaload, 1) := by decide +kernel
theorem dX5_addSprings_24 : decode cX5_addSprings 24 = .ok (.iadd, 1) := by decide +kernel
theorem dX5_addSprings_25 : decode cX5_addSprings 25 = .ok (.istore_n 3, 1) := by decide +kernel
theorem dX5_addSprings_26 : decode cX5_addSprings 26 = .ok (.aload_n 0, 1) := by decide +kernel
theorem dX5_addSprings_27 : decode cX5_addSprings 27 = .ok (.iload_n 2, 1) := by decide +kernel
theorem dX5_addSprings_28 : decode cX5_addSprings 28 = .ok (.iload_n 1, 1) := by decide +kernel
theorem dX5_addSprings_29 : decode cX5_addSprings 29 = .ok (.invokevirtual 68, 3) := by decide +kernel
theorem dX5_addSprings_32 : decode cX5_addSprings 32 = .ok (.iload_n 2, 1) := by decide +kernel
theorem dX5_addSprings_33 : decode cX5_addSprings 33 = .ok (.isub, 1) := by decide +kernel
theorem dX5_addSprings_34 : decode cX5_addSprings 34 = .ok (.invokestatic 71, 3) := by decide +kernel
theorem dX5_addSprings_37 : decode cX5_addSprings 37 = .ok (.istore 4, 2) := by decide +kernel
theorem dX5_addSprings_39 : decode cX5_addSprings 39 = .ok (.aload_n 0, 1) := by decide +kernel
theorem dX5_addSprings_40 : decode cX5_addSprings 40 = .ok (.iload_n 2, 1) := by decide +kernel
theorem dX5_addSprings_41 : decode cX5_addSprings 41 = .ok (.iload 4, 2) := by decide +kernel
theorem dX5_addSprings_43 : decode cX5_addSprings 43 = .ok (.iload_n 3, 1) := by decide +kernel
theorem dX5_addSprings_44 : decode cX5_addSprings 44 = .ok (.invokestatic 75, 3) := by decide +kernel
theorem dX5_addSprings_47 : decode cX5_addSprings 47 = .ok (.iload_n 3, 1) := by decide +kernel
theorem dX5_addSprings_48 : decode cX5_addSprings 48 = .ok (.invokevirtual 28, 3) := by decide +kernel
theorem dX5_addSprings_51 : decode cX5_addSprings 51 = .ok (.iinc 2 1, 3) := by decide +kernel
theorem dX5_addSprings_54 : decode cX5_addSprings 54 = .ok (.goto (-52), 3) := by decide +kernel
theorem dX5_addSprings_57 : decode cX5_addSprings 57 = .ok (.return_, 1) := by decide +kernel
theorem dX5_nextPlace_0 : decode cX5_nextPlace 0 = .ok (.iload_n 1, 1) := by decide +kernel
theorem dX5_nextPlace_1 : decode cX5_nextPlace 1 = .ok (.iconst 1, 1) := by decide +kernel
theorem dX5_nextPlace_2 : decode cX5_nextPlace 2 = .ok (.iadd, 1) := by decide +kernel
theorem dX5_nextPlace_3 : decode cX5_nextPlace 3 = .ok (.istore_n 3, 1) := by decide +kernel
theorem dX5_nextPlace_4 : decode cX5_nextPlace 4 = .ok (.iload_n 3, 1) := by decide +kernel
theorem dX5_nextPlace_5 : decode cX5_nextPlace 5 = .ok (.iload_n 2, 1) := by decide +kernel
theorem dX5_nextPlace_6 : decode cX5_nextPlace 6 = .ok (.if_icmp .ge 21, 3) := by decide +kernel
theorem dX5_nextPlace_9 : decode cX5_nextPlace 9 = .ok (.aload_n 0, 1) := by decide +kernel
theorem dX5_nextPlace_10 : decode cX5_nextPlace 10 = .ok (.getfield 21, 3) := by decide +kernel
theorem dX5_nextPlace_13 : decode cX5_nextPlace 13 = .ok (.iload_n 3, 1) := by decide +kernel
theorem dX5_nextPlace_14 : decode cX5_nextPlace 14 = .ok (.iaload, 1) := by decide +kernel
theorem dX5_nextPlace_15 : decode cX5_nextPlace 15 = .ok (.iconst (-1), 1) := by decide +kernel
theorem dX5_nextPlace_16 : decode cX5_nextPlace 16 = .ok (.if_icmp .eq 5, 3) := by decide +kernel
theorem dX5_nextPlace_19 : decode cX5_nextPlace 19 = .ok (.iload_n 3, 1) := by decide +kernel
theorem dX5_nextPlace_20 : decode cX5_nextPlace 20 = .ok (.ireturn, 1) := by decide +kernel
theorem dX5_nextPlace_21 : decode cX5_nextPlace 21 = .ok (.iinc 3 1, 3) := by decide +kernel
theorem dX5_nextPlace_24 : decode cX5_nextPlace 24 = .ok (.goto (-20), 3) := by decide +kernel
theorem dX5_nextPlace_27 : decode cX5_nextPlace 27 = .ok (.iload_n 2, 1) := by decide +kernel
theorem dX5_nextPlace_28 : decode cX5_nextPlace 28 = .ok (.ireturn, 1) := by decide +kernel
theorem dX5_naturalWidth_0 : decode cX5_naturalWidth 0 = .ok (.bipush 6, 2) := by decide +kernel
theorem dX5_naturalWidth_2 : decode cX5_naturalWidth 2 = .ok (.istore_n 1, 1) := by decide +kernel
theorem dX5_naturalWidth_3 : decode cX5_naturalWidth 3 = .ok (.iload_n 0, 1) := by decide +kernel
theorem dX5_naturalWidth_4 : decode cX5_naturalWidth 4 = .ok (.istore_n 2, 1) := by decide +kernel
theorem dX5_naturalWidth_5 : decode cX5_naturalWidth 5 = .ok (.iload_n 2, 1) := by decide +kernel
theorem dX5_naturalWidth_6 : decode cX5_naturalWidth 6 = .ok (.iconst 1, 1) := by decide +kernel
theorem dX5_naturalWidth_7 : decode cX5_naturalWidth 7 = .ok (.if_icmp .le 13, 3) := by decide +kernel
theorem dX5_naturalWidth_10 : decode cX5_naturalWidth 10 = .ok (.iinc 1 3, 3) := by decide +kernel
theorem dX5_naturalWidth_13 : decode cX5_naturalWidth 13 = .ok (.iload_n 2, 1) := by decide +kernel
theorem dX5_naturalWidth_14 : decode cX5_naturalWidth 14 = .ok (.iconst 2, 1) := by decide +kernel
theorem dX5_naturalWidth_15 : decode cX5_naturalWidth 15 = .ok (.idiv, 1) := by decide +kernel
theorem dX5_naturalWidth_16 : decode cX5_naturalWidth 16 = .ok (.istore_n 2, 1) := by decide +kernel
theorem dX5_naturalWidth_17 : decode cX5_naturalWidth 17 = .ok (.goto (-12), 3) := by decide +kernel
theorem dX5_naturalWidth_20 : decode cX5_naturalWidth 20 = .ok (.iload_n 1, 1) := by decide +kernel
theorem dX5_naturalWidth_21 : decode cX5_naturalWidth 21 = .ok (.ireturn, 1) := by decide +kernel
theorem dX5_addSpring_0 : decode cX5_addSpring 0 = .ok (.aload_n 0, 1) := by decide +kernel
theorem dX5_addSpring_1 : decode cX5_addSpring 1 = .ok (.getfield 9, 3) := by decide +kernel
theorem dX5_addSpring_4 : decode cX5_addSpring 4 = .ok (.aload_n 0, 1) := by decide +kernel
theorem dX5_addSpring_5 : decode cX5_addSpring 5 = .ok (.getfield 24, 3) := by decide +kernel
theorem dX5_addSpring_8 : decode cX5_addSpring 8 = .ok (.iload_n 1, 1) := by decide +kernel
theorem dX5_addSpring_9 : decode cX5_addSpring 9 = .ok (.iastore, 1) := by decide +kernel
theorem dX5_addSpring_10 : decode cX5_addSpring 10 = .ok (.aload_n 0, 1) := by decide +kernel
theorem dX5_addSpring_11 : decode cX5_addSpring 11 = .ok (.getfield 15, 3) := by decide +kernel
theorem dX5_addSpring_14 : decode cX5_addSpring 14 = .ok (.aload_n 0, 1) := by decide +kernel
theorem dX5_addSpring_15 : decode cX5_addSpring 15 = .ok (.getfield 24, 3) := by decide +kernel
theorem dX5_addSpring_18 : decode cX5_addSpring 18 = .ok (.iconst 1, 1) := by decide +kernel
theorem dX5_addSpring_19 : decode cX5_addSpring 19 = .ok (.iadd, 1) := by decide +kernel
theorem dX5_addSpring_20 : decode cX5_addSpring 20 = .ok (.aload_n 0, 1) := by decide +kernel
theorem dX5_addSpring_21 : decode cX5_addSpring 21 = .ok (.getfield 15, 3) := by decide +kernel
theorem dX5_addSpring_24 : decode cX5_addSpring 24 = .ok (.aload_n 0, 1) := by decide +kernel
theorem dX5_addSpring_25 : decode cX5_addSpring 25 = .ok (.getfield 24, 3) := by decide +kernel
theorem dX5_addSpring_28 : decode cX5_addSpring 28 = .ok (.iaload, 1) := by decide +kernel
theorem dX5_addSpring_29 : decode cX5_addSpring 29 = .ok (.iload_n 2, 1) := by decide +kernel
theorem dX5_addSpring_30 : decode cX5_addSpring 30 = .ok (.iadd, 1) := by decide +kernel
theorem dX5_addSpring_31 : decode cX5_addSpring 31 = .ok (.iastore, 1) := by decide +kernel
theorem dX5_addSpring_32 : decode cX5_addSpring 32 = .ok (.aload_n 0, 1) := by decide +kernel
theorem dX5_addSpring_33 : decode cX5_addSpring 33 = .ok (.getfield 18, 3) := by decide +kernel
theorem dX5_addSpring_36 : decode cX5_addSpring 36 = .ok (.aload_n 0, 1) := by decide +kernel
theorem dX5_addSpring_37 : decode cX5_addSpring 37 = .ok (.getfield 24, 3) := by decide +kernel
theorem dX5_addSpring_40 : decode cX5_addSpring 40 = .ok (.iconst 1, 1) := by decide +kernel
theorem dX5_addSpring_41 : decode cX5_addSpring 41 = .ok (.iadd, 1) := by decide +kernel
theorem dX5_addSpring_42 : decode cX5_addSpring 42 = .ok (.aload_n 0, 1) := by decide +kernel
theorem dX5_addSpring_43 : decode cX5_addSpring 43 = .ok (.getfield 18, 3) := by decide +kernel
theorem dX5_addSpring_46 : decode cX5_addSpring 46 = .ok (.aload_n 0, 1) := by decide +kernel
theorem dX5_addSpring_47 : decode cX5_addSpring 47 = .ok (.getfield 24, 3) := by decide +kernel
theorem dX5_addSpring_50 : decode cX5_addSpring 50 = .ok (.iaload, 1) := by decide +kernel
theorem dX5_addSpring_51 : decode cX5_addSpring 51 = .ok (.iload_n 3, 1) := by decide +kernel
theorem dX5_addSpring_52 : decode cX5_addSpring 52 = .ok (.iadd, 1) := by decide +kernel
theorem dX5_addSpring_53 : decode cX5_addSpring 53 = .ok (.iastore, 1) := by decide +kernel
theorem dX5_addSpring_54 : decode cX5_addSpring 54 = .ok (.aload_n 0, 1) := by decide +kernel
theorem dX5_addSpring_55 : decode cX5_addSpring 55 = .ok (.dup, 1) := by decide +kernel
theorem dX5_addSpring_56 : decode cX5_addSpring 56 = .ok (.getfield 24, 3) := by decide +kernel
theorem dX5_addSpring_59 : decode cX5_addSpring 59 = .ok (.iconst 1, 1) := by decide +kernel
theorem dX5_addSpring_60 : decode cX5_addSpring 60 = .ok (.iadd, 1) := by decide +kernel
theorem dX5_addSpring_61 : decode cX5_addSpring 61 = .ok (.putfield 24, 3) := by decide +kernel
theorem dX5_addSpring_64 : decode cX5_addSpring 64 = .ok (.return_, 1) := by decide +kernel
theorem dX5_widthOfAll_0 : decode cX5_widthOfAll 0 = .ok (.aload_n 0, 1) := by decide +kernel
theorem dX5_widthOfAll_1 : decode cX5_widthOfAll 1 = .ok (.getfield 15, 3) := by decide +kernel
theorem dX5_widthOfAll_4 : decode cX5_widthOfAll 4 = .ok (.aload_n 0, 1) := by decide +kernel
theorem dX5_widthOfAll_5 : decode cX5_widthOfAll 5 = .ok (.getfield 24, 3) := by decide +kernel
theorem dX5_widthOfAll_8 : decode cX5_widthOfAll 8 = .ok (.iaload, 1) := by decide +kernel
theorem dX5_widthOfAll_9 : decode cX5_widthOfAll 9 = .ok (.ireturn, 1) := by decide +kernel
theorem dX5_leastOfAll_0 : decode cX5_leastOfAll 0 = .ok (.aload_n 0, 1) := by decide +kernel
theorem dX5_leastOfAll_1 : decode cX5_leastOfAll 1 = .ok (.getfield 18, 3) := by decide +kernel
theorem dX5_leastOfAll_4 : decode cX5_leastOfAll 4 = .ok (.aload_n 0, 1) := by decide +kernel
theorem dX5_leastOfAll_5 : decode cX5_leastOfAll 5 = .ok (.getfield 24, 3) := by decide +kernel
theorem dX5_leastOfAll_8 : decode cX5_leastOfAll 8 = .ok (.iaload, 1) := by decide +kernel
theorem dX5_leastOfAll_9 : decode cX5_leastOfAll 9 = .ok (.ireturn, 1) := by decide +kernel
theorem dX5_springFrom_0 : decode cX5_springFrom 0 = .ok (.iconst 0, 1) := by decide +kernel
theorem dX5_springFrom_1 : decode cX5_springFrom 1 = .ok (.istore_n 2, 1) := by decide +kernel
theorem dX5_springFrom_2 : decode cX5_springFrom 2 = .ok (.iload_n 2, 1) := by decide +kernel
theorem dX5_springFrom_3 : decode cX5_springFrom 3 = .ok (.aload_n 0, 1) := by decide +kernel
theorem dX5_springFrom_4 : decode cX5_springFrom 4 = .ok (.getfield 24, 3) := by decide +kernel
theorem dX5_springFrom_7 : decode cX5_springFrom 7 = .ok (.if_icmp .ge 21, 3) := by decide +kernel
theorem dX5_springFrom_10 : decode cX5_springFrom 10 = .ok (.aload_n 0, 1) := by decide +kernel
theorem dX5_springFrom_11 : decode cX5_springFrom 11 = .ok (.getfield 9, 3) := by decide +kernel
theorem dX5_springFrom_14 : decode cX5_springFrom 14 = .ok (.iload_n 2, 1) := by decide +kernel
theorem dX5_springFrom_15 : decode cX5_springFrom 15 = .ok (.iaload, 1) := by decide +kernel
theorem dX5_springFrom_16 : decode cX5_springFrom 16 = .ok (.iload_n 1, 1) := by decide +kernel
theorem dX5_springFrom_17 : decode cX5_springFrom 17 = .ok (.if_icmp .ne 5, 3) := by decide +kernel
theorem dX5_springFrom_20 : decode cX5_springFrom 20 = .ok (.iload_n 2, 1) := by decide +kernel
theorem dX5_springFrom_21 : decode cX5_springFrom 21 = .ok (.ireturn, 1) := by decide +kernel
theorem dX5_springFrom_22 : decode cX5_springFrom 22 = .ok (.iinc 2 1, 3) := by decide +kernel
theorem dX5_springFrom_25 : decode cX5_springFrom 25 = .ok (.goto (-23), 3) := by decide +kernel
theorem dX5_springFrom_28 : decode cX5_springFrom 28 = .ok (.iconst (-1), 1) := by decide +kernel
theorem dX5_springFrom_29 : decode cX5_springFrom 29 = .ok (.ireturn, 1) := by decide +kernel
theorem dX6_init_0 : decode cX6_init 0 = .ok (.aload_n 0, 1) := by decide +kernel
theorem dX6_init_1 : decode cX6_init 1 = .ok (.invokespecial 3, 3) := by decide +kernel
theorem dX6_init_4 : decode cX6_init 4 = .ok (.aload_n 0, 1) := by decide +kernel
theorem dX6_init_5 : decode cX6_init 5 = .ok (.new 9, 3) := by decide +kernel
theorem dX6_init_8 : decode cX6_init 8 = .ok (.dup, 1) := by decide +kernel
theorem dX6_init_9 : decode cX6_init 9 = .ok (.invokespecial 11, 3) := by decide +kernel
theorem dX6_init_12 : decode cX6_init 12 = .ok (.putfield 12, 3) := by decide +kernel
theorem dX6_init_15 : decode cX6_init 15 = .ok (.aload_n 0, 1) := by decide +kernel
theorem dX6_init_16 : decode cX6_init 16 = .ok (.new 16, 3) := by decide +kernel
theorem dX6_init_19 : decode cX6_init 19 = .ok (.dup, 1) := by decide +kernel
theorem dX6_init_20 : decode cX6_init 20 = .ok (.aload_n 0, 1) := by decide +kernel
theorem dX6_init_21 : decode cX6_init 21 = .ok (.getfield 12, 3) := by decide +kernel
theorem dX6_init_24 : decode cX6_init 24 = .ok (.invokespecial 18, 3) := by decide +kernel
theorem dX6_init_27 : decode cX6_init 27 = .ok (.putfield 21, 3) := by decide +kernel
theorem dX6_init_30 : decode cX6_init 30 = .ok (.aload_n 0, 1) := by decide +kernel
theorem dX6_init_31 : decode cX6_init 31 = .ok (.new 25, 3) := by decide +kernel
theorem dX6_init_34 : decode cX6_init 34 = .ok (.dup, 1) := by decide +kernel
theorem dX6_init_35 : decode cX6_init 35 = .ok (.aload_n 0, 1) := by decide +kernel
theorem dX6_init_36 : decode cX6_init 36 = .ok (.getfield 21, 3) := by decide +kernel
theorem dX6_init_39 : decode cX6_init 39 = .ok (.invokespecial 27, 3) := by decide +kernel
theorem dX6_init_42 : decode cX6_init 42 = .ok (.putfield 30, 3) := by decide +kernel
theorem dX6_init_45 : decode cX6_init 45 = .ok (.aload_n 0, 1) := by decide +kernel
theorem dX6_init_46 : decode cX6_init 46 = .ok (.bipush 16, 2) := by decide +kernel
theorem dX6_init_48 : decode cX6_init 48 = .ok (.anewarray 34, 3) := by decide +kernel
theorem dX6_init_51 : decode cX6_init 51 = .ok (.putfield 36, 3) := by decide +kernel
theorem dX6_init_54 : decode cX6_init 54 = .ok (.iconst 0, 1) := by decide +kernel
theorem dX6_init_55 : decode cX6_init 55 = .ok (.istore_n 1, 1) := by decide +kernel
theorem dX6_init_56 : decode cX6_init 56 = .ok (.iload_n 1, 1) := by decide +kernel
theorem dX6_init_57 : decode cX6_init 57 = .ok (.bipush 16, 2) := by decide +kernel
theorem dX6_init_59 : decode cX6_init 59 = .ok (.if_icmp .ge 26, 3) := by decide +kernel
theorem dX6_init_62 : decode cX6_init 62 = .ok (.aload_n 0, 1) := by decide +kernel
theorem dX6_init_63 : decode cX6_init 63 = .ok (.getfield 36, 3) := by decide +kernel
theorem dX6_init_66 : decode cX6_init 66 = .ok (.iload_n 1, 1) := by decide +kernel
theorem dX6_init_67 : decode cX6_init 67 = .ok (.new 34, 3) := by decide +kernel
theorem dX6_init_70 : decode cX6_init 70 = .ok (.dup, 1) := by decide +kernel
theorem dX6_init_71 : decode cX6_init 71 = .ok (.aload_n 0, 1) := by decide +kernel
theorem dX6_init_72 : decode cX6_init 72 = .ok (.getfield 12, 3) := by decide +kernel
theorem dX6_init_75 : decode cX6_init 75 = .ok (.invokespecial 40, 3) := by decide +kernel
theorem dX6_init_78 : decode cX6_init 78 = .ok (.aastore, 1) := by decide +kernel
theorem dX6_init_79 : decode cX6_init 79 = .ok (.iinc 1 1, 3) := by decide +kernel
theorem dX6_init_82 : decode cX6_init 82 = .ok (.goto (-26), 3) := by decide +kernel
theorem dX6_init_85 : decode cX6_init 85 = .ok (.aload_n 0, 1) := by decide +kernel
theorem dX6_init_86 : decode cX6_init 86 = .ok (.bipush 6, 2) := by decide +kernel
theorem dX6_init_88 : decode cX6_init 88 = .ok (.anewarray 41, 3) := by decide +kernel
theorem dX6_init_91 : decode cX6_init 91 = .ok (.putfield 43, 3) := by decide +kernel
theorem dX6_init_94 : decode cX6_init 94 = .ok (.iconst 0, 1) := by decide +kernel
theorem dX6_init_95 : decode cX6_init 95 = .ok (.istore_n 1, 1) := by decide +kernel
theorem dX6_init_96 : decode cX6_init 96 = .ok (.iload_n 1, 1) := by decide +kernel
theorem dX6_init_97 : decode cX6_init 97 = .ok (.bipush 6, 2) := by decide +kernel
theorem dX6_init_99 : decode cX6_init 99 = .ok (.if_icmp .ge 22, 3) := by decide +kernel
theorem dX6_init_102 : decode cX6_init 102 = .ok (.aload_n 0, 1) := by decide +kernel
theorem dX6_init_103 : decode cX6_init 103 = .ok (.getfield 43, 3) := by decide +kernel
theorem dX6_init_106 : decode cX6_init 106 = .ok (.iload_n 1, 1) := by decide +kernel
theorem dX6_init_107 : decode cX6_init 107 = .ok (.new 41, 3) := by decide +kernel
theorem dX6_init_110 : decode cX6_init 110 = .ok (.dup, 1) := by decide +kernel
theorem dX6_init_111 : decode cX6_init 111 = .ok (.invokespecial 47, 3) := by decide +kernel
theorem dX6_init_114 : decode cX6_init 114 = .ok (.aastore, 1) := by decide +kernel
theorem dX6_init_115 : decode cX6_init 115 = .ok (.iinc 1 1, 3) := by decide +kernel
theorem dX6_init_118 : decode cX6_init 118 = .ok (.goto (-22), 3) := by decide +kernel
theorem dX6_init_121 : decode cX6_init 121 = .ok (.return_, 1) := by decide +kernel
theorem dX6_bar_0 : decode cX6_bar 0 = .ok (.iload_n 1, 1) := by decide +kernel
theorem dX6_bar_1 : decode cX6_bar 1 = .ok (.iconst 1, 1) := by decide +kernel
theorem dX6_bar_2 : decode cX6_bar 2 = .ok (.bipush 32, 2) := by decide +kernel
theorem dX6_bar_4 : decode cX6_bar 4 = .ok (.invokestatic 48, 3) := by decide +kernel
theorem dX6_bar_7 : decode cX6_bar 7 = .ok (.aload_n 0, 1) := by decide +kernel
theorem dX6_bar_8 : decode cX6_bar 8 = .ok (.getfield 12, 3) := by decide +kernel
theorem dX6_bar_11 : decode cX6_bar 11 = .ok (.getfield 52, 3) := by decide +kernel
theorem dX6_bar_14 : decode cX6_bar 14 = .ok (.bipush 12, 2) := by decide +kernel
theorem dX6_bar_16 : decode cX6_bar 16 = .ok (.if_icmp .lt 13, 3) := by decide +kernel
theorem dX6_bar_19 : decode cX6_bar 19 = .ok (.new 56, 3) := by decide +kernel
theorem dX6_bar_22 : decode cX6_bar 22 = .ok (.dup, 1) := by decide +kernel
theorem dX6_bar_23 : decode cX6_bar 23 = .ok (.ldc 58, 2) := by decide +kernel
theorem dX6_bar_25 : decode cX6_bar 25 = .ok (.invokespecial 60, 3) := by decide +kernel
theorem dX6_bar_28 : decode cX6_bar 28 = .ok (.athrow, 1) := by decide +kernel
theorem dX6_bar_29 : decode cX6_bar 29 = .ok (.aload_n 0, 1) := by decide +kernel
theorem dX6_bar_30 : decode cX6_bar 30 = .ok (.getfield 12, 3) := by decide +kernel
theorem dX6_bar_33 : decode cX6_bar 33 = .ok (.iload_n 1, 1) := by decide +kernel
theorem dX6_bar_34 : decode cX6_bar 34 = .ok (.invokevirtual 63, 3) := by decide +kernel
theorem dX6_bar_37 : decode cX6_bar 37 = .ok (.ireturn, 1) := by decide +kernel
theorem dX6_note_0 : decode cX6_note 0 = .ok (.aload_n 0, 1) := by decide +kernel
theorem dX6_note_1 : decode cX6_note 1 = .ok (.iload_n 1, 1) := by decide +kernel
theorem dX6_note_2 : decode cX6_note 2 = .ok (.iload_n 2, 1) := by decide +kernel
theorem dX6_note_3 : decode cX6_note 3 = .ok (.invokevirtual 67, 3) := by decide +kernel
theorem dX6_note_6 : decode cX6_note 6 = .ok (.istore 5, 2) := by decide +kernel
theorem dX6_note_8 : decode cX6_note 8 = .ok (.iload_n 3, 1) := by decide +kernel
theorem dX6_note_9 : decode cX6_note 9 = .ok (.iconst 1, 1) := by decide +kernel
theorem dX6_note_10 : decode cX6_note 10 = .ok (.bipush 32, 2) := by decide +kernel
theorem dX6_note_12 : decode cX6_note 12 = .ok (.invokestatic 48, 3) := by decide +kernel
theorem dX6_note_15 : decode cX6_note 15 = .ok (.iload 4, 2) := by decide +kernel
theorem dX6_note_17 : decode cX6_note 17 = .ok (.iconst 0, 1) := by decide +kernel
theorem dX6_note_18 : decode cX6_note 18 = .ok (.bipush 60, 2) := by decide +kernel
theorem dX6_note_20 : decode cX6_note 20 = .ok (.invokestatic 48, 3) := by decide +kernel
theorem dX6_note_23 : decode cX6_note 23 = .ok (.aload_n 0, 1) := by decide +kernel
theorem dX6_note_24 : decode cX6_note 24 = .ok (.getfield 12, 3) := by decide +kernel
theorem dX6_note_27 : decode cX6_note 27 = .ok (.getfield 71, 3) := by decide +kernel
theorem dX6_note_30 : decode cX6_note 30 = .ok (.iload 5, 2) := by decide +kernel
theorem dX6_note_32 : decode cX6_note 32 = .ok (.iaload, 1) := by decide +kernel
theorem dX6_note_33 : decode cX6_note 33 = .ok (.bipush 8, 2) := by decide +kernel
theorem dX6_note_35 : decode cX6_note 35 = .ok (.if_icmp .lt 13, 3) := by decide +kernel
theorem dX6_note_38 : decode cX6_note 38 = .ok (.new 56, 3) := by decide +kernel
theorem dX6_note_41 : decode cX6_note 41 = .ok (.dup, 1) := by decide +kernel
theorem dX6_note_42 : decode cX6_note 42 = .ok (.ldc 75, 2) := by decide +kernel
theorem dX6_note_44 : decode cX6_note 44 = .ok (.invokespecial 60, 3) := by decide +kernel
theorem dX6_note_47 : decode cX6_note 47 = .ok (.athrow, 1) := by decide +kernel
theorem dX6_note_48 : decode cX6_note 48 = .ok (.aload_n 0, 1) := by decide +kernel
theorem dX6_note_49 : decode cX6_note 49 = .ok (.getfield 12, 3) := by decide +kernel
theorem dX6_note_52 : decode cX6_note 52 = .ok (.iload 5, 2) := by decide +kernel
theorem dX6_note_54 : decode cX6_note 54 = .ok (.invokevirtual 77, 3) := by decide +kernel
theorem dX6_note_57 : decode cX6_note 57 = .ok (.iload_n 3, 1) := by decide +kernel
theorem dX6_note_58 : decode cX6_note 58 = .ok (.iadd, 1) := by decide +kernel
theorem dX6_note_59 : decode cX6_note 59 = .ok (.aload_n 0, 1) := by decide +kernel
theorem dX6_note_60 : decode cX6_note 60 = .ok (.getfield 12, 3) := by decide +kernel
theorem dX6_note_63 : decode cX6_note 63 = .ok (.getfield 80, 3) := by decide +kernel
theorem dX6_note_66 : decode cX6_note 66 = .ok (.iload_n 2, 1) := by decide +kernel
theorem dX6_note_67 : decode cX6_note 67 = .ok (.iaload, 1) := by decide +kernel
theorem dX6_note_68 : decode cX6_note 68 = .ok (.if_icmp .le 13, 3) := by decide +kernel
theorem dX6_note_71 : decode cX6_note 71 = .ok (.new 56, 3) := by decide +kernel
theorem dX6_note_74 : decode cX6_note 74 = .ok (.dup, 1) := by decide +kernel
theorem dX6_note_75 : decode cX6_note 75 = .ok (.ldc 83, 2) := by decide +kernel
theorem dX6_note_77 : decode cX6_note 77 = .ok (.invokespecial 60, 3) := by decide +kernel
theorem dX6_note_80 : decode cX6_note 80 = .ok (.athrow, 1) := by decide +kernel
theorem dX6_note_81 : decode cX6_note 81 = .ok (.aload_n 0, 1) := by decide +kernel
theorem dX6_note_82 : decode cX6_note 82 = .ok (.getfield 12, 3) := by decide +kernel
theorem dX6_note_85 : decode cX6_note 85 = .ok (.iload 5, 2) := by decide +kernel
theorem dX6_note_87 : decode cX6_note 87 = .ok (.iload_n 3, 1) := by decide +kernel
theorem dX6_note_88 : decode cX6_note 88 = .ok (.iload 4, 2) := by decide +kernel
theorem dX6_note_90 : decode cX6_note 90 = .ok (.invokevirtual 85, 3) := by decide +kernel
theorem dX6_note_93 : decode cX6_note 93 = .ok (.ireturn, 1) := by decide +kernel
theorem dX6_mend_0 : decode cX6_mend 0 = .ok (.aload_n 0, 1) := by decide +kernel
theorem dX6_mend_1 : decode cX6_mend 1 = .ok (.iload_n 1, 1) := by decide +kernel
theorem dX6_mend_2 : decode cX6_mend 2 = .ok (.iload_n 2, 1) := by decide +kernel
theorem dX6_mend_3 : decode cX6_mend 3 = .ok (.invokevirtual 67, 3) := by decide +kernel
theorem dX6_mend_6 : decode cX6_mend 6 = .ok (.istore 5, 2) := by decide +kernel
theorem dX6_mend_8 : decode cX6_mend 8 = .ok (.iload_n 3, 1) := by decide +kernel
theorem dX6_mend_9 : decode cX6_mend 9 = .ok (.aload_n 0, 1) := by decide +kernel
theorem dX6_mend_10 : decode cX6_mend 10 = .ok (.getfield 12, 3) := by decide +kernel
theorem dX6_mend_13 : decode cX6_mend 13 = .ok (.getfield 71, 3) := by decide +kernel
theorem dX6_mend_16 : decode cX6_mend 16 = .ok (.iload 5, 2) := by decide +kernel
theorem dX6_mend_18 : decode cX6_mend 18 = .ok (.iaload, 1) := by decide +kernel
theorem dX6_mend_19 : decode cX6_mend 19 = .ok (.invokestatic 89, 3) := by decide +kernel
theorem dX6_mend_22 : decode cX6_mend 22 = .ok (.iload 4, 2) := by decide +kernel
theorem dX6_mend_24 : decode cX6_mend 24 = .ok (.iconst 0, 1) := by decide +kernel
theorem dX6_mend_25 : decode cX6_mend 25 = .ok (.bipush 60, 2) := by decide +kernel
theorem dX6_mend_27 : decode cX6_mend 27 = .ok (.invokestatic 48, 3) := by decide +kernel
theorem dX6_mend_30 : decode cX6_mend 30 = .ok (.aload_n 0, 1) := by decide +kernel
theorem dX6_mend_31 : decode cX6_mend 31 = .ok (.getfield 12, 3) := by decide +kernel
theorem dX6_mend_34 : decode cX6_mend 34 = .ok (.iload 5, 2) := by decide +kernel
theorem dX6_mend_36 : decode cX6_mend 36 = .ok (.iload_n 3, 1) := by decide +kernel
theorem dX6_mend_37 : decode cX6_mend 37 = .ok (.iload 4, 2) := by decide +kernel
theorem dX6_mend_39 : decode cX6_mend 39 = .ok (.invokevirtual 93, 3) := by decide +kernel
theorem dX6_mend_42 : decode cX6_mend 42 = .ok (.ireturn, 1) := by decide +kernel
theorem dX6_empty_0 : decode cX6_empty 0 = .ok (.aload_n 0, 1) := by decide +kernel
theorem dX6_empty_1 : decode cX6_empty 1 = .ok (.getfield 12, 3) := by decide +kernel
theorem dX6_empty_4 : decode cX6_empty 4 = .ok (.aload_n 0, 1) := by decide +kernel
theorem dX6_empty_5 : decode cX6_empty 5 = .ok (.iload_n 1, 1) := by decide +kernel
theorem dX6_empty_6 : decode cX6_empty 6 = .ok (.iload_n 2, 1) := by decide +kernel
theorem dX6_empty_7 : decode cX6_empty 7 = .ok (.invokevirtual 67, 3) := by decide +kernel
theorem dX6_empty_10 : decode cX6_empty 10 = .ok (.invokevirtual 96, 3) := by decide +kernel
theorem dX6_empty_13 : decode cX6_empty 13 = .ok (.ireturn, 1) := by decide +kernel
theorem dX6_setPaper_0 : decode cX6_setPaper 0 = .ok (.iload_n 1, 1) := by decide +kernel
theorem dX6_setPaper_1 : decode cX6_setPaper 1 = .ok (.bipush 80, 2) := by decide +kernel
theorem dX6_setPaper_3 : decode cX6_setPaper 3 = .ok (.sipush 500, 3) := by decide +kernel
theorem dX6_setPaper_6 : decode cX6_setPaper 6 = .ok (.invokestatic 48, 3) := by decide +kernel
theorem dX6_setPaper_9 : decode cX6_setPaper 9 = .ok (.iload_n 2, 1) := by decide +kernel
theorem dX6_setPaper_10 : decode cX6_setPaper 10 = .ok (.iconst 1, 1) := by decide +kernel
theorem dX6_setPaper_11 : decode cX6_setPaper 11 = .ok (.bipush 6, 2) := by decide +kernel
theorem dX6_setPaper_13 : decode cX6_setPaper 13 = .ok (.invokestatic 48, 3) := by decide +kernel
theorem dX6_setPaper_16 : decode cX6_setPaper 16 = .ok (.aload_n 0, 1) := by decide +kernel
theorem dX6_setPaper_17 : decode cX6_setPaper 17 = .ok (.getfield 30, 3) := by decide +kernel
theorem dX6_setPaper_20 : decode cX6_setPaper 20 = .ok (.getfield 99, 3) := by decide +kernel
theorem dX6_setPaper_23 : decode cX6_setPaper 23 = .ok (.istore_n 3, 1) := by decide +kernel
theorem dX6_setPaper_24 : decode cX6_setPaper 24 = .ok (.aload_n 0, 1) := by decide +kernel
theorem dX6_setPaper_25 : decode cX6_setPaper 25 = .ok (.getfield 30, 3) := by decide +kernel
theorem dX6_setPaper_28 : decode cX6_setPaper 28 = .ok (.iload_n 1, 1) := by decide +kernel
theorem dX6_setPaper_29 : decode cX6_setPaper 29 = .ok (.putfield 99, 3) := by decide +kernel
theorem dX6_setPaper_32 : decode cX6_setPaper 32 = .ok (.aload_n 0, 1) := by decide +kernel
theorem dX6_setPaper_33 : decode cX6_setPaper 33 = .ok (.getfield 30, 3) := by decide +kernel
theorem dX6_setPaper_36 : decode cX6_setPaper 36 = .ok (.iload_n 2, 1) := by decide +kernel
theorem dX6_setPaper_37 : decode cX6_setPaper 37 = .ok (.putfield 102, 3) := by decide +kernel
theorem dX6_setPaper_40 : decode cX6_setPaper 40 = .ok (.iload_n 3, 1) := by decide +kernel
theorem dX6_setPaper_41 : decode cX6_setPaper 41 = .ok (.ireturn, 1) := by decide +kernel
theorem dX6_copy_0 : decode cX6_copy 0 = .ok (.iload_n 1, 1) := by decide +kernel
theorem dX6_copy_1 : decode cX6_copy 1 = .ok (.iconst 5, 1) := by decide +kernel
theorem dX6_copy_2 : decode cX6_copy 2 = .ok (.invokestatic 89, 3) := by decide +kernel
theorem dX6_copy_5 : decode cX6_copy 5 = .ok (.aload_n 0, 1) := by decide +kernel
theorem dX6_copy_6 : decode cX6_copy 6 = .ok (.getfield 105, 3) := by decide +kernel
theorem dX6_copy_9 : decode cX6_copy 9 = .ok (.bipush 16, 2) := by decide +kernel
theorem dX6_copy_11 : decode cX6_copy 11 = .ok (.if_icmp .lt 13, 3) := by decide +kernel
theorem dX6_copy_14 : decode cX6_copy 14 = .ok (.new 56, 3) := by decide +kernel
theorem dX6_copy_17 : decode cX6_copy 17 = .ok (.dup, 1) := by decide +kernel
theorem dX6_copy_18 : decode cX6_copy 18 = .ok (.ldc 108, 2) := by decide +kernel
theorem dX6_copy_20 : decode cX6_copy 20 = .ok (.invokespecial 60, 3) := by decide +kernel
theorem dX6_copy_23 : decode cX6_copy 23 = .ok (.athrow, 1) := by decide +kernel
theorem dX6_copy_24 : decode cX6_copy 24 = .ok (.aload_n 0, 1) := by decide +kernel
theorem dX6_copy_25 : decode cX6_copy 25 = .ok (.getfield 36, 3) := by decide +kernel
theorem dX6_copy_28 : decode cX6_copy 28 = .ok (.aload_n 0, 1) := by decide +kernel
theorem dX6_copy_29 : decode cX6_copy 29 = .ok (.getfield 105, 3) := by decide +kernel
theorem dX6_copy_32 : decode cX6_copy 32 = .ok (.aaload, 1) := by decide +kernel
theorem dX6_copy_33 : decode cX6_copy 33 = .ok (.iload_n 1, 1) := by decide +kernel
theorem dX6_copy_34 : decode cX6_copy 34 = .ok (.putfield 110, 3) := by decide +kernel
theorem dX6_copy_37 : decode cX6_copy 37 = .ok (.aload_n 0, 1) := by decide +kernel
theorem dX6_copy_38 : decode cX6_copy 38 = .ok (.dup, 1) := by decide +kernel
theorem dX6_copy_39 : decode cX6_copy 39 = .ok (.getfield 105, 3) := by decide +kernel
theorem dX6_copy_42 : decode cX6_copy 42 = .ok (.iconst 1, 1) := by decide +kernel
theorem dX6_copy_43 : decode cX6_copy 43 = .ok (.iadd, 1) := by decide +kernel
theorem dX6_copy_44 : decode cX6_copy 44 = .ok (.putfield 105, 3) := by decide +kernel
theorem dX6_copy_47 : decode cX6_copy 47 = .ok (.aload_n 0, 1) := by decide +kernel
theorem dX6_copy_48 : decode cX6_copy 48 = .ok (.getfield 105, 3) := by decide +kernel
theorem dX6_copy_51 : decode cX6_copy 51 = .ok (.iconst 1, 1) := by decide +kernel
theorem dX6_copy_52 : decode cX6_copy 52 = .ok (.isub, 1) := by decide +kernel
theorem dX6_copy_53 : decode cX6_copy 53 = .ok (.ireturn, 1) := by decide +kernel
theorem dX6_lend_0 : decode cX6_lend 0 = .ok (.iload_n 1, 1) := by decide +kernel
theorem dX6_lend_1 : decode cX6_lend 1 = .ok (.aload_n 0, 1) := by decide +kernel
theorem dX6_lend_2 : decode cX6_lend 2 = .ok (.getfield 105, 3) := by decide +kernel
theorem dX6_lend_5 : decode cX6_lend 5 = .ok (.invokestatic 89, 3) := by decide +kernel
theorem dX6_lend_8 : decode cX6_lend 8 = .ok (.iload_n 2, 1) := by decide +kernel
theorem dX6_lend_9 : decode cX6_lend 9 = .ok (.bipush 6, 2) := by decide +kernel
theorem dX6_lend_11 : decode cX6_lend 11 = .ok (.invokestatic 89, 3) := by decide +kernel
theorem dX6_lend_14 : decode cX6_lend 14 = .ok (.aload_n 0, 1) := by decide +kernel
theorem dX6_lend_15 : decode cX6_lend 15 = .ok (.getfield 36, 3) := by decide +kernel
theorem dX6_lend_18 : decode cX6_lend 18 = .ok (.iload_n 1, 1) := by decide +kernel
theorem dX6_lend_19 : decode cX6_lend 19 = .ok (.aaload, 1) := by decide +kernel
theorem dX6_lend_20 : decode cX6_lend 20 = .ok (.astore_n 3, 1) := by decide +kernel
theorem dX6_lend_21 : decode cX6_lend 21 = .ok (.aload_n 3, 1) := by decide +kernel
theorem dX6_lend_22 : decode cX6_lend 22 = .ok (.invokevirtual 113, 3) := by decide +kernel
theorem dX6_lend_25 : decode cX6_lend 25 = .ok (.ifCond .eq 13, 3) := by decide +kernel
theorem dX6_lend_28 : decode cX6_lend 28 = .ok (.new 56, 3) := by decide +kernel
theorem dX6_lend_31 : decode cX6_lend 31 = .ok (.dup, 1) := by decide +kernel
theorem dX6_lend_32 : decode cX6_lend 32 = .ok (.ldc 117, 2) := by decide +kernel
theorem dX6_lend_34 : decode cX6_lend 34 = .ok (.invokespecial 60, 3) := by decide +kernel
theorem dX6_lend_37 : decode cX6_lend 37 = .ok (.athrow, 1) := by decide +kernel
theorem dX6_lend_38 : decode cX6_lend 38 = .ok (.aload_n 0, 1) := by decide +kernel
theorem dX6_lend_39 : decode cX6_lend 39 = .ok (.iload_n 2, 1) := by decide +kernel
theorem dX6_lend_40 : decode cX6_lend 40 = .ok (.aload_n 3, 1) := by decide +kernel
theorem dX6_lend_41 : decode cX6_lend 41 = .ok (.getfield 110, 3) := by decide +kernel
theorem dX6_lend_44 : decode cX6_lend 44 = .ok (.invokevirtual 119, 3) := by decide +kernel
theorem dX6_lend_47 : decode cX6_lend 47 = .ok (.ifCond .eq 13, 3) := by decide +kernel
theorem dX6_lend_50 : decode cX6_lend 50 = .ok (.new 56, 3) := by decide +kernel
theorem dX6_lend_53 : decode cX6_lend 53 = .ok (.dup, 1) := by decide +kernel
theorem dX6_lend_54 : decode cX6_lend 54 = .ok (.ldc 123, 2) := by decide +kernel
theorem dX6_lend_56 : decode cX6_lend 56 = .ok (.invokespecial 60, 3) := by decide +kernel
theorem dX6_lend_59 : decode cX6_lend 59 = .ok (.athrow, 1) := by decide +kernel
theorem dX6_lend_60 : decode cX6_lend 60 = .ok (.aload_n 3, 1) := by decide +kernel
theorem dX6_lend_61 : decode cX6_lend 61 = .ok (.iload_n 2, 1) := by decide +kernel
theorem dX6_lend_62 : decode cX6_lend 62 = .ok (.putfield 125, 3) := by decide +kernel
theorem dX6_lend_65 : decode cX6_lend 65 = .ok (.aload_n 3, 1) := by decide +kernel
theorem dX6_lend_66 : decode cX6_lend 66 = .ok (.invokevirtual 128, 3) := by decide +kernel
theorem dX6_lend_69 : decode cX6_lend 69 = .ok (.aload_n 0, 1) := by decide +kernel
theorem dX6_lend_70 : decode cX6_lend 70 = .ok (.invokevirtual 131, 3) := by decide +kernel
theorem dX6_lend_73 : decode cX6_lend 73 = .ok (.ireturn, 1) := by decide +kernel
theorem dX6_giveBack_0 : decode cX6_giveBack 0 = .ok (.aload_n 0, 1) := by decide +kernel
theorem dX6_giveBack_1 : decode cX6_giveBack 1 = .ok (.iload_n 1, 1) := by decide +kernel
theorem dX6_giveBack_2 : decode cX6_giveBack 2 = .ok (.invokevirtual 135, 3) := by decide +kernel
theorem dX6_giveBack_5 : decode cX6_giveBack 5 = .ok (.astore_n 2, 1) := by decide +kernel
theorem dX6_giveBack_6 : decode cX6_giveBack 6 = .ok (.aload_n 2, 1) := by decide +kernel
theorem dX6_giveBack_7 : decode cX6_giveBack 7 = .ok (.invokevirtual 139, 3) := by decide +kernel
theorem dX6_giveBack_10 : decode cX6_giveBack 10 = .ok (.istore_n 3, 1) := by decide +kernel
theorem dX6_giveBack_11 : decode cX6_giveBack 11 = .ok (.aload_n 2, 1) := by decide +kernel
theorem dX6_giveBack_12 : decode cX6_giveBack 12 = .ok (.iconst (-1), 1) := by decide +kernel
theorem dX6_giveBack_13 : decode cX6_giveBack 13 = .ok (.putfield 125, 3) := by decide +kernel
theorem dX6_giveBack_16 : decode cX6_giveBack 16 = .ok (.iload_n 3, 1) := by decide +kernel
theorem dX6_giveBack_17 : decode cX6_giveBack 17 = .ok (.ireturn, 1) := by decide +kernel
theorem dX6_paste_0 : decode cX6_paste 0 = .ok (.aload_n 0, 1) := by decide +kernel
theorem dX6_paste_1 : decode cX6_paste 1 = .ok (.iload_n 1, 1) := by decide +kernel
theorem dX6_paste_2 : decode cX6_paste 2 = .ok (.invokevirtual 135, 3) := by decide +kernel
theorem dX6_paste_5 : decode cX6_paste 5 = .ok (.astore_n 2, 1) := by decide +kernel
theorem dX6_paste_6 : decode cX6_paste 6 = .ok (.aload_n 2, 1) := by decide +kernel
theorem dX6_paste_7 : decode cX6_paste 7 = .ok (.invokevirtual 139, 3) := by decide +kernel
theorem dX6_paste_10 : decode cX6_paste 10 = .ok (.istore_n 3, 1) := by decide +kernel
theorem dX6_paste_11 : decode cX6_paste 11 = .ok (.aload_n 2, 1) := by decide +kernel
theorem dX6_paste_12 : decode cX6_paste 12 = .ok (.invokevirtual 128, 3) := by decide +kernel
theorem dX6_paste_15 : decode cX6_paste 15 = .ok (.iload_n 3, 1) := by decide +kernel
theorem dX6_paste_16 : decode cX6_paste 16 = .ok (.ireturn, 1) := by decide +kernel
theorem dX6_mark_0 : decode cX6_mark 0 = .ok (.iload_n 1, 1) := by decide +kernel
theorem dX6_mark_1 : decode cX6_mark 1 = .ok (.aload_n 0, 1) := by decide +kernel
theorem dX6_mark_2 : decode cX6_mark 2 = .ok (.getfield 105, 3) := by decide +kernel
theorem dX6_mark_5 : decode cX6_mark 5 = .ok (.invokestatic 89, 3) := by decide +kernel
theorem dX6_mark_8 : decode cX6_mark 8 = .ok (.iload_n 2, 1) := by decide +kernel
theorem dX6_mark_9 : decode cX6_mark 9 = .ok (.aload_n 0, 1) := by decide +kernel
theorem dX6_mark_10 : decode cX6_mark 10 = .ok (.getfield 12, 3) := by decide +kernel
theorem dX6_mark_13 : decode cX6_mark 13 = .ok (.getfield 52, 3) := by decide +kernel
theorem dX6_mark_16 : decode cX6_mark 16 = .ok (.invokestatic 89, 3) := by decide +kernel
theorem dX6_mark_19 : decode cX6_mark 19 = .ok (.iload_n 3, 1) := by decide +kernel
theorem dX6_mark_20 : decode cX6_mark 20 = .ok (.iconst 0, 1) := by decide +kernel
theorem dX6_mark_21 : decode cX6_mark 21 = .ok (.bipush 9, 2) := by decide +kernel
theorem dX6_mark_23 : decode cX6_mark 23 = .ok (.invokestatic 48, 3) := by decide +kernel
theorem dX6_mark_26 : decode cX6_mark 26 = .ok (.aload_n 0, 1) := by decide +kernel
theorem dX6_mark_27 : decode cX6_mark 27 = .ok (.iload_n 1, 1) := by decide +kernel
theorem dX6_mark_28 : decode cX6_mark 28 = .ok (.invokevirtual 135, 3) := by decide +kernel
theorem dX6_mark_31 : decode cX6_mark 31 = .ok (.astore 4, 2) := by decide +kernel
theorem dX6_mark_33 : decode cX6_mark 33 = .ok (.aload 4, 2) := by decide +kernel
theorem dX6_mark_35 : decode cX6_mark 35 = .ok (.iload_n 2, 1) := by decide +kernel
theorem dX6_mark_36 : decode cX6_mark 36 = .ok (.invokevirtual 142, 3) := by decide +kernel
theorem dX6_mark_39 : decode cX6_mark 39 = .ok (.ifCond .eq 13, 3) := by decide +kernel
theorem dX6_mark_42 : decode cX6_mark 42 = .ok (.new 56, 3) := by decide +kernel
theorem dX6_mark_45 : decode cX6_mark 45 = .ok (.dup, 1) := by decide +kernel
theorem dX6_mark_46 : decode cX6_mark 46 = .ok (.ldc 146, 2) := by decide +kernel
theorem dX6_mark_48 : decode cX6_mark 48 = .ok (.invokespecial 60, 3) := by decide +kernel
theorem dX6_mark_51 : decode cX6_mark 51 = .ok (.athrow, 1) := by decide +kernel
theorem dX6_mark_52 : decode cX6_mark 52 = .ok (.aload 4, 2) := by decide +kernel
theorem dX6_mark_54 : decode cX6_mark 54 = .ok (.getfield 110, 3) := by decide +kernel
theorem dX6_mark_57 : decode cX6_mark 57 = .ok (.iload_n 2, 1) := by decide +kernel
theorem dX6_mark_58 : decode cX6_mark 58 = .ok (.invokestatic 148, 3) := by decide +kernel
theorem dX6_mark_61 : decode cX6_mark 61 = .ok (.istore 5, 2) := by decide +kernel
theorem dX6_mark_63 : decode cX6_mark 63 = .ok (.aload_n 0, 1) := by decide +kernel
theorem dX6_mark_64 : decode cX6_mark 64 = .ok (.getfield 43, 3) := by decide +kernel
theorem dX6_mark_67 : decode cX6_mark 67 = .ok (.aload 4, 2) := by decide +kernel
theorem dX6_mark_69 : decode cX6_mark 69 = .ok (.getfield 125, 3) := by decide +kernel
theorem dX6_mark_72 : decode cX6_mark 72 = .ok (.aaload, 1) := by decide +kernel
theorem dX6_mark_73 : decode cX6_mark 73 = .ok (.iload 5, 2) := by decide +kernel
theorem dX6_mark_75 : decode cX6_mark 75 = .ok (.iload_n 3, 1) := by decide +kernel
theorem dX6_mark_76 : decode cX6_mark 76 = .ok (.aload 4, 2) := by decide +kernel
theorem dX6_mark_78 : decode cX6_mark 78 = .ok (.iload_n 2, 1) := by decide +kernel
theorem dX6_mark_79 : decode cX6_mark 79 = .ok (.invokevirtual 151, 3) := by decide +kernel
theorem dX6_mark_82 : decode cX6_mark 82 = .ok (.invokevirtual 154, 3) := by decide +kernel
theorem dX6_mark_85 : decode cX6_mark 85 = .ok (.ireturn, 1) := by decide +kernel
theorem dX6_bow_0 : decode cX6_bow 0 = .ok (.iload_n 1, 1) := by decide +kernel
theorem dX6_bow_1 : decode cX6_bow 1 = .ok (.aload_n 0, 1) := by decide +kernel
theorem dX6_bow_2 : decode cX6_bow 2 = .ok (.getfield 105, 3) := by decide +kernel
theorem dX6_bow_5 : decode cX6_bow 5 = .ok (.invokestatic 89, 3) := by decide +kernel
theorem dX6_bow_8 : decode cX6_bow 8 = .ok (.aload_n 0, 1) := by decide +kernel
theorem dX6_bow_9 : decode cX6_bow 9 = .ok (.aload_n 0, 1) := by decide +kernel
theorem dX6_bow_10 : decode cX6_bow 10 = .ok (.getfield 36, 3) := by decide +kernel
theorem dX6_bow_13 : decode cX6_bow 13 = .ok (.iload_n 1, 1) := by decide +kernel
theorem dX6_bow_14 : decode cX6_bow 14 = .ok (.aaload, 1) := by decide +kernel
theorem dX6_bow_15 : decode cX6_bow 15 = .ok (.getfield 110, 3) := by decide +kernel
theorem dX6_bow_18 : decode cX6_bow 18 = .ok (.iload_n 2, 1) := by decide +kernel
theorem dX6_bow_19 : decode cX6_bow 19 = .ok (.invokevirtual 67, 3) := by decide +kernel
theorem dX6_bow_22 : decode cX6_bow 22 = .ok (.istore 5, 2) := by decide +kernel
theorem dX6_bow_24 : decode cX6_bow 24 = .ok (.iload_n 3, 1) := by decide +kernel
theorem dX6_bow_25 : decode cX6_bow 25 = .ok (.aload_n 0, 1) := by decide +kernel
theorem dX6_bow_26 : decode cX6_bow 26 = .ok (.getfield 12, 3) := by decide +kernel
theorem dX6_bow_29 : decode cX6_bow 29 = .ok (.getfield 71, 3) := by decide +kernel
theorem dX6_bow_32 : decode cX6_bow 32 = .ok (.iload 5, 2) := by decide +kernel
theorem dX6_bow_34 : decode cX6_bow 34 = .ok (.iaload, 1) := by decide +kernel
theorem dX6_bow_35 : decode cX6_bow 35 = .ok (.invokestatic 89, 3) := by decide +kernel
theorem dX6_bow_38 : decode cX6_bow 38 = .ok (.iload 4, 2) := by decide +kernel
theorem dX6_bow_40 : decode cX6_bow 40 = .ok (.iconst 0, 1) := by decide +kernel
theorem dX6_bow_41 : decode cX6_bow 41 = .ok (.iconst 2, 1) := by decide +kernel
theorem dX6_bow_42 : decode cX6_bow 42 = .ok (.invokestatic 48, 3) := by decide +kernel
theorem dX6_bow_45 : decode cX6_bow 45 = .ok (.aload_n 0, 1) := by decide +kernel
theorem dX6_bow_46 : decode cX6_bow 46 = .ok (.iload_n 1, 1) := by decide +kernel
theorem dX6_bow_47 : decode cX6_bow 47 = .ok (.invokevirtual 135, 3) := by decide +kernel
theorem dX6_bow_50 : decode cX6_bow 50 = .ok (.astore 6, 2) := by decide +kernel
theorem dX6_bow_52 : decode cX6_bow 52 = .ok (.aload 6, 2) := by decide +kernel
theorem dX6_bow_54 : decode cX6_bow 54 = .ok (.iload_n 2, 1) := by decide +kernel
theorem dX6_bow_55 : decode cX6_bow 55 = .ok (.invokevirtual 157, 3) := by decide +kernel
theorem dX6_bow_58 : decode cX6_bow 58 = .ok (.ifCond .eq 13, 3) := by decide +kernel
theorem dX6_bow_61 : decode cX6_bow 61 = .ok (.new 56, 3) := by decide +kernel
theorem dX6_bow_64 : decode cX6_bow 64 = .ok (.dup, 1) := by decide +kernel
theorem dX6_bow_65 : decode cX6_bow 65 = .ok (.ldc 160, 2) := by decide +kernel
theorem dX6_bow_67 : decode cX6_bow 67 = .ok (.invokespecial 60, 3) := by decide +kernel
theorem dX6_bow_70 : decode cX6_bow 70 = .ok (.athrow, 1) := by decide +kernel
theorem dX6_bow_71 : decode cX6_bow 71 = .ok (.aload_n 0, 1) := by decide +kernel
theorem dX6_bow_72 : decode cX6_bow 72 = .ok (.getfield 43, 3) := by decide +kernel
theorem dX6_bow_75 : decode cX6_bow 75 = .ok (.aload 6, 2) := by decide +kernel
theorem dX6_bow_77 : decode cX6_bow 77 = .ok (.getfield 125, 3) := by decide +kernel
theorem dX6_bow_80 : decode cX6_bow 80 = .ok (.aaload, 1) := by decide +kernel
theorem dX6_bow_81 : decode cX6_bow 81 = .ok (.iload 5, 2) := by decide +kernel
theorem dX6_bow_83 : decode cX6_bow 83 = .ok (.iload_n 3, 1) := by decide +kernel
theorem dX6_bow_84 : decode cX6_bow 84 = .ok (.iload 4, 2) := by decide +kernel
theorem dX6_bow_86 : decode cX6_bow 86 = .ok (.aload_n 0, 1) := by decide +kernel
theorem dX6_bow_87 : decode cX6_bow 87 = .ok (.getfield 12, 3) := by decide +kernel
theorem dX6_bow_90 : decode cX6_bow 90 = .ok (.getfield 162, 3) := by decide +kernel
theorem dX6_bow_93 : decode cX6_bow 93 = .ok (.iload 5, 2) := by decide +kernel
theorem dX6_bow_95 : decode cX6_bow 95 = .ok (.iaload, 1) := by decide +kernel
theorem dX6_bow_96 : decode cX6_bow 96 = .ok (.invokevirtual 165, 3) := by decide +kernel
theorem dX6_bow_99 : decode cX6_bow 99 = .ok (.ireturn, 1) := by decide +kernel
theorem dX6_play_0 : decode cX6_play 0 = .ok (.aload_n 0, 1) := by decide +kernel
theorem dX6_play_1 : decode cX6_play 1 = .ok (.invokevirtual 131, 3) := by decide +kernel
theorem dX6_play_4 : decode cX6_play 4 = .ok (.istore_n 1, 1) := by decide +kernel
theorem dX6_play_5 : decode cX6_play 5 = .ok (.iload_n 1, 1) := by decide +kernel
theorem dX6_play_6 : decode cX6_play 6 = .ok (.ifCond .ne 13, 3) := by decide +kernel
theorem dX6_play_9 : decode cX6_play 9 = .ok (.new 56, 3) := by decide +kernel
theorem dX6_play_12 : decode cX6_play 12 = .ok (.dup, 1) := by decide +kernel
theorem dX6_play_13 : decode cX6_play 13 = .ok (.ldc 169, 2) := by decide +kernel
theorem dX6_play_15 : decode cX6_play 15 = .ok (.invokespecial 60, 3) := by decide +kernel
theorem dX6_play_18 : decode cX6_play 18 = .ok (.athrow, 1) := by decide +kernel
theorem dX6_play_19 : decode cX6_play 19 = .ok (.aload_n 0, 1) := by decide +kernel
theorem dX6_play_20 : decode cX6_play 20 = .ok (.invokevirtual 171, 3) := by decide +kernel
theorem dX6_play_23 : decode cX6_play 23 = .ok (.ifCond .eq 13, 3) := by decide +kernel
theorem dX6_play_26 : decode cX6_play 26 = .ok (.new 56, 3) := by decide +kernel
theorem dX6_play_29 : decode cX6_play 29 = .ok (.dup, 1) := by decide +kernel
theorem dX6_play_30 : decode cX6_play 30 = .ok (.ldc 174, 2) := by decide +kernel
theorem dX6_play_32 : decode cX6_play 32 = .ok (.invokespecial 60, 3) := by decide +kernel
theorem dX6_play_35 : decode cX6_play 35 = .ok (.athrow, 1) := by decide +kernel
theorem dX6_play_36 : decode cX6_play 36 = .ok (.aload_n 0, 1) := by decide +kernel
theorem dX6_play_37 : decode cX6_play 37 = .ok (.dup, 1) := by decide +kernel
theorem dX6_play_38 : decode cX6_play 38 = .ok (.getfield 176, 3) := by decide +kernel
theorem dX6_play_41 : decode cX6_play 41 = .ok (.iconst 1, 1) := by decide +kernel
theorem dX6_play_42 : decode cX6_play 42 = .ok (.iadd, 1) := by decide +kernel
theorem dX6_play_43 : decode cX6_play 43 = .ok (.putfield 176, 3) := by decide +kernel
theorem dX6_play_46 : decode cX6_play 46 = .ok (.iload_n 1, 1) := by decide +kernel
theorem dX6_play_47 : decode cX6_play 47 = .ok (.ireturn, 1) := by decide +kernel
theorem dX6_bars_0 : decode cX6_bars 0 = .ok (.aload_n 0, 1) := by decide +kernel
theorem dX6_bars_1 : decode cX6_bars 1 = .ok (.getfield 12, 3) := by decide +kernel
theorem dX6_bars_4 : decode cX6_bars 4 = .ok (.getfield 52, 3) := by decide +kernel
theorem dX6_bars_7 : decode cX6_bars 7 = .ok (.ireturn, 1) := by decide +kernel
theorem dX6_notes_0 : decode cX6_notes 0 = .ok (.aload_n 0, 1) := by decide +kernel
theorem dX6_notes_1 : decode cX6_notes 1 = .ok (.getfield 12, 3) := by decide +kernel
theorem dX6_notes_4 : decode cX6_notes 4 = .ok (.getfield 71, 3) := by decide +kernel
theorem dX6_notes_7 : decode cX6_notes 7 = .ok (.aload_n 0, 1) := by decide +kernel
theorem dX6_notes_8 : decode cX6_notes 8 = .ok (.iload_n 1, 1) := by decide +kernel
theorem dX6_notes_9 : decode cX6_notes 9 = .ok (.iload_n 2, 1) := by decide +kernel
theorem dX6_notes_10 : decode cX6_notes 10 = .ok (.invokevirtual 67, 3) := by decide +kernel
theorem dX6_notes_13 : decode cX6_notes 13 = .ok (.iaload, 1) := by decide +kernel
theorem dX6_notes_14 : decode cX6_notes 14 = .ok (.ireturn, 1) := by decide +kernel
theorem dX6_noteAt_0 : decode cX6_noteAt 0 = .ok (.aload_n 0, 1) := by decide +kernel
theorem dX6_noteAt_1 : decode cX6_noteAt 1 = .ok (.iload_n 1, 1) := by decide +kernel
theorem dX6_noteAt_2 : decode cX6_noteAt 2 = .ok (.iload_n 2, 1) := by decide +kernel
theorem dX6_noteAt_3 : decode cX6_noteAt 3 = .ok (.invokevirtual 67, 3) := by decide +kernel
theorem dX6_noteAt_6 : decode cX6_noteAt 6 = .ok (.istore 4, 2) := by decide +kernel
theorem dX6_noteAt_8 : decode cX6_noteAt 8 = .ok (.iload_n 3, 1) := by decide +kernel
theorem dX6_noteAt_9 : decode cX6_noteAt 9 = .ok (.aload_n 0, 1) := by decide +kernel
theorem dX6_noteAt_10 : decode cX6_noteAt 10 = .ok (.getfield 12, 3) := by decide +kernel
theorem dX6_noteAt_13 : decode cX6_noteAt 13 = .ok (.getfield 71, 3) := by decide +kernel
theorem dX6_noteAt_16 : decode cX6_noteAt 16 = .ok (.iload 4, 2) := by decide +kernel
theorem dX6_noteAt_18 : decode cX6_noteAt 18 = .ok (.iaload, 1) := by decide +kernel
theorem dX6_noteAt_19 : decode cX6_noteAt 19 = .ok (.invokestatic 89, 3) := by decide +kernel
theorem dX6_noteAt_22 : decode cX6_noteAt 22 = .ok (.bipush 100, 2) := by decide +kernel
theorem dX6_noteAt_24 : decode cX6_noteAt 24 = .ok (.aload_n 0, 1) := by decide +kernel
theorem dX6_noteAt_25 : decode cX6_noteAt 25 = .ok (.getfield 12, 3) := by decide +kernel
theorem dX6_noteAt_28 : decode cX6_noteAt 28 = .ok (.iload 4, 2) := by decide +kernel
theorem dX6_noteAt_30 : decode cX6_noteAt 30 = .ok (.iload_n 3, 1) := by decide +kernel
theorem dX6_noteAt_31 : decode cX6_noteAt 31 = .ok (.invokevirtual 179, 3) := by decide +kernel
theorem dX6_noteAt_34 : decode cX6_noteAt 34 = .ok (.imul, 1) := by decide +kernel
theorem dX6_noteAt_35 : decode cX6_noteAt 35 = .ok (.aload_n 0, 1) := by decide +kernel
theorem dX6_noteAt_36 : decode cX6_noteAt 36 = .ok (.getfield 12, 3) := by decide +kernel
theorem dX6_noteAt_39 : decode cX6_noteAt 39 = .ok (.iload 4, 2) := by decide +kernel
theorem dX6_noteAt_41 : decode cX6_noteAt 41 = .ok (.iload_n 3, 1) := by decide +kernel
theorem dX6_noteAt_42 : decode cX6_noteAt 42 = .ok (.invokevirtual 182, 3) := by decide +kernel
theorem dX6_noteAt_45 : decode cX6_noteAt 45 = .ok (.iadd, 1) := by decide +kernel
theorem dX6_noteAt_46 : decode cX6_noteAt 46 = .ok (.ireturn, 1) := by decide +kernel
theorem dX6_version_0 : decode cX6_version 0 = .ok (.aload_n 0, 1) := by decide +kernel
theorem dX6_version_1 : decode cX6_version 1 = .ok (.getfield 12, 3) := by decide +kernel
theorem dX6_version_4 : decode cX6_version 4 = .ok (.getfield 162, 3) := by decide +kernel
theorem dX6_version_7 : decode cX6_version 7 = .ok (.aload_n 0, 1) := by decide +kernel
theorem dX6_version_8 : decode cX6_version 8 = .ok (.iload_n 1, 1) := by decide +kernel
theorem dX6_version_9 : decode cX6_version 9 = .ok (.iload_n 2, 1) := by decide +kernel
theorem dX6_version_10 : decode cX6_version 10 = .ok (.invokevirtual 67, 3) := by decide +kernel
theorem dX6_version_13 : decode cX6_version 13 = .ok (.iaload, 1) := by decide +kernel
theorem dX6_version_14 : decode cX6_version 14 = .ok (.ireturn, 1) := by decide +kernel
theorem dX6_time_0 : decode cX6_time 0 = .ok (.iload_n 1, 1) := by decide +kernel
theorem dX6_time_1 : decode cX6_time 1 = .ok (.aload_n 0, 1) := by decide +kernel
theorem dX6_time_2 : decode cX6_time 2 = .ok (.getfield 12, 3) := by decide +kernel
theorem dX6_time_5 : decode cX6_time 5 = .ok (.getfield 52, 3) := by decide +kernel
theorem dX6_time_8 : decode cX6_time 8 = .ok (.iconst 1, 1) := by decide +kernel
theorem dX6_time_9 : decode cX6_time 9 = .ok (.iadd, 1) := by decide +kernel
theorem dX6_time_10 : decode cX6_time 10 = .ok (.invokestatic 89, 3) := by decide +kernel
theorem dX6_time_13 : decode cX6_time 13 = .ok (.aload_n 0, 1) := by decide +kernel
theorem dX6_time_14 : decode cX6_time 14 = .ok (.getfield 12, 3) := by decide +kernel
theorem dX6_time_17 : decode cX6_time 17 = .ok (.getfield 185, 3) := by decide +kernel
theorem dX6_time_20 : decode cX6_time 20 = .ok (.iload_n 1, 1) := by decide +kernel
theorem dX6_time_21 : decode cX6_time 21 = .ok (.iaload, 1) := by decide +kernel
theorem dX6_time_22 : decode cX6_time 22 = .ok (.ireturn, 1) := by decide +kernel
theorem dX6_timeByBars_0 : decode cX6_timeByBars 0 = .ok (.iload_n 1, 1) := by decide +kernel
theorem dX6_timeByBars_1 : decode cX6_timeByBars 1 = .ok (.aload_n 0, 1) := by decide +kernel
theorem dX6_timeByBars_2 : decode cX6_timeByBars 2 = .ok (.getfield 12, 3) := by decide +kernel
theorem dX6_timeByBars_5 : decode cX6_timeByBars 5 = .ok (.getfield 52, 3) := by decide +kernel
theorem dX6_timeByBars_8 : decode cX6_timeByBars 8 = .ok (.iconst 1, 1) := by decide +kernel
theorem dX6_timeByBars_9 : decode cX6_timeByBars 9 = .ok (.iadd, 1) := by decide +kernel
theorem dX6_timeByBars_10 : decode cX6_timeByBars 10 = .ok (.invokestatic 89, 3) := by decide +kernel
theorem dX6_timeByBars_13 : decode cX6_timeByBars 13 = .ok (.aload_n 0, 1) := by decide +kernel
theorem dX6_timeByBars_14 : decode cX6_timeByBars 14 = .ok (.getfield 12, 3) := by decide +kernel
theorem dX6_timeByBars_17 : decode cX6_timeByBars 17 = .ok (.iload_n 1, 1) := by decide +kernel
theorem dX6_timeByBars_18 : decode cX6_timeByBars 18 = .ok (.invokevirtual 188, 3) := by decide +kernel
theorem dX6_timeByBars_21 : decode cX6_timeByBars 21 = .ok (.ireturn, 1) := by decide +kernel
theorem dX6_items_0 : decode cX6_items 0 = .ok (.aload_n 0, 1) := by decide +kernel
theorem dX6_items_1 : decode cX6_items 1 = .ok (.iload_n 1, 1) := by decide +kernel
theorem dX6_items_2 : decode cX6_items 2 = .ok (.invokevirtual 191, 3) := by decide +kernel
theorem dX6_items_5 : decode cX6_items 5 = .ok (.aload_n 0, 1) := by decide +kernel
theorem dX6_items_6 : decode cX6_items 6 = .ok (.getfield 21, 3) := by decide +kernel
theorem dX6_items_9 : decode cX6_items 9 = .ok (.getfield 195, 3) := by decide +kernel
theorem dX6_items_12 : decode cX6_items 12 = .ok (.ireturn, 1) := by decide +kernel
theorem dX6_itemOf_0 : decode cX6_itemOf 0 = .ok (.aload_n 0, 1) := by decide +kernel
theorem dX6_itemOf_1 : decode cX6_itemOf 1 = .ok (.iload_n 1, 1) := by decide +kernel
theorem dX6_itemOf_2 : decode cX6_itemOf 2 = .ok (.invokevirtual 191, 3) := by decide +kernel
theorem dX6_itemOf_5 : decode cX6_itemOf 5 = .ok (.iload_n 2, 1) := by decide +kernel
theorem dX6_itemOf_6 : decode cX6_itemOf 6 = .ok (.aload_n 0, 1) := by decide +kernel
theorem dX6_itemOf_7 : decode cX6_itemOf 7 = .ok (.getfield 12, 3) := by decide +kernel
theorem dX6_itemOf_10 : decode cX6_itemOf 10 = .ok (.getfield 52, 3) := by decide +kernel
theorem dX6_itemOf_13 : decode cX6_itemOf 13 = .ok (.invokestatic 89, 3) := by decide +kernel
theorem dX6_itemOf_16 : decode cX6_itemOf 16 = .ok (.aload_n 0, 1) := by decide +kernel
theorem dX6_itemOf_17 : decode cX6_itemOf 17 = .ok (.getfield 21, 3) := by decide +kernel
theorem dX6_itemOf_20 : decode cX6_itemOf 20 = .ok (.getfield 198, 3) := by decide +kernel
theorem dX6_itemOf_23 : decode cX6_itemOf 23 = .ok (.iload_n 2, 1) := by decide +kernel
theorem dX6_itemOf_24 : decode cX6_itemOf 24 = .ok (.iaload, 1) := by decide +kernel
theorem dX6_itemOf_25 : decode cX6_itemOf 25 = .ok (.ireturn, 1) := by decide +kernel
theorem dX6_cue_0 : decode cX6_cue 0 = .ok (.aload_n 0, 1) := by decide +kernel
theorem dX6_cue_1 : decode cX6_cue 1 = .ok (.iload_n 1, 1) := by decide +kernel
theorem dX6_cue_2 : decode cX6_cue 2 = .ok (.iload_n 2, 1) := by decide +kernel
theorem dX6_cue_3 : decode cX6_cue 3 = .ok (.invokevirtual 67, 3) := by decide +kernel
theorem dX6_cue_6 : decode cX6_cue 6 = .ok (.pop, 1) := by decide +kernel
theorem dX6_cue_7 : decode cX6_cue 7 = .ok (.aload_n 0, 1) := by decide +kernel
theorem dX6_cue_8 : decode cX6_cue 8 = .ok (.getfield 12, 3) := by decide +kernel
theorem dX6_cue_11 : decode cX6_cue 11 = .ok (.iload_n 1, 1) := by decide +kernel
theorem dX6_cue_12 : decode cX6_cue 12 = .ok (.iload_n 2, 1) := by decide +kernel
theorem dX6_cue_13 : decode cX6_cue 13 = .ok (.invokevirtual 201, 3) := by decide +kernel
theorem dX6_cue_16 : decode cX6_cue 16 = .ok (.ireturn, 1) := by decide +kernel
theorem dX6_width_0 : decode cX6_width 0 = .ok (.aload_n 0, 1) := by decide +kernel
theorem dX6_width_1 : decode cX6_width 1 = .ok (.iload_n 1, 1) := by decide +kernel
theorem dX6_width_2 : decode cX6_width 2 = .ok (.invokevirtual 191, 3) := by decide +kernel
theorem dX6_width_5 : decode cX6_width 5 = .ok (.iload_n 2, 1) := by decide +kernel
theorem dX6_width_6 : decode cX6_width 6 = .ok (.aload_n 0, 1) := by decide +kernel
theorem dX6_width_7 : decode cX6_width 7 = .ok (.getfield 21, 3) := by decide +kernel
theorem dX6_width_10 : decode cX6_width 10 = .ok (.getfield 195, 3) := by decide +kernel
theorem dX6_width_13 : decode cX6_width 13 = .ok (.invokestatic 89, 3) := by decide +kernel
theorem dX6_width_16 : decode cX6_width 16 = .ok (.aload_n 0, 1) := by decide +kernel
theorem dX6_width_17 : decode cX6_width 17 = .ok (.getfield 21, 3) := by decide +kernel
theorem dX6_width_20 : decode cX6_width 20 = .ok (.iload_n 2, 1) := by decide +kernel
theorem dX6_width_21 : decode cX6_width 21 = .ok (.iload_n 2, 1) := by decide +kernel
theorem dX6_width_22 : decode cX6_width 22 = .ok (.iconst 1, 1) := by decide +kernel
theorem dX6_width_23 : decode cX6_width 23 = .ok (.iadd, 1) := by decide +kernel
theorem dX6_width_24 : decode cX6_width 24 = .ok (.invokevirtual 204, 3) := by decide +kernel
theorem dX6_width_27 : decode cX6_width 27 = .ok (.ireturn, 1) := by decide +kernel
theorem dX6_lines_0 : decode cX6_lines 0 = .ok (.aload_n 0, 1) := by decide +kernel
theorem dX6_lines_1 : decode cX6_lines 1 = .ok (.iload_n 1, 1) := by decide +kernel
theorem dX6_lines_2 : decode cX6_lines 2 = .ok (.invokevirtual 207, 3) := by decide +kernel
theorem dX6_lines_5 : decode cX6_lines 5 = .ok (.aload_n 0, 1) := by decide +kernel
theorem dX6_lines_6 : decode cX6_lines 6 = .ok (.getfield 30, 3) := by decide +kernel
theorem dX6_lines_9 : decode cX6_lines 9 = .ok (.getfield 210, 3) := by decide +kernel
theorem dX6_lines_12 : decode cX6_lines 12 = .ok (.ireturn, 1) := by decide +kernel
theorem dX6_lineOf_0 : decode cX6_lineOf 0 = .ok (.aload_n 0, 1) := by decide +kernel
theorem dX6_lineOf_1 : decode cX6_lineOf 1 = .ok (.iload_n 1, 1) := by decide +kernel
theorem dX6_lineOf_2 : decode cX6_lineOf 2 = .ok (.invokevirtual 207, 3) := by decide +kernel
theorem dX6_lineOf_5 : decode cX6_lineOf 5 = .ok (.iload_n 2, 1) := by decide +kernel
theorem dX6_lineOf_6 : decode cX6_lineOf 6 = .ok (.aload_n 0, 1) := by decide +kernel
theorem dX6_lineOf_7 : decode cX6_lineOf 7 = .ok (.getfield 12, 3) := by decide +kernel
theorem dX6_lineOf_10 : decode cX6_lineOf 10 = .ok (.getfield 52, 3) := by decide +kernel
theorem dX6_lineOf_13 : decode cX6_lineOf 13 = .ok (.invokestatic 89, 3) := by decide +kernel
theorem dX6_lineOf_16 : decode cX6_lineOf 16 = .ok (.aload_n 0, 1) := by decide +kernel
theorem dX6_lineOf_17 : decode cX6_lineOf 17 = .ok (.getfield 30, 3) := by decide +kernel
theorem dX6_lineOf_20 : decode cX6_lineOf 20 = .ok (.getfield 213, 3) := by decide +kernel
theorem dX6_lineOf_23 : decode cX6_lineOf 23 = .ok (.aload_n 0, 1) := by decide +kernel
theorem dX6_lineOf_24 : decode cX6_lineOf 24 = .ok (.getfield 21, 3) := by decide +kernel
theorem dX6_lineOf_27 : decode cX6_lineOf 27 = .ok (.getfield 198, 3) := by decide +kernel
theorem dX6_lineOf_30 : decode cX6_lineOf 30 = .ok (.iload_n 2, 1) := by decide +kernel
theorem dX6_lineOf_31 : decode cX6_lineOf 31 = .ok (.iaload, 1) := by decide +kernel
theorem dX6_lineOf_32 : decode cX6_lineOf 32 = .ok (.iaload, 1) := by decide +kernel
theorem dX6_lineOf_33 : decode cX6_lineOf 33 = .ok (.ireturn, 1) := by decide +kernel
theorem dX6_cost_0 : decode cX6_cost 0 = .ok (.aload_n 0, 1) := by decide +kernel
theorem dX6_cost_1 : decode cX6_cost 1 = .ok (.iload_n 1, 1) := by decide +kernel
theorem dX6_cost_2 : decode cX6_cost 2 = .ok (.invokevirtual 207, 3) := by decide +kernel
theorem dX6_cost_5 : decode cX6_cost 5 = .ok (.aload_n 0, 1) := by decide +kernel
theorem dX6_cost_6 : decode cX6_cost 6 = .ok (.getfield 30, 3) := by decide +kernel
theorem dX6_cost_9 : decode cX6_cost 9 = .ok (.invokevirtual 216, 3) := by decide +kernel
theorem dX6_cost_12 : decode cX6_cost 12 = .ok (.ireturn, 1) := by decide +kernel
theorem dX6_costByAll_0 : decode cX6_costByAll 0 = .ok (.aload_n 0, 1) := by decide +kernel
theorem dX6_costByAll_1 : decode cX6_costByAll 1 = .ok (.iload_n 1, 1) := by decide +kernel
theorem dX6_costByAll_2 : decode cX6_costByAll 2 = .ok (.invokevirtual 191, 3) := by decide +kernel
theorem dX6_costByAll_5 : decode cX6_costByAll 5 = .ok (.aload_n 0, 1) := by decide +kernel
theorem dX6_costByAll_6 : decode cX6_costByAll 6 = .ok (.getfield 30, 3) := by decide +kernel
theorem dX6_costByAll_9 : decode cX6_costByAll 9 = .ok (.invokevirtual 219, 3) := by decide +kernel
theorem dX6_costByAll_12 : decode cX6_costByAll 12 = .ok (.ireturn, 1) := by decide +kernel
theorem dX6_turns_0 : decode cX6_turns 0 = .ok (.aload_n 0, 1) := by decide +kernel
theorem dX6_turns_1 : decode cX6_turns 1 = .ok (.iload_n 1, 1) := by decide +kernel
theorem dX6_turns_2 : decode cX6_turns 2 = .ok (.invokevirtual 207, 3) := by decide +kernel
theorem dX6_turns_5 : decode cX6_turns 5 = .ok (.aload_n 0, 1) := by decide +kernel
theorem dX6_turns_6 : decode cX6_turns 6 = .ok (.getfield 30, 3) := by decide +kernel
theorem dX6_turns_9 : decode cX6_turns 9 = .ok (.getfield 222, 3) := by decide +kernel
theorem dX6_turns_12 : decode cX6_turns 12 = .ok (.ireturn, 1) := by decide +kernel
theorem dX6_place_0 : decode cX6_place 0 = .ok (.aload_n 0, 1) := by decide +kernel
theorem dX6_place_1 : decode cX6_place 1 = .ok (.iload_n 1, 1) := by decide +kernel
theorem dX6_place_2 : decode cX6_place 2 = .ok (.invokevirtual 207, 3) := by decide +kernel
theorem dX6_place_5 : decode cX6_place 5 = .ok (.iload_n 2, 1) := by decide +kernel
theorem dX6_place_6 : decode cX6_place 6 = .ok (.aload_n 0, 1) := by decide +kernel
theorem dX6_place_7 : decode cX6_place 7 = .ok (.getfield 12, 3) := by decide +kernel
theorem dX6_place_10 : decode cX6_place 10 = .ok (.getfield 52, 3) := by decide +kernel
theorem dX6_place_13 : decode cX6_place 13 = .ok (.invokestatic 89, 3) := by decide +kernel
theorem dX6_place_16 : decode cX6_place 16 = .ok (.aload_n 0, 1) := by decide +kernel
theorem dX6_place_17 : decode cX6_place 17 = .ok (.getfield 21, 3) := by decide +kernel
theorem dX6_place_20 : decode cX6_place 20 = .ok (.iload_n 2, 1) := by decide +kernel
theorem dX6_place_21 : decode cX6_place 21 = .ok (.iload_n 3, 1) := by decide +kernel
theorem dX6_place_22 : decode cX6_place 22 = .ok (.invokevirtual 225, 3) := by decide +kernel
theorem dX6_place_25 : decode cX6_place 25 = .ok (.istore 4, 2) := by decide +kernel
theorem dX6_place_27 : decode cX6_place 27 = .ok (.iload 4, 2) := by decide +kernel
theorem dX6_place_29 : decode cX6_place 29 = .ok (.iconst (-1), 1) := by decide +kernel
theorem dX6_place_30 : decode cX6_place 30 = .ok (.if_icmp .ne 13, 3) := by decide +kernel
theorem dX6_place_33 : decode cX6_place 33 = .ok (.new 228, 3) := by decide +kernel
theorem dX6_place_36 : decode cX6_place 36 = .ok (.dup, 1) := by decide +kernel
theorem dX6_place_37 : decode cX6_place 37 = .ok (.ldc 230, 2) := by decide +kernel
theorem dX6_place_39 : decode cX6_place 39 = .ok (.invokespecial 232, 3) := by decide +kernel
theorem dX6_place_42 : decode cX6_place 42 = .ok (.athrow, 1) := by decide +kernel
theorem dX6_place_43 : decode cX6_place 43 = .ok (.aload_n 0, 1) := by decide +kernel
theorem dX6_place_44 : decode cX6_place 44 = .ok (.getfield 30, 3) := by decide +kernel
theorem dX6_place_47 : decode cX6_place 47 = .ok (.aload_n 0, 1) := by decide +kernel
theorem dX6_place_48 : decode cX6_place 48 = .ok (.getfield 21, 3) := by decide +kernel
theorem dX6_place_51 : decode cX6_place 51 = .ok (.getfield 198, 3) := by decide +kernel
theorem dX6_place_54 : decode cX6_place 54 = .ok (.iload_n 2, 1) := by decide +kernel
theorem dX6_place_55 : decode cX6_place 55 = .ok (.iaload, 1) := by decide +kernel
theorem dX6_place_56 : decode cX6_place 56 = .ok (.iload 4, 2) := by decide +kernel
theorem dX6_place_58 : decode cX6_place 58 = .ok (.invokevirtual 233, 3) := by decide +kernel
theorem dX6_place_61 : decode cX6_place 61 = .ok (.ireturn, 1) := by decide +kernel
theorem dX6_copies_0 : decode cX6_copies 0 = .ok (.aload_n 0, 1) := by decide +kernel
theorem dX6_copies_1 : decode cX6_copies 1 = .ok (.getfield 105, 3) := by decide +kernel
theorem dX6_copies_4 : decode cX6_copies 4 = .ok (.ireturn, 1) := by decide +kernel
theorem dX6_deskOf_0 : decode cX6_deskOf 0 = .ok (.iload_n 1, 1) := by decide +kernel
theorem dX6_deskOf_1 : decode cX6_deskOf 1 = .ok (.aload_n 0, 1) := by decide +kernel
theorem dX6_deskOf_2 : decode cX6_deskOf 2 = .ok (.getfield 105, 3) := by decide +kernel
theorem dX6_deskOf_5 : decode cX6_deskOf 5 = .ok (.invokestatic 89, 3) := by decide +kernel
theorem dX6_deskOf_8 : decode cX6_deskOf 8 = .ok (.aload_n 0, 1) := by decide +kernel
theorem dX6_deskOf_9 : decode cX6_deskOf 9 = .ok (.getfield 36, 3) := by decide +kernel
theorem dX6_deskOf_12 : decode cX6_deskOf 12 = .ok (.iload_n 1, 1) := by decide +kernel
theorem dX6_deskOf_13 : decode cX6_deskOf 13 = .ok (.aaload, 1) := by decide +kernel
theorem dX6_deskOf_14 : decode cX6_deskOf 14 = .ok (.getfield 125, 3) := by decide +kernel
theorem dX6_deskOf_17 : decode cX6_deskOf 17 = .ok (.ireturn, 1) := by decide +kernel
theorem dX6_has_0 : decode cX6_has 0 = .ok (.iload_n 1, 1) := by decide +kernel
theorem dX6_has_1 : decode cX6_has 1 = .ok (.aload_n 0, 1) := by decide +kernel
theorem dX6_has_2 : decode cX6_has 2 = .ok (.getfield 105, 3) := by decide +kernel
theorem dX6_has_5 : decode cX6_has 5 = .ok (.invokestatic 89, 3) := by decide +kernel
theorem dX6_has_8 : decode cX6_has 8 = .ok (.iload_n 2, 1) := by decide +kernel
theorem dX6_has_9 : decode cX6_has 9 = .ok (.aload_n 0, 1) := by decide +kernel
theorem dX6_has_10 : decode cX6_has 10 = .ok (.getfield 12, 3) := by decide +kernel
theorem dX6_has_13 : decode cX6_has 13 = .ok (.getfield 52, 3) := by decide +kernel
theorem dX6_has_16 : decode cX6_has 16 = .ok (.invokestatic 89, 3) := by decide +kernel
theorem dX6_has_19 : decode cX6_has 19 = .ok (.aload_n 0, 1) := by decide +kernel
theorem dX6_has_20 : decode cX6_has 20 = .ok (.getfield 36, 3) := by decide +kernel
theorem dX6_has_23 : decode cX6_has 23 = .ok (.iload_n 1, 1) := by decide +kernel
theorem dX6_has_24 : decode cX6_has 24 = .ok (.aaload, 1) := by decide +kernel
theorem dX6_has_25 : decode cX6_has 25 = .ok (.iload_n 2, 1) := by decide +kernel
theorem dX6_has_26 : decode cX6_has 26 = .ok (.invokevirtual 151, 3) := by decide +kernel
theorem dX6_has_29 : decode cX6_has 29 = .ok (.ireturn, 1) := by decide +kernel
theorem dX6_owed_0 : decode cX6_owed 0 = .ok (.iload_n 1, 1) := by decide +kernel
theorem dX6_owed_1 : decode cX6_owed 1 = .ok (.aload_n 0, 1) := by decide +kernel
theorem dX6_owed_2 : decode cX6_owed 2 = .ok (.getfield 105, 3) := by decide +kernel
theorem dX6_owed_5 : decode cX6_owed 5 = .ok (.invokestatic 89, 3) := by decide +kernel
theorem dX6_owed_8 : decode cX6_owed 8 = .ok (.aload_n 0, 1) := by decide +kernel
theorem dX6_owed_9 : decode cX6_owed 9 = .ok (.getfield 36, 3) := by decide +kernel
theorem dX6_owed_12 : decode cX6_owed 12 = .ok (.iload_n 1, 1) := by decide +kernel
theorem dX6_owed_13 : decode cX6_owed 13 = .ok (.aaload, 1) := by decide +kernel
theorem dX6_owed_14 : decode cX6_owed 14 = .ok (.invokevirtual 139, 3) := by decide +kernel
theorem dX6_owed_17 : decode cX6_owed 17 = .ok (.ireturn, 1) := by decide +kernel
theorem dX6_markOf_0 : decode cX6_markOf 0 = .ok (.iload_n 1, 1) := by decide +kernel
theorem dX6_markOf_1 : decode cX6_markOf 1 = .ok (.bipush 6, 2) := by decide +kernel
theorem dX6_markOf_3 : decode cX6_markOf 3 = .ok (.invokestatic 89, 3) := by decide +kernel
theorem dX6_markOf_6 : decode cX6_markOf 6 = .ok (.aload_n 0, 1) := by decide +kernel
theorem dX6_markOf_7 : decode cX6_markOf 7 = .ok (.getfield 43, 3) := by decide +kernel
theorem dX6_markOf_10 : decode cX6_markOf 10 = .ok (.iload_n 1, 1) := by decide +kernel
theorem dX6_markOf_11 : decode cX6_markOf 11 = .ok (.aaload, 1) := by decide +kernel
theorem dX6_markOf_12 : decode cX6_markOf 12 = .ok (.getfield 236, 3) := by decide +kernel
theorem dX6_markOf_15 : decode cX6_markOf 15 = .ok (.aload_n 0, 1) := by decide +kernel
theorem dX6_markOf_16 : decode cX6_markOf 16 = .ok (.iload_n 2, 1) := by decide +kernel
theorem dX6_markOf_17 : decode cX6_markOf 17 = .ok (.iload_n 3, 1) := by decide +kernel
theorem dX6_markOf_18 : decode cX6_markOf 18 = .ok (.invokevirtual 67, 3) := by decide +kernel
theorem dX6_markOf_21 : decode cX6_markOf 21 = .ok (.iaload, 1) := by decide +kernel
theorem dX6_markOf_22 : decode cX6_markOf 22 = .ok (.ireturn, 1) := by decide +kernel
theorem dX6_oldMarks_0 : decode cX6_oldMarks 0 = .ok (.iload_n 1, 1) := by decide +kernel
theorem dX6_oldMarks_1 : decode cX6_oldMarks 1 = .ok (.bipush 6, 2) := by decide +kernel
theorem dX6_oldMarks_3 : decode cX6_oldMarks 3 = .ok (.invokestatic 89, 3) := by decide +kernel
theorem dX6_oldMarks_6 : decode cX6_oldMarks 6 = .ok (.aload_n 0, 1) := by decide +kernel
theorem dX6_oldMarks_7 : decode cX6_oldMarks 7 = .ok (.getfield 43, 3) := by decide +kernel
theorem dX6_oldMarks_10 : decode cX6_oldMarks 10 = .ok (.iload_n 1, 1) := by decide +kernel
theorem dX6_oldMarks_11 : decode cX6_oldMarks 11 = .ok (.aaload, 1) := by decide +kernel
theorem dX6_oldMarks_12 : decode cX6_oldMarks 12 = .ok (.aload_n 0, 1) := by decide +kernel
theorem dX6_oldMarks_13 : decode cX6_oldMarks 13 = .ok (.getfield 12, 3) := by decide +kernel
theorem dX6_oldMarks_16 : decode cX6_oldMarks 16 = .ok (.invokevirtual 239, 3) := by decide +kernel
theorem dX6_oldMarks_19 : decode cX6_oldMarks 19 = .ok (.ireturn, 1) := by decide +kernel
theorem dX6_clashes_0 : decode cX6_clashes 0 = .ok (.iload_n 1, 1) := by decide +kernel
theorem dX6_clashes_1 : decode cX6_clashes 1 = .ok (.iconst 5, 1) := by decide +kernel
theorem dX6_clashes_2 : decode cX6_clashes 2 = .ok (.invokestatic 89, 3) := by decide +kernel
theorem dX6_clashes_5 : decode cX6_clashes 5 = .ok (.iconst 0, 1) := by decide +kernel
theorem dX6_clashes_6 : decode cX6_clashes 6 = .ok (.istore_n 2, 1) := by decide +kernel
theorem dX6_clashes_7 : decode cX6_clashes 7 = .ok (.iconst 0, 1) := by decide +kernel
theorem dX6_clashes_8 : decode cX6_clashes 8 = .ok (.istore_n 3, 1) := by decide +kernel
theorem dX6_clashes_9 : decode cX6_clashes 9 = .ok (.iload_n 3, 1) := by decide +kernel
theorem dX6_clashes_10 : decode cX6_clashes 10 = .ok (.iconst 3, 1) := by decide +kernel
theorem dX6_clashes_11 : decode cX6_clashes 11 = .ok (.if_icmp .ge 35, 3) := by decide +kernel
theorem dX6_clashes_14 : decode cX6_clashes 14 = .ok (.iload_n 2, 1) := by decide +kernel
theorem dX6_clashes_15 : decode cX6_clashes 15 = .ok (.aload_n 0, 1) := by decide +kernel
theorem dX6_clashes_16 : decode cX6_clashes 16 = .ok (.aload_n 0, 1) := by decide +kernel
theorem dX6_clashes_17 : decode cX6_clashes 17 = .ok (.getfield 43, 3) := by decide +kernel
theorem dX6_clashes_20 : decode cX6_clashes 20 = .ok (.iconst 2, 1) := by decide +kernel
theorem dX6_clashes_21 : decode cX6_clashes 21 = .ok (.iload_n 3, 1) := by decide +kernel
theorem dX6_clashes_22 : decode cX6_clashes 22 = .ok (.imul, 1) := by decide +kernel
theorem dX6_clashes_23 : decode cX6_clashes 23 = .ok (.aaload, 1) := by decide +kernel
theorem dX6_clashes_24 : decode cX6_clashes 24 = .ok (.aload_n 0, 1) := by decide +kernel
theorem dX6_clashes_25 : decode cX6_clashes 25 = .ok (.getfield 43, 3) := by decide +kernel
theorem dX6_clashes_28 : decode cX6_clashes 28 = .ok (.iconst 2, 1) := by decide +kernel
theorem dX6_clashes_29 : decode cX6_clashes 29 = .ok (.iload_n 3, 1) := by decide +kernel
theorem dX6_clashes_30 : decode cX6_clashes 30 = .ok (.imul, 1) := by decide +kernel
theorem dX6_clashes_31 : decode cX6_clashes 31 = .ok (.iconst 1, 1) := by decide +kernel
theorem dX6_clashes_32 : decode cX6_clashes 32 = .ok (.iadd, 1) := by decide +kernel
theorem dX6_clashes_33 : decode cX6_clashes 33 = .ok (.aaload, 1) := by decide +kernel
theorem dX6_clashes_34 : decode cX6_clashes 34 = .ok (.iload_n 1, 1) := by decide +kernel
theorem dX6_clashes_35 : decode cX6_clashes 35 = .ok (.invokevirtual 243, 3) := by decide +kernel
theorem dX6_clashes_38 : decode cX6_clashes 38 = .ok (.iadd, 1) := by decide +kernel
theorem dX6_clashes_39 : decode cX6_clashes 39 = .ok (.istore_n 2, 1) := by decide +kernel
theorem dX6_clashes_40 : decode cX6_clashes 40 = .ok (.iinc 3 1, 3) := by decide +kernel
theorem dX6_clashes_43 : decode cX6_clashes 43 = .ok (.goto (-34), 3) := by decide +kernel
theorem dX6_clashes_46 : decode cX6_clashes 46 = .ok (.iload_n 2, 1) := by decide +kernel
theorem dX6_clashes_47 : decode cX6_clashes 47 = .ok (.ireturn, 1) := by decide +kernel
theorem dX6_concerts_0 : decode cX6_concerts 0 = .ok (.aload_n 0, 1) := by decide +kernel
theorem dX6_concerts_1 : decode cX6_concerts 1 = .ok (.getfield 176, 3) := by decide +kernel
theorem dX6_concerts_4 : decode cX6_concerts 4 = .ok (.ireturn, 1) := by decide +kernel
theorem dX6_needIndex_0 : decode cX6_needIndex 0 = .ok (.iload_n 0, 1) := by decide +kernel
theorem dX6_needIndex_1 : decode cX6_needIndex 1 = .ok (.ifCond .lt 8, 3) := by decide +kernel
theorem dX6_needIndex_4 : decode cX6_needIndex 4 = .ok (.iload_n 0, 1) := by decide +kernel
theorem dX6_needIndex_5 : decode cX6_needIndex 5 = .ok (.iload_n 1, 1) := by decide +kernel
theorem dX6_needIndex_6 : decode cX6_needIndex 6 = .ok (.if_icmp .lt 13, 3) := by decide +kernel
theorem dX6_needIndex_9 : decode cX6_needIndex 9 = .ok (.new 228, 3) := by decide +kernel
theorem dX6_needIndex_12 : decode cX6_needIndex 12 = .ok (.dup, 1) := by decide +kernel
theorem dX6_needIndex_13 : decode cX6_needIndex 13 = .ok (.ldc 247, 2) := by decide +kernel
theorem dX6_needIndex_15 : decode cX6_needIndex 15 = .ok (.invokespecial 232, 3) := by decide +kernel
theorem dX6_needIndex_18 : decode cX6_needIndex 18 = .ok (.athrow, 1) := by decide +kernel
theorem dX6_needIndex_19 : decode cX6_needIndex 19 = .ok (.return_, 1) := by decide +kernel
theorem dX6_needValue_0 : decode cX6_needValue 0 = .ok (.iload_n 0, 1) := by decide +kernel
theorem dX6_needValue_1 : decode cX6_needValue 1 = .ok (.iload_n 1, 1) := by decide +kernel
theorem dX6_needValue_2 : decode cX6_needValue 2 = .ok (.if_icmp .lt 8, 3) := by decide +kernel
theorem dX6_needValue_5 : decode cX6_needValue 5 = .ok (.iload_n 0, 1) := by decide +kernel
theorem dX6_needValue_6 : decode cX6_needValue 6 = .ok (.iload_n 2, 1) := by decide +kernel
theorem dX6_needValue_7 : decode cX6_needValue 7 = .ok (.if_icmp .le 13, 3) := by decide +kernel
theorem dX6_needValue_10 : decode cX6_needValue 10 = .ok (.new 249, 3) := by decide +kernel
theorem dX6_needValue_13 : decode cX6_needValue 13 = .ok (.dup, 1) := by decide +kernel
theorem dX6_needValue_14 : decode cX6_needValue 14 = .ok (.ldc 251, 2) := by decide +kernel
theorem dX6_needValue_16 : decode cX6_needValue 16 = .ok (.invokespecial 253, 3) := by decide +kernel
theorem dX6_needValue_19 : decode cX6_needValue 19 = .ok (.athrow, 1) := by decide +kernel
theorem dX6_needValue_20 : decode cX6_needValue 20 = .ok (.return_, 1) := by decide +kernel
theorem dX6_slotOf_0 : decode cX6_slotOf 0 = .ok (.iload_n 0, 1) := by decide +kernel
theorem dX6_slotOf_1 : decode cX6_slotOf 1 = .ok (.bipush 12, 2) := by decide +kernel
theorem dX6_slotOf_3 : decode cX6_slotOf 3 = .ok (.imul, 1) := by decide +kernel
theorem dX6_slotOf_4 : decode cX6_slotOf 4 = .ok (.iload_n 1, 1) := by decide +kernel
theorem dX6_slotOf_5 : decode cX6_slotOf 5 = .ok (.iadd, 1) := by decide +kernel
theorem dX6_slotOf_6 : decode cX6_slotOf 6 = .ok (.ireturn, 1) := by decide +kernel
theorem dX6_needSlot_0 : decode cX6_needSlot 0 = .ok (.iload_n 1, 1) := by decide +kernel
theorem dX6_needSlot_1 : decode cX6_needSlot 1 = .ok (.iconst 5, 1) := by decide +kernel
theorem dX6_needSlot_2 : decode cX6_needSlot 2 = .ok (.invokestatic 89, 3) := by decide +kernel
theorem dX6_needSlot_5 : decode cX6_needSlot 5 = .ok (.iload_n 2, 1) := by decide +kernel
theorem dX6_needSlot_6 : decode cX6_needSlot 6 = .ok (.aload_n 0, 1) := by decide +kernel
theorem dX6_needSlot_7 : decode cX6_needSlot 7 = .ok (.getfield 12, 3) := by decide +kernel
theorem dX6_needSlot_10 : decode cX6_needSlot 10 = .ok (.getfield 52, 3) := by decide +kernel
theorem dX6_needSlot_13 : decode cX6_needSlot 13 = .ok (.invokestatic 89, 3) := by decide +kernel
theorem dX6_needSlot_16 : decode cX6_needSlot 16 = .ok (.iload_n 1, 1) := by decide +kernel
theorem dX6_needSlot_17 : decode cX6_needSlot 17 = .ok (.iload_n 2, 1) := by decide +kernel
theorem dX6_needSlot_18 : decode cX6_needSlot 18 = .ok (.invokestatic 148, 3) := by decide +kernel
theorem dX6_needSlot_21 : decode cX6_needSlot 21 = .ok (.ireturn, 1) := by decide +kernel
theorem dX6_needCopyOut_0 : decode cX6_needCopyOut 0 = .ok (.iload_n 1, 1) := by decide +kernel
theorem dX6_needCopyOut_1 : decode cX6_needCopyOut 1 = .ok (.aload_n 0, 1) := by decide +kernel
theorem dX6_needCopyOut_2 : decode cX6_needCopyOut 2 = .ok (.getfield 105, 3) := by decide +kernel
theorem dX6_needCopyOut_5 : decode cX6_needCopyOut 5 = .ok (.invokestatic 89, 3) := by decide +kernel
theorem dX6_needCopyOut_8 : decode cX6_needCopyOut 8 = .ok (.aload_n 0, 1) := by decide +kernel
theorem dX6_needCopyOut_9 : decode cX6_needCopyOut 9 = .ok (.getfield 36, 3) := by decide +kernel
theorem dX6_needCopyOut_12 : decode cX6_needCopyOut 12 = .ok (.iload_n 1, 1) := by decide +kernel
theorem dX6_needCopyOut_13 : decode cX6_needCopyOut 13 = .ok (.aaload, 1) := by decide +kernel
theorem dX6_needCopyOut_14 : decode cX6_needCopyOut 14 = .ok (.astore_n 2, 1) := by decide +kernel
theorem dX6_needCopyOut_15 : decode cX6_needCopyOut 15 = .ok (.aload_n 2, 1) := by decide +kernel
theorem dX6_needCopyOut_16 : decode cX6_needCopyOut 16 = .ok (.invokevirtual 113, 3) := by decide +kernel
theorem dX6_needCopyOut_19 : decode cX6_needCopyOut 19 = .ok (.ifCond .ne 13, 3) := by decide +kernel
theorem dX6_needCopyOut_22 : decode cX6_needCopyOut 22 = .ok (.new 56, 3) := by decide +kernel
theorem dX6_needCopyOut_25 : decode cX6_needCopyOut 25 = .ok (.dup, 1) := by decide +kernel
theorem dX6_needCopyOut_26 : decode cX6_needCopyOut 26 = .ok (.ldc 254, 2) := by decide +kernel
theorem dX6_needCopyOut_28 : decode cX6_needCopyOut 28 = .ok (.invokespecial 60, 3) := by decide +kernel
theorem dX6_needCopyOut_31 : decode cX6_needCopyOut 31 = .ok (.athrow, 1) := by decide +kernel
theorem dX6_needCopyOut_32 : decode cX6_needCopyOut 32 = .ok (.aload_n 2, 1) := by decide +kernel
theorem dX6_needCopyOut_33 : decode cX6_needCopyOut 33 = .ok (.areturn, 1) := by decide +kernel
theorem dX6_deskHasPart_0 : decode cX6_deskHasPart 0 = .ok (.iconst 0, 1) := by decide +kernel
theorem dX6_deskHasPart_1 : decode cX6_deskHasPart 1 = .ok (.istore_n 3, 1) := by decide +kernel
theorem dX6_deskHasPart_2 : decode cX6_deskHasPart 2 = .ok (.iload_n 3, 1) := by decide +kernel
theorem dX6_deskHasPart_3 : decode cX6_deskHasPart 3 = .ok (.aload_n 0, 1) := by decide +kernel
theorem dX6_deskHasPart_4 : decode cX6_deskHasPart 4 = .ok (.getfield 105, 3) := by decide +kernel
theorem dX6_deskHasPart_7 : decode cX6_deskHasPart 7 = .ok (.if_icmp .ge 37, 3) := by decide +kernel
theorem dX6_deskHasPart_10 : decode cX6_deskHasPart 10 = .ok (.aload_n 0, 1) := by decide +kernel
theorem dX6_deskHasPart_11 : decode cX6_deskHasPart 11 = .ok (.getfield 36, 3) := by decide +kernel
theorem dX6_deskHasPart_14 : decode cX6_deskHasPart 14 = .ok (.iload_n 3, 1) := by decide +kernel
theorem dX6_deskHasPart_15 : decode cX6_deskHasPart 15 = .ok (.aaload, 1) := by decide +kernel
theorem dX6_deskHasPart_16 : decode cX6_deskHasPart 16 = .ok (.getfield 125, 3) := by decide +kernel
theorem dX6_deskHasPart_19 : decode cX6_deskHasPart 19 = .ok (.iload_n 1, 1) := by decide +kernel
theorem dX6_deskHasPart_20 : decode cX6_deskHasPart 20 = .ok (.if_icmp .ne 18, 3) := by decide +kernel
theorem dX6_deskHasPart_23 : decode cX6_deskHasPart 23 = .ok (.aload_n 0, 1) := by decide +kernel
theorem dX6_deskHasPart_24 : decode cX6_deskHasPart 24 = .ok (.getfield 36, 3) := by decide +kernel
theorem dX6_deskHasPart_27 : decode cX6_deskHasPart 27 = .ok (.iload_n 3, 1) := by decide +kernel
theorem dX6_deskHasPart_28 : decode cX6_deskHasPart 28 = .ok (.aaload, 1) := by decide +kernel
theorem dX6_deskHasPart_29 : decode cX6_deskHasPart 29 = .ok (.getfield 110, 3) := by decide +kernel
theorem dX6_deskHasPart_32 : decode cX6_deskHasPart 32 = .ok (.iload_n 2, 1) := by decide +kernel
theorem dX6_deskHasPart_33 : decode cX6_deskHasPart 33 = .ok (.if_icmp .ne 5, 3) := by decide +kernel
theorem dX6_deskHasPart_36 : decode cX6_deskHasPart 36 = .ok (.iconst 1, 1) := by decide +kernel
theorem dX6_deskHasPart_37 : decode cX6_deskHasPart 37 = .ok (.ireturn, 1) := by decide +kernel
theorem dX6_deskHasPart_38 : decode cX6_deskHasPart 38 = .ok (.iinc 3 1, 3) := by decide +kernel
theorem dX6_deskHasPart_41 : decode cX6_deskHasPart 41 = .ok (.goto (-39), 3) := by decide +kernel
theorem dX6_deskHasPart_44 : decode cX6_deskHasPart 44 = .ok (.iconst 0, 1) := by decide +kernel
theorem dX6_deskHasPart_45 : decode cX6_deskHasPart 45 = .ok (.ireturn, 1) := by decide +kernel
theorem dX6_copiesOut_0 : decode cX6_copiesOut 0 = .ok (.iconst 0, 1) := by decide +kernel
theorem dX6_copiesOut_1 : decode cX6_copiesOut 1 = .ok (.istore_n 1, 1) := by decide +kernel
theorem dX6_copiesOut_2 : decode cX6_copiesOut 2 = .ok (.iconst 0, 1) := by decide +kernel
theorem dX6_copiesOut_3 : decode cX6_copiesOut 3 = .ok (.istore_n 2, 1) := by decide +kernel
theorem dX6_copiesOut_4 : decode cX6_copiesOut 4 = .ok (.iload_n 2, 1) := by decide +kernel
theorem dX6_copiesOut_5 : decode cX6_copiesOut 5 = .ok (.aload_n 0, 1) := by decide +kernel
theorem dX6_copiesOut_6 : decode cX6_copiesOut 6 = .ok (.getfield 105, 3) := by decide +kernel
theorem dX6_copiesOut_9 : decode cX6_copiesOut 9 = .ok (.if_icmp .ge 24, 3) := by decide +kernel
theorem dX6_copiesOut_12 : decode cX6_copiesOut 12 = .ok (.aload_n 0, 1) := by decide +kernel
theorem dX6_copiesOut_13 : decode cX6_copiesOut 13 = .ok (.getfield 36, 3) := by decide +kernel
theorem dX6_copiesOut_16 : decode cX6_copiesOut 16 = .ok (.iload_n 2, 1) := by decide +kernel
theorem dX6_copiesOut_17 : decode cX6_copiesOut 17 = .ok (.aaload, 1) := by decide +kernel
theorem dX6_copiesOut_18 : decode cX6_copiesOut 18 = .ok (.invokevirtual 113, 3) := by decide +kernel
theorem dX6_copiesOut_21 : decode cX6_copiesOut 21 = .ok (.ifCond .eq 6, 3) := by decide +kernel
theorem dX6_copiesOut_24 : decode cX6_copiesOut 24 = .ok (.iinc 1 1, 3) := by decide +kernel
theorem dX6_copiesOut_27 : decode cX6_copiesOut 27 = .ok (.iinc 2 1, 3) := by decide +kernel
theorem dX6_copiesOut_30 : decode cX6_copiesOut 30 = .ok (.goto (-26), 3) := by decide +kernel
theorem dX6_copiesOut_33 : decode cX6_copiesOut 33 = .ok (.iload_n 1, 1) := by decide +kernel
theorem dX6_copiesOut_34 : decode cX6_copiesOut 34 = .ok (.ireturn, 1) := by decide +kernel
theorem dX6_anyCopyOwes_0 : decode cX6_anyCopyOwes 0 = .ok (.iconst 0, 1) := by decide +kernel
theorem dX6_anyCopyOwes_1 : decode cX6_anyCopyOwes 1 = .ok (.istore_n 1, 1) := by decide +kernel
theorem dX6_anyCopyOwes_2 : decode cX6_anyCopyOwes 2 = .ok (.iload_n 1, 1) := by decide +kernel
theorem dX6_anyCopyOwes_3 : decode cX6_anyCopyOwes 3 = .ok (.aload_n 0, 1) := by decide +kernel
theorem dX6_anyCopyOwes_4 : decode cX6_anyCopyOwes 4 = .ok (.getfield 105, 3) := by decide +kernel
theorem dX6_anyCopyOwes_7 : decode cX6_anyCopyOwes 7 = .ok (.if_icmp .ge 23, 3) := by decide +kernel
theorem dX6_anyCopyOwes_10 : decode cX6_anyCopyOwes 10 = .ok (.aload_n 0, 1) := by decide +kernel
theorem dX6_anyCopyOwes_11 : decode cX6_anyCopyOwes 11 = .ok (.getfield 36, 3) := by decide +kernel
theorem dX6_anyCopyOwes_14 : decode cX6_anyCopyOwes 14 = .ok (.iload_n 1, 1) := by decide +kernel
theorem dX6_anyCopyOwes_15 : decode cX6_anyCopyOwes 15 = .ok (.aaload, 1) := by decide +kernel
theorem dX6_anyCopyOwes_16 : decode cX6_anyCopyOwes 16 = .ok (.invokevirtual 139, 3) := by decide +kernel
theorem dX6_anyCopyOwes_19 : decode cX6_anyCopyOwes 19 = .ok (.ifCond .le 5, 3) := by decide +kernel
theorem dX6_anyCopyOwes_22 : decode cX6_anyCopyOwes 22 = .ok (.iconst 1, 1) := by decide +kernel
theorem dX6_anyCopyOwes_23 : decode cX6_anyCopyOwes 23 = .ok (.ireturn, 1) := by decide +kernel
theorem dX6_anyCopyOwes_24 : decode cX6_anyCopyOwes 24 = .ok (.iinc 1 1, 3) := by decide +kernel
theorem dX6_anyCopyOwes_27 : decode cX6_anyCopyOwes 27 = .ok (.goto (-25), 3) := by decide +kernel
theorem dX6_anyCopyOwes_30 : decode cX6_anyCopyOwes 30 = .ok (.iconst 0, 1) := by decide +kernel
theorem dX6_anyCopyOwes_31 : decode cX6_anyCopyOwes 31 = .ok (.ireturn, 1) := by decide +kernel
theorem dX6_clashesAt_0 : decode cX6_clashesAt 0 = .ok (.iconst 0, 1) := by decide +kernel
theorem dX6_clashesAt_1 : decode cX6_clashesAt 1 = .ok (.istore 4, 2) := by decide +kernel
theorem dX6_clashesAt_3 : decode cX6_clashesAt 3 = .ok (.iconst 0, 1) := by decide +kernel
theorem dX6_clashesAt_4 : decode cX6_clashesAt 4 = .ok (.istore 5, 2) := by decide +kernel
theorem dX6_clashesAt_6 : decode cX6_clashesAt 6 = .ok (.iload 5, 2) := by decide +kernel
theorem dX6_clashesAt_8 : decode cX6_clashesAt 8 = .ok (.aload_n 0, 1) := by decide +kernel
theorem dX6_clashesAt_9 : decode cX6_clashesAt 9 = .ok (.getfield 12, 3) := by decide +kernel
theorem dX6_clashesAt_12 : decode cX6_clashesAt 12 = .ok (.getfield 52, 3) := by decide +kernel
theorem dX6_clashesAt_15 : decode cX6_clashesAt 15 = .ok (.if_icmp .ge 97, 3) := by decide +kernel
theorem dX6_clashesAt_18 : decode cX6_clashesAt 18 = .ok (.iload_n 3, 1) := by decide +kernel
theorem dX6_clashesAt_19 : decode cX6_clashesAt 19 = .ok (.iload 5, 2) := by decide +kernel
theorem dX6_clashesAt_21 : decode cX6_clashesAt 21 = .ok (.invokestatic 148, 3) := by decide +kernel
theorem dX6_clashesAt_24 : decode cX6_clashesAt 24 = .ok (.istore 6, 2) := by decide +kernel
theorem dX6_clashesAt_26 : decode cX6_clashesAt 26 = .ok (.aload_n 0, 1) := by decide +kernel
theorem dX6_clashesAt_27 : decode cX6_clashesAt 27 = .ok (.getfield 12, 3) := by decide +kernel
theorem dX6_clashesAt_30 : decode cX6_clashesAt 30 = .ok (.getfield 162, 3) := by decide +kernel
theorem dX6_clashesAt_33 : decode cX6_clashesAt 33 = .ok (.iload 6, 2) := by decide +kernel
theorem dX6_clashesAt_35 : decode cX6_clashesAt 35 = .ok (.iaload, 1) := by decide +kernel
theorem dX6_clashesAt_36 : decode cX6_clashesAt 36 = .ok (.istore 7, 2) := by decide +kernel
theorem dX6_clashesAt_38 : decode cX6_clashesAt 38 = .ok (.iconst 0, 1) := by decide +kernel
theorem dX6_clashesAt_39 : decode cX6_clashesAt 39 = .ok (.istore 8, 2) := by decide +kernel
theorem dX6_clashesAt_41 : decode cX6_clashesAt 41 = .ok (.iload 8, 2) := by decide +kernel
theorem dX6_clashesAt_43 : decode cX6_clashesAt 43 = .ok (.aload_n 0, 1) := by decide +kernel
theorem dX6_clashesAt_44 : decode cX6_clashesAt 44 = .ok (.getfield 12, 3) := by decide +kernel
theorem dX6_clashesAt_47 : decode cX6_clashesAt 47 = .ok (.getfield 71, 3) := by decide +kernel
theorem dX6_clashesAt_50 : decode cX6_clashesAt 50 = .ok (.iload 6, 2) := by decide +kernel
theorem dX6_clashesAt_52 : decode cX6_clashesAt 52 = .ok (.iaload, 1) := by decide +kernel
theorem dX6_clashesAt_53 : decode cX6_clashesAt 53 = .ok (.if_icmp .ge 53, 3) := by decide +kernel
theorem dX6_clashesAt_56 : decode cX6_clashesAt 56 = .ok (.aload_n 1, 1) := by decide +kernel
theorem dX6_clashesAt_57 : decode cX6_clashesAt 57 = .ok (.iload 6, 2) := by decide +kernel
theorem dX6_clashesAt_59 : decode cX6_clashesAt 59 = .ok (.iload 8, 2) := by decide +kernel
theorem dX6_clashesAt_61 : decode cX6_clashesAt 61 = .ok (.iload 7, 2) := by decide +kernel
theorem dX6_clashesAt_63 : decode cX6_clashesAt 63 = .ok (.invokevirtual 256, 3) := by decide +kernel
theorem dX6_clashesAt_66 : decode cX6_clashesAt 66 = .ok (.istore 9, 2) := by decide +kernel
theorem dX6_clashesAt_68 : decode cX6_clashesAt 68 = .ok (.aload_n 2, 1) := by decide +kernel
theorem dX6_clashesAt_69 : decode cX6_clashesAt 69 = .ok (.iload 6, 2) := by decide +kernel
theorem dX6_clashesAt_71 : decode cX6_clashesAt 71 = .ok (.iload 8, 2) := by decide +kernel
theorem dX6_clashesAt_73 : decode cX6_clashesAt 73 = .ok (.iload 7, 2) := by decide +kernel
theorem dX6_clashesAt_75 : decode cX6_clashesAt 75 = .ok (.invokevirtual 256, 3) := by decide +kernel
theorem dX6_clashesAt_78 : decode cX6_clashesAt 78 = .ok (.istore 10, 2) := by decide +kernel
theorem dX6_clashesAt_80 : decode cX6_clashesAt 80 = .ok (.iload 9, 2) := by decide +kernel
theorem dX6_clashesAt_82 : decode cX6_clashesAt 82 = .ok (.ifCond .eq 18, 3) := by decide +kernel
theorem dX6_clashesAt_85 : decode cX6_clashesAt 85 = .ok (.iload 10, 2) := by decide +kernel
theorem dX6_clashesAt_87 : decode cX6_clashesAt 87 = .ok (.ifCond .eq 13, 3) := by decide +kernel
theorem dX6_clashesAt_90 : decode cX6_clashesAt 90 = .ok (.iload 9, 2) := by decide +kernel
theorem dX6_clashesAt_92 : decode cX6_clashesAt 92 = .ok (.iload 10, 2) := by decide +kernel
theorem dX6_clashesAt_94 : decode cX6_clashesAt 94 = .ok (.if_icmp .eq 6, 3) := by decide +kernel
theorem dX6_clashesAt_97 : decode cX6_clashesAt 97 = .ok (.iinc 4 1, 3) := by decide +kernel
theorem dX6_clashesAt_100 : decode cX6_clashesAt 100 = .ok (.iinc 8 1, 3) := by decide +kernel
theorem dX6_clashesAt_103 : decode cX6_clashesAt 103 = .ok (.goto (-62), 3) := by decide +kernel
theorem dX6_clashesAt_106 : decode cX6_clashesAt 106 = .ok (.iinc 5 1, 3) := by decide +kernel
theorem dX6_clashesAt_109 : decode cX6_clashesAt 109 = .ok (.goto (-103), 3) := by decide +kernel
theorem dX6_clashesAt_112 : decode cX6_clashesAt 112 = .ok (.iload 4, 2) := by decide +kernel
theorem dX6_clashesAt_114 : decode cX6_clashesAt 114 = .ok (.ireturn, 1) := by decide +kernel
theorem dX6_openBook_0 : decode cX6_openBook 0 = .ok (.iload_n 1, 1) := by decide +kernel
theorem dX6_openBook_1 : decode cX6_openBook 1 = .ok (.bipush 6, 2) := by decide +kernel
theorem dX6_openBook_3 : decode cX6_openBook 3 = .ok (.invokestatic 89, 3) := by decide +kernel
theorem dX6_openBook_6 : decode cX6_openBook 6 = .ok (.aload_n 0, 1) := by decide +kernel
theorem dX6_openBook_7 : decode cX6_openBook 7 = .ok (.getfield 21, 3) := by decide +kernel
theorem dX6_openBook_10 : decode cX6_openBook 10 = .ok (.iload_n 1, 1) := by decide +kernel
theorem dX6_openBook_11 : decode cX6_openBook 11 = .ok (.invokevirtual 259, 3) := by decide +kernel
theorem dX6_openBook_14 : decode cX6_openBook 14 = .ok (.return_, 1) := by decide +kernel
theorem dX6_breakBook_0 : decode cX6_breakBook 0 = .ok (.iload_n 1, 1) := by decide +kernel
theorem dX6_breakBook_1 : decode cX6_breakBook 1 = .ok (.bipush 6, 2) := by decide +kernel
theorem dX6_breakBook_3 : decode cX6_breakBook 3 = .ok (.invokestatic 89, 3) := by decide +kernel
theorem dX6_breakBook_6 : decode cX6_breakBook 6 = .ok (.aload_n 0, 1) := by decide +kernel
theorem dX6_breakBook_7 : decode cX6_breakBook 7 = .ok (.getfield 21, 3) := by decide +kernel
theorem dX6_breakBook_10 : decode cX6_breakBook 10 = .ok (.iload_n 1, 1) := by decide +kernel
theorem dX6_breakBook_11 : decode cX6_breakBook 11 = .ok (.invokevirtual 259, 3) := by decide +kernel
theorem dX6_breakBook_14 : decode cX6_breakBook 14 = .ok (.aload_n 0, 1) := by decide +kernel
theorem dX6_breakBook_15 : decode cX6_breakBook 15 = .ok (.getfield 30, 3) := by decide +kernel
theorem dX6_breakBook_18 : decode cX6_breakBook 18 = .ok (.invokevirtual 262, 3) := by decide +kernel
theorem dX6_breakBook_21 : decode cX6_breakBook 21 = .ok (.return_, 1) := by decide +kernel
theorem dJ9_max_7cf53_0 : decode cJ9_max_7cf53 0 = .ok (.iload_n 0, 1) := by decide +kernel
theorem dJ9_max_7cf53_1 : decode cJ9_max_7cf53 1 = .ok (.iload_n 1, 1) := by decide +kernel
theorem dJ9_max_7cf53_2 : decode cJ9_max_7cf53 2 = .ok (.if_icmp .lt 7, 3) := by decide +kernel
theorem dJ9_max_7cf53_5 : decode cJ9_max_7cf53 5 = .ok (.iload_n 0, 1) := by decide +kernel
theorem dJ9_max_7cf53_6 : decode cJ9_max_7cf53 6 = .ok (.goto 4, 3) := by decide +kernel
theorem dJ9_max_7cf53_9 : decode cJ9_max_7cf53 9 = .ok (.iload_n 1, 1) := by decide +kernel
theorem dJ9_max_7cf53_10 : decode cJ9_max_7cf53 10 = .ok (.ireturn, 1) := by decide +kernel
theorem dJ9_min_7cf53_0 : decode cJ9_min_7cf53 0 = .ok (.iload_n 0, 1) := by decide +kernel
theorem dJ9_min_7cf53_1 : decode cJ9_min_7cf53 1 = .ok (.iload_n 1, 1) := by decide +kernel
theorem dJ9_min_7cf53_2 : decode cJ9_min_7cf53 2 = .ok (.if_icmp .gt 7, 3) := by decide +kernel
theorem dJ9_min_7cf53_5 : decode cJ9_min_7cf53 5 = .ok (.iload_n 0, 1) := by decide +kernel
theorem dJ9_min_7cf53_6 : decode cJ9_min_7cf53 6 = .ok (.goto 4, 3) := by decide +kernel
theorem dJ9_min_7cf53_9 : decode cJ9_min_7cf53 9 = .ok (.iload_n 1, 1) := by decide +kernel
theorem dJ9_min_7cf53_10 : decode cJ9_min_7cf53 10 = .ok (.ireturn, 1) := by decide +kernel
theorem dJ7_fill_53178_0 : decode cJ7_fill_53178 0 = .ok (.iconst 0, 1) := by decide +kernel
theorem dJ7_fill_53178_1 : decode cJ7_fill_53178 1 = .ok (.istore_n 2, 1) := by decide +kernel
theorem dJ7_fill_53178_2 : decode cJ7_fill_53178 2 = .ok (.aload_n 0, 1) := by decide +kernel
theorem dJ7_fill_53178_3 : decode cJ7_fill_53178 3 = .ok (.arraylength, 1) := by decide +kernel
theorem dJ7_fill_53178_4 : decode cJ7_fill_53178 4 = .ok (.istore_n 3, 1) := by decide +kernel
theorem dJ7_fill_53178_5 : decode cJ7_fill_53178 5 = .ok (.iload_n 2, 1) := by decide +kernel
theorem dJ7_fill_53178_6 : decode cJ7_fill_53178 6 = .ok (.iload_n 3, 1) := by decide +kernel
theorem dJ7_fill_53178_7 : decode cJ7_fill_53178 7 = .ok (.if_icmp .ge 13, 3) := by decide +kernel
theorem dJ7_fill_53178_10 : decode cJ7_fill_53178 10 = .ok (.aload_n 0, 1) := by decide +kernel
theorem dJ7_fill_53178_11 : decode cJ7_fill_53178 11 = .ok (.iload_n 2, 1) := by decide +kernel
theorem dJ7_fill_53178_12 : decode cJ7_fill_53178 12 = .ok (.iload_n 1, 1) := by decide +kernel
theorem dJ7_fill_53178_13 : decode cJ7_fill_53178 13 = .ok (.iastore, 1) := by decide +kernel
theorem dJ7_fill_53178_14 : decode cJ7_fill_53178 14 = .ok (.iinc 2 1, 3) := by decide +kernel
theorem dJ7_fill_53178_17 : decode cJ7_fill_53178 17 = .ok (.goto (-12), 3) := by decide +kernel
theorem dJ7_fill_53178_20 : decode cJ7_fill_53178 20 = .ok (.return_, 1) := by decide +kernel
