theorem dL_from_0 : decode cL_from 0 = .ok (.aload_n 0, 1) := by decide +kernel
theorem dL_from_1 : decode cL_from 1 = .ok (.arraylength, 1) := by decide +kernel
theorem dL_from_2 : decode cL_from 2 = .ok (.ifCond .ne 15, 3) := by decide +kernel
theorem dL_from_5 : decode cL_from 5 = .ok (.sipush 293, 3) := by decide +kernel
theorem dL_from_8 : decode cL_from 8 = .ok (.iload_n 1, 1) := by decide +kernel
theorem dL_from_9 : decode cL_from 9 = .ok (.imul, 1) := by decide +kernel
theorem dL_from_10 : decode cL_from 10 = .ok (.sipush 269, 3) := by decide +kernel
theorem dL_from_13 : decode cL_from 13 = .ok (.iadd, 1) := by decide +kernel
theorem dL_from_14 : decode cL_from 14 = .ok (.goto 14, 3) := by decide +kernel
theorem dL_from_17 : decode cL_from 17 = .ok (.aload_n 0, 1) := by decide +kernel
theorem dL_from_18 : decode cL_from 18 = .ok (.iload_n 1, 1) := by decide +kernel
theorem dL_from_19 : decode cL_from 19 = .ok (.aload_n 0, 1) := by decide +kernel
theorem dL_from_20 : decode cL_from 20 = .ok (.arraylength, 1) := by decide +kernel
theorem dL_from_21 : decode cL_from 21 = .ok (.irem, 1) := by decide +kernel
theorem dL_from_22 : decode cL_from 22 = .ok (.iaload, 1) := by decide +kernel
theorem dL_from_23 : decode cL_from 23 = .ok (.ldc 7, 2) := by decide +kernel
theorem dL_from_25 : decode cL_from 25 = .ok (.iload_n 1, 1) := by decide +kernel
theorem dL_from_26 : decode cL_from 26 = .ok (.imul, 1) := by decide +kernel
theorem dL_from_27 : decode cL_from 27 = .ok (.ixor, 1) := by decide +kernel
theorem dL_from_28 : decode cL_from 28 = .ok (.istore_n 3, 1) := by decide +kernel
theorem dL_from_29 : decode cL_from 29 = .ok (.iload_n 3, 1) := by decide +kernel
theorem dL_from_30 : decode cL_from 30 = .ok (.ldc 8, 2) := by decide +kernel
theorem dL_from_32 : decode cL_from 32 = .ok (.iand, 1) := by decide +kernel
theorem dL_from_33 : decode cL_from 33 = .ok (.iload_n 2, 1) := by decide +kernel
theorem dL_from_34 : decode cL_from 34 = .ok (.irem, 1) := by decide +kernel
theorem dL_from_35 : decode cL_from 35 = .ok (.ireturn, 1) := by decide +kernel
theorem dL_length_0 : decode cL_length 0 = .ok (.aload_n 0, 1) := by decide +kernel
theorem dL_length_1 : decode cL_length 1 = .ok (.iload_n 1, 1) := by decide +kernel
theorem dL_length_2 : decode cL_length 2 = .ok (.laload, 1) := by decide +kernel
theorem dL_length_3 : decode cL_length 3 = .ok (.bipush 8, 2) := by decide +kernel
theorem dL_length_5 : decode cL_length 5 = .ok (.iload_n 2, 1) := by decide +kernel
theorem dL_length_6 : decode cL_length 6 = .ok (.imul, 1) := by decide +kernel
theorem dL_length_7 : decode cL_length 7 = .ok (.lushr, 1) := by decide +kernel
theorem dL_length_8 : decode cL_length 8 = .ok (.ldc2_w 9, 3) := by decide +kernel
theorem dL_length_11 : decode cL_length 11 = .ok (.land, 1) := by decide +kernel
theorem dL_length_12 : decode cL_length 12 = .ok (.l2i, 1) := by decide +kernel
theorem dL_length_13 : decode cL_length 13 = .ok (.ireturn, 1) := by decide +kernel
theorem dL_pitch_0 : decode cL_pitch 0 = .ok (.aload_n 0, 1) := by decide +kernel
theorem dL_pitch_1 : decode cL_pitch 1 = .ok (.iload_n 1, 1) := by decide +kernel
theorem dL_pitch_2 : decode cL_pitch 2 = .ok (.laload, 1) := by decide +kernel
theorem dL_pitch_3 : decode cL_pitch 3 = .ok (.bipush 8, 2) := by decide +kernel
theorem dL_pitch_5 : decode cL_pitch 5 = .ok (.iload_n 2, 1) := by decide +kernel
theorem dL_pitch_6 : decode cL_pitch 6 = .ok (.imul, 1) := by decide +kernel
theorem dL_pitch_7 : decode cL_pitch 7 = .ok (.iconst 5, 1) := by decide +kernel
theorem dL_pitch_8 : decode cL_pitch 8 = .ok (.iadd, 1) := by decide +kernel
theorem dL_pitch_9 : decode cL_pitch 9 = .ok (.lushr, 1) := by decide +kernel
theorem dL_pitch_10 : decode cL_pitch 10 = .ok (.ldc2_w 11, 3) := by decide +kernel
theorem dL_pitch_13 : decode cL_pitch 13 = .ok (.land, 1) := by decide +kernel
theorem dL_pitch_14 : decode cL_pitch 14 = .ok (.l2i, 1) := by decide +kernel
theorem dL_pitch_15 : decode cL_pitch 15 = .ok (.ireturn, 1) := by decide +kernel
theorem dL_begins_0 : decode cL_begins 0 = .ok (.bipush 6, 2) := by decide +kernel
theorem dL_begins_2 : decode cL_begins 2 = .ok (.iload_n 3, 1) := by decide +kernel
theorem dL_begins_3 : decode cL_begins 3 = .ok (.imul, 1) := by decide +kernel
theorem dL_begins_4 : decode cL_begins 4 = .ok (.iload 4, 2) := by decide +kernel
theorem dL_begins_6 : decode cL_begins 6 = .ok (.iadd, 1) := by decide +kernel
theorem dL_begins_7 : decode cL_begins 7 = .ok (.istore 6, 2) := by decide +kernel
theorem dL_begins_9 : decode cL_begins 9 = .ok (.iconst 0, 1) := by decide +kernel
theorem dL_begins_10 : decode cL_begins 10 = .ok (.istore 7, 2) := by decide +kernel
theorem dL_begins_12 : decode cL_begins 12 = .ok (.iconst 0, 1) := by decide +kernel
theorem dL_begins_13 : decode cL_begins 13 = .ok (.istore 8, 2) := by decide +kernel
theorem dL_begins_15 : decode cL_begins 15 = .ok (.iconst 0, 1) := by decide +kernel
theorem dL_begins_16 : decode cL_begins 16 = .ok (.istore 9, 2) := by decide +kernel
theorem dL_begins_18 : decode cL_begins 18 = .ok (.iload 9, 2) := by decide +kernel
theorem dL_begins_20 : decode cL_begins 20 = .ok (.aload_n 1, 1) := by decide +kernel
theorem dL_begins_21 : decode cL_begins 21 = .ok (.iload 6, 2) := by decide +kernel
theorem dL_begins_23 : decode cL_begins 23 = .ok (.iaload, 1) := by decide +kernel
theorem dL_begins_24 : decode cL_begins 24 = .ok (.if_icmp .ge 52, 3) := by decide +kernel
theorem dL_begins_27 : decode cL_begins 27 = .ok (.iload 7, 2) := by decide +kernel
theorem dL_begins_29 : decode cL_begins 29 = .ok (.iload 5, 2) := by decide +kernel
theorem dL_begins_31 : decode cL_begins 31 = .ok (.if_icmp .ne 22, 3) := by decide +kernel
theorem dL_begins_34 : decode cL_begins 34 = .ok (.aload_n 0, 1) := by decide +kernel
theorem dL_begins_35 : decode cL_begins 35 = .ok (.iload 6, 2) := by decide +kernel
theorem dL_begins_37 : decode cL_begins 37 = .ok (.iload 9, 2) := by decide +kernel
theorem dL_begins_39 : decode cL_begins 39 = .ok (.invokestatic 13, 3) := by decide +kernel
theorem dL_begins_42 : decode cL_begins 42 = .ok (.ifCond .le 7, 3) := by decide +kernel
theorem dL_begins_45 : decode cL_begins 45 = .ok (.iconst 2, 1) := by decide +kernel
theorem dL_begins_46 : decode cL_begins 46 = .ok (.goto 9, 3) := by decide +kernel
theorem dL_begins_49 : decode cL_begins 49 = .ok (.iconst 1, 1) := by decide +kernel
theorem dL_begins_50 : decode cL_begins 50 = .ok (.goto 5, 3) := by decide +kernel
theorem dL_begins_53 : decode cL_begins 53 = .ok (.iload 8, 2) := by decide +kernel
theorem dL_begins_55 : decode cL_begins 55 = .ok (.istore 8, 2) := by decide +kernel
theorem dL_begins_57 : decode cL_begins 57 = .ok (.iload 7, 2) := by decide +kernel
theorem dL_begins_59 : decode cL_begins 59 = .ok (.aload_n 0, 1) := by decide +kernel
theorem dL_begins_60 : decode cL_begins 60 = .ok (.iload 6, 2) := by decide +kernel
theorem dL_begins_62 : decode cL_begins 62 = .ok (.iload 9, 2) := by decide +kernel
theorem dL_begins_64 : decode cL_begins 64 = .ok (.invokestatic 19, 3) := by decide +kernel
theorem dL_begins_67 : decode cL_begins 67 = .ok (.iadd, 1) := by decide +kernel
theorem dL_begins_68 : decode cL_begins 68 = .ok (.istore 7, 2) := by decide +kernel
theorem dL_begins_70 : decode cL_begins 70 = .ok (.iinc 9 1, 3) := by decide +kernel
theorem dL_begins_73 : decode cL_begins 73 = .ok (.goto (-55), 3) := by decide +kernel
theorem dL_begins_76 : decode cL_begins 76 = .ok (.iload 7, 2) := by decide +kernel
theorem dL_begins_78 : decode cL_begins 78 = .ok (.iload 5, 2) := by decide +kernel
theorem dL_begins_80 : decode cL_begins 80 = .ok (.if_icmp .ne 16, 3) := by decide +kernel
theorem dL_begins_83 : decode cL_begins 83 = .ok (.iload 7, 2) := by decide +kernel
theorem dL_begins_85 : decode cL_begins 85 = .ok (.aload_n 2, 1) := by decide +kernel
theorem dL_begins_86 : decode cL_begins 86 = .ok (.iload 4, 2) := by decide +kernel
theorem dL_begins_88 : decode cL_begins 88 = .ok (.iaload, 1) := by decide +kernel
theorem dL_begins_89 : decode cL_begins 89 = .ok (.if_icmp .ge 7, 3) := by decide +kernel
theorem dL_begins_92 : decode cL_begins 92 = .ok (.iconst 1, 1) := by decide +kernel
theorem dL_begins_93 : decode cL_begins 93 = .ok (.goto 5, 3) := by decide +kernel
theorem dL_begins_96 : decode cL_begins 96 = .ok (.iload 8, 2) := by decide +kernel
theorem dL_begins_98 : decode cL_begins 98 = .ok (.ireturn, 1) := by decide +kernel
theorem dL_isSilent_0 : decode cL_isSilent 0 = .ok (.iconst 1, 1) := by decide +kernel
theorem dL_isSilent_1 : decode cL_isSilent 1 = .ok (.istore 4, 2) := by decide +kernel
theorem dL_isSilent_3 : decode cL_isSilent 3 = .ok (.iconst 0, 1) := by decide +kernel
theorem dL_isSilent_4 : decode cL_isSilent 4 = .ok (.istore 5, 2) := by decide +kernel
theorem dL_isSilent_6 : decode cL_isSilent 6 = .ok (.iload 5, 2) := by decide +kernel
theorem dL_isSilent_8 : decode cL_isSilent 8 = .ok (.aload_n 1, 1) := by decide +kernel
theorem dL_isSilent_9 : decode cL_isSilent 9 = .ok (.bipush 6, 2) := by decide +kernel
theorem dL_isSilent_11 : decode cL_isSilent 11 = .ok (.iload_n 2, 1) := by decide +kernel
theorem dL_isSilent_12 : decode cL_isSilent 12 = .ok (.imul, 1) := by decide +kernel
theorem dL_isSilent_13 : decode cL_isSilent 13 = .ok (.iload_n 3, 1) := by decide +kernel
theorem dL_isSilent_14 : decode cL_isSilent 14 = .ok (.iadd, 1) := by decide +kernel
theorem dL_isSilent_15 : decode cL_isSilent 15 = .ok (.iaload, 1) := by decide +kernel
theorem dL_isSilent_16 : decode cL_isSilent 16 = .ok (.if_icmp .ge 36, 3) := by decide +kernel
theorem dL_isSilent_19 : decode cL_isSilent 19 = .ok (.iload 4, 2) := by decide +kernel
theorem dL_isSilent_21 : decode cL_isSilent 21 = .ok (.ifCond .eq 22, 3) := by decide +kernel
theorem dL_isSilent_24 : decode cL_isSilent 24 = .ok (.aload_n 0, 1) := by decide +kernel
theorem dL_isSilent_25 : decode cL_isSilent 25 = .ok (.bipush 6, 2) := by decide +kernel
theorem dL_isSilent_27 : decode cL_isSilent 27 = .ok (.iload_n 2, 1) := by decide +kernel
theorem dL_isSilent_28 : decode cL_isSilent 28 = .ok (.imul, 1) := by decide +kernel
theorem dL_isSilent_29 : decode cL_isSilent 29 = .ok (.iload_n 3, 1) := by decide +kernel
theorem dL_isSilent_30 : decode cL_isSilent 30 = .ok (.iadd, 1) := by decide +kernel
theorem dL_isSilent_31 : decode cL_isSilent 31 = .ok (.iload 5, 2) := by decide +kernel
theorem dL_isSilent_33 : decode cL_isSilent 33 = .ok (.invokestatic 13, 3) := by decide +kernel
theorem dL_isSilent_36 : decode cL_isSilent 36 = .ok (.ifCond .ne 7, 3) := by decide +kernel
theorem dL_isSilent_39 : decode cL_isSilent 39 = .ok (.iconst 1, 1) := by decide +kernel
theorem dL_isSilent_40 : decode cL_isSilent 40 = .ok (.goto 4, 3) := by decide +kernel
theorem dL_isSilent_43 : decode cL_isSilent 43 = .ok (.iconst 0, 1) := by decide +kernel
theorem dL_isSilent_44 : decode cL_isSilent 44 = .ok (.istore 4, 2) := by decide +kernel
theorem dL_isSilent_46 : decode cL_isSilent 46 = .ok (.iinc 5 1, 3) := by decide +kernel
theorem dL_isSilent_49 : decode cL_isSilent 49 = .ok (.goto (-43), 3) := by decide +kernel
theorem dL_isSilent_52 : decode cL_isSilent 52 = .ok (.iload 4, 2) := by decide +kernel
theorem dL_isSilent_54 : decode cL_isSilent 54 = .ok (.ireturn, 1) := by decide +kernel
theorem dL_begun_0 : decode cL_begun 0 = .ok (.iload 5, 2) := by decide +kernel
theorem dL_begun_2 : decode cL_begun 2 = .ok (.ifCond .ne 8, 3) := by decide +kernel
theorem dL_begun_5 : decode cL_begun 5 = .ok (.bipush 10, 2) := by decide +kernel
theorem dL_begun_7 : decode cL_begun 7 = .ok (.goto 4, 3) := by decide +kernel
theorem dL_begun_10 : decode cL_begun 10 = .ok (.iconst 0, 1) := by decide +kernel
theorem dL_begun_11 : decode cL_begun 11 = .ok (.istore 6, 2) := by decide +kernel
theorem dL_begun_13 : decode cL_begun 13 = .ok (.iconst 0, 1) := by decide +kernel
theorem dL_begun_14 : decode cL_begun 14 = .ok (.istore 7, 2) := by decide +kernel
theorem dL_begun_16 : decode cL_begun 16 = .ok (.iconst 0, 1) := by decide +kernel
theorem dL_begun_17 : decode cL_begun 17 = .ok (.istore 8, 2) := by decide +kernel
theorem dL_begun_19 : decode cL_begun 19 = .ok (.iload 8, 2) := by decide +kernel
theorem dL_begun_21 : decode cL_begun 21 = .ok (.iconst 5, 1) := by decide +kernel
theorem dL_begun_22 : decode cL_begun 22 = .ok (.if_icmp .ge 68, 3) := by decide +kernel
theorem dL_begun_25 : decode cL_begun 25 = .ok (.iload_n 3, 1) := by decide +kernel
theorem dL_begun_26 : decode cL_begun 26 = .ok (.iconst 5, 1) := by decide +kernel
theorem dL_begun_27 : decode cL_begun 27 = .ok (.if_icmp .eq 9, 3) := by decide +kernel
theorem dL_begun_30 : decode cL_begun 30 = .ok (.iload_n 3, 1) := by decide +kernel
theorem dL_begun_31 : decode cL_begun 31 = .ok (.iload 8, 2) := by decide +kernel
theorem dL_begun_33 : decode cL_begun 33 = .ok (.if_icmp .ne 18, 3) := by decide +kernel
theorem dL_begun_36 : decode cL_begun 36 = .ok (.aload_n 0, 1) := by decide +kernel
theorem dL_begun_37 : decode cL_begun 37 = .ok (.aload_n 1, 1) := by decide +kernel
theorem dL_begun_38 : decode cL_begun 38 = .ok (.aload_n 2, 1) := by decide +kernel
theorem dL_begun_39 : decode cL_begun 39 = .ok (.iload 8, 2) := by decide +kernel
theorem dL_begun_41 : decode cL_begun 41 = .ok (.iload 4, 2) := by decide +kernel
theorem dL_begun_43 : decode cL_begun 43 = .ok (.iload 5, 2) := by decide +kernel
theorem dL_begun_45 : decode cL_begun 45 = .ok (.invokestatic 22, 3) := by decide +kernel
theorem dL_begun_48 : decode cL_begun 48 = .ok (.goto 4, 3) := by decide +kernel
theorem dL_begun_51 : decode cL_begun 51 = .ok (.iconst 0, 1) := by decide +kernel
theorem dL_begun_52 : decode cL_begun 52 = .ok (.istore 9, 2) := by decide +kernel
theorem dL_begun_54 : decode cL_begun 54 = .ok (.iload 9, 2) := by decide +kernel
theorem dL_begun_56 : decode cL_begun 56 = .ok (.ifCond .le 8, 3) := by decide +kernel
theorem dL_begun_59 : decode cL_begun 59 = .ok (.bipush 10, 2) := by decide +kernel
theorem dL_begun_61 : decode cL_begun 61 = .ok (.goto 5, 3) := by decide +kernel
theorem dL_begun_64 : decode cL_begun 64 = .ok (.iload 6, 2) := by decide +kernel
theorem dL_begun_66 : decode cL_begun 66 = .ok (.istore 6, 2) := by decide +kernel
theorem dL_begun_68 : decode cL_begun 68 = .ok (.iload 7, 2) := by decide +kernel
theorem dL_begun_70 : decode cL_begun 70 = .ok (.iload 9, 2) := by decide +kernel
theorem dL_begun_72 : decode cL_begun 72 = .ok (.iconst 2, 1) := by decide +kernel
theorem dL_begun_73 : decode cL_begun 73 = .ok (.if_icmp .ne 7, 3) := by decide +kernel
theorem dL_begun_76 : decode cL_begun 76 = .ok (.iconst 1, 1) := by decide +kernel
theorem dL_begun_77 : decode cL_begun 77 = .ok (.goto 4, 3) := by decide +kernel
theorem dL_begun_80 : decode cL_begun 80 = .ok (.iconst 0, 1) := by decide +kernel
theorem dL_begun_81 : decode cL_begun 81 = .ok (.iadd, 1) := by decide +kernel
theorem dL_begun_82 : decode cL_begun 82 = .ok (.istore 7, 2) := by decide +kernel
theorem dL_begun_84 : decode cL_begun 84 = .ok (.iinc 8 1, 3) := by decide +kernel
theorem dL_begun_87 : decode cL_begun 87 = .ok (.goto (-68), 3) := by decide +kernel
theorem dL_begun_90 : decode cL_begun 90 = .ok (.iload 6, 2) := by decide +kernel
theorem dL_begun_92 : decode cL_begun 92 = .ok (.iload 7, 2) := by decide +kernel
theorem dL_begun_94 : decode cL_begun 94 = .ok (.iadd, 1) := by decide +kernel
theorem dL_begun_95 : decode cL_begun 95 = .ok (.ireturn, 1) := by decide +kernel
theorem dL_spring_0 : decode cL_spring 0 = .ok (.iload_n 3, 1) := by decide +kernel
theorem dL_spring_1 : decode cL_spring 1 = .ok (.ifCond .ge 7, 3) := by decide +kernel
theorem dL_spring_4 : decode cL_spring 4 = .ok (.sipush 2416, 3) := by decide +kernel
theorem dL_spring_7 : decode cL_spring 7 = .ok (.ireturn, 1) := by decide +kernel
theorem dL_spring_8 : decode cL_spring 8 = .ok (.iload 5, 2) := by decide +kernel
theorem dL_spring_10 : decode cL_spring 10 = .ok (.iconst 1, 1) := by decide +kernel
theorem dL_spring_11 : decode cL_spring 11 = .ok (.iadd, 1) := by decide +kernel
theorem dL_spring_12 : decode cL_spring 12 = .ok (.istore 6, 2) := by decide +kernel
theorem dL_spring_14 : decode cL_spring 14 = .ok (.iload 6, 2) := by decide +kernel
theorem dL_spring_16 : decode cL_spring 16 = .ok (.aload_n 2, 1) := by decide +kernel
theorem dL_spring_17 : decode cL_spring 17 = .ok (.iload 4, 2) := by decide +kernel
theorem dL_spring_19 : decode cL_spring 19 = .ok (.iaload, 1) := by decide +kernel
theorem dL_spring_20 : decode cL_spring 20 = .ok (.if_icmp .ge 23, 3) := by decide +kernel
theorem dL_spring_23 : decode cL_spring 23 = .ok (.aload_n 0, 1) := by decide +kernel
theorem dL_spring_24 : decode cL_spring 24 = .ok (.aload_n 1, 1) := by decide +kernel
theorem dL_spring_25 : decode cL_spring 25 = .ok (.aload_n 2, 1) := by decide +kernel
theorem dL_spring_26 : decode cL_spring 26 = .ok (.iload_n 3, 1) := by decide +kernel
theorem dL_spring_27 : decode cL_spring 27 = .ok (.iload 4, 2) := by decide +kernel
theorem dL_spring_29 : decode cL_spring 29 = .ok (.iload 6, 2) := by decide +kernel
theorem dL_spring_31 : decode cL_spring 31 = .ok (.invokestatic 26, 3) := by decide +kernel
theorem dL_spring_34 : decode cL_spring 34 = .ok (.ifCond .ne 9, 3) := by decide +kernel
theorem dL_spring_37 : decode cL_spring 37 = .ok (.iinc 6 1, 3) := by decide +kernel
theorem dL_spring_40 : decode cL_spring 40 = .ok (.goto (-26), 3) := by decide +kernel
theorem dL_spring_43 : decode cL_spring 43 = .ok (.bipush 6, 2) := by decide +kernel
theorem dL_spring_45 : decode cL_spring 45 = .ok (.istore 7, 2) := by decide +kernel
theorem dL_spring_47 : decode cL_spring 47 = .ok (.iload 6, 2) := by decide +kernel
theorem dL_spring_49 : decode cL_spring 49 = .ok (.iload 5, 2) := by decide +kernel
theorem dL_spring_51 : decode cL_spring 51 = .ok (.isub, 1) := by decide +kernel
theorem dL_spring_52 : decode cL_spring 52 = .ok (.istore 8, 2) := by decide +kernel
theorem dL_spring_54 : decode cL_spring 54 = .ok (.iload 8, 2) := by decide +kernel
theorem dL_spring_56 : decode cL_spring 56 = .ok (.iconst 1, 1) := by decide +kernel
theorem dL_spring_57 : decode cL_spring 57 = .ok (.if_icmp .le 15, 3) := by decide +kernel
theorem dL_spring_60 : decode cL_spring 60 = .ok (.iinc 7 3, 3) := by decide +kernel
theorem dL_spring_63 : decode cL_spring 63 = .ok (.iload 8, 2) := by decide +kernel
theorem dL_spring_65 : decode cL_spring 65 = .ok (.iconst 2, 1) := by decide +kernel
theorem dL_spring_66 : decode cL_spring 66 = .ok (.idiv, 1) := by decide +kernel
theorem dL_spring_67 : decode cL_spring 67 = .ok (.istore 8, 2) := by decide +kernel
theorem dL_spring_69 : decode cL_spring 69 = .ok (.goto (-15), 3) := by decide +kernel
theorem dL_spring_72 : decode cL_spring 72 = .ok (.iconst 4, 1) := by decide +kernel
theorem dL_spring_73 : decode cL_spring 73 = .ok (.aload_n 0, 1) := by decide +kernel
theorem dL_spring_74 : decode cL_spring 74 = .ok (.aload_n 1, 1) := by decide +kernel
theorem dL_spring_75 : decode cL_spring 75 = .ok (.aload_n 2, 1) := by decide +kernel
theorem dL_spring_76 : decode cL_spring 76 = .ok (.iload_n 3, 1) := by decide +kernel
theorem dL_spring_77 : decode cL_spring 77 = .ok (.iload 4, 2) := by decide +kernel
theorem dL_spring_79 : decode cL_spring 79 = .ok (.iload 5, 2) := by decide +kernel
theorem dL_spring_81 : decode cL_spring 81 = .ok (.invokestatic 26, 3) := by decide +kernel
theorem dL_spring_84 : decode cL_spring 84 = .ok (.iadd, 1) := by decide +kernel
theorem dL_spring_85 : decode cL_spring 85 = .ok (.bipush 10, 2) := by decide +kernel
theorem dL_spring_87 : decode cL_spring 87 = .ok (.isub, 1) := by decide +kernel
theorem dL_spring_88 : decode cL_spring 88 = .ok (.istore 8, 2) := by decide +kernel
theorem dL_spring_90 : decode cL_spring 90 = .ok (.bipush 100, 2) := by decide +kernel
theorem dL_spring_92 : decode cL_spring 92 = .ok (.iload 7, 2) := by decide +kernel
theorem dL_spring_94 : decode cL_spring 94 = .ok (.iload 8, 2) := by decide +kernel
theorem dL_spring_96 : decode cL_spring 96 = .ok (.if_icmp .le 8, 3) := by decide +kernel
theorem dL_spring_99 : decode cL_spring 99 = .ok (.iload 7, 2) := by decide +kernel
theorem dL_spring_101 : decode cL_spring 101 = .ok (.goto 5, 3) := by decide +kernel
theorem dL_spring_104 : decode cL_spring 104 = .ok (.iload 8, 2) := by decide +kernel
theorem dL_spring_106 : decode cL_spring 106 = .ok (.imul, 1) := by decide +kernel
theorem dL_spring_107 : decode cL_spring 107 = .ok (.iload 8, 2) := by decide +kernel
theorem dL_spring_109 : decode cL_spring 109 = .ok (.iadd, 1) := by decide +kernel
theorem dL_spring_110 : decode cL_spring 110 = .ok (.ireturn, 1) := by decide +kernel
theorem dL_isSpring_0 : decode cL_isSpring 0 = .ok (.iload_n 3, 1) := by decide +kernel
theorem dL_isSpring_1 : decode cL_isSpring 1 = .ok (.ifCond .ge 16, 3) := by decide +kernel
theorem dL_isSpring_4 : decode cL_isSpring 4 = .ok (.iload 5, 2) := by decide +kernel
theorem dL_isSpring_6 : decode cL_isSpring 6 = .ok (.ifCond .ne 7, 3) := by decide +kernel
theorem dL_isSpring_9 : decode cL_isSpring 9 = .ok (.iconst 1, 1) := by decide +kernel
theorem dL_isSpring_10 : decode cL_isSpring 10 = .ok (.goto 35, 3) := by decide +kernel
theorem dL_isSpring_13 : decode cL_isSpring 13 = .ok (.iconst 0, 1) := by decide +kernel
theorem dL_isSpring_14 : decode cL_isSpring 14 = .ok (.goto 31, 3) := by decide +kernel
theorem dL_isSpring_17 : decode cL_isSpring 17 = .ok (.iload 5, 2) := by decide +kernel
theorem dL_isSpring_19 : decode cL_isSpring 19 = .ok (.aload_n 2, 1) := by decide +kernel
theorem dL_isSpring_20 : decode cL_isSpring 20 = .ok (.iload 4, 2) := by decide +kernel
theorem dL_isSpring_22 : decode cL_isSpring 22 = .ok (.iaload, 1) := by decide +kernel
theorem dL_isSpring_23 : decode cL_isSpring 23 = .ok (.if_icmp .ge 21, 3) := by decide +kernel
theorem dL_isSpring_26 : decode cL_isSpring 26 = .ok (.aload_n 0, 1) := by decide +kernel
theorem dL_isSpring_27 : decode cL_isSpring 27 = .ok (.aload_n 1, 1) := by decide +kernel
theorem dL_isSpring_28 : decode cL_isSpring 28 = .ok (.aload_n 2, 1) := by decide +kernel
theorem dL_isSpring_29 : decode cL_isSpring 29 = .ok (.iload_n 3, 1) := by decide +kernel
theorem dL_isSpring_30 : decode cL_isSpring 30 = .ok (.iload 4, 2) := by decide +kernel
theorem dL_isSpring_32 : decode cL_isSpring 32 = .ok (.iload 5, 2) := by decide +kernel
theorem dL_isSpring_34 : decode cL_isSpring 34 = .ok (.invokestatic 26, 3) := by decide +kernel
theorem dL_isSpring_37 : decode cL_isSpring 37 = .ok (.ifCond .le 7, 3) := by decide +kernel
theorem dL_isSpring_40 : decode cL_isSpring 40 = .ok (.iconst 1, 1) := by decide +kernel
theorem dL_isSpring_41 : decode cL_isSpring 41 = .ok (.goto 4, 3) := by decide +kernel
theorem dL_isSpring_44 : decode cL_isSpring 44 = .ok (.iconst 0, 1) := by decide +kernel
theorem dL_isSpring_45 : decode cL_isSpring 45 = .ok (.ireturn, 1) := by decide +kernel
theorem dL_cue_0 : decode cL_cue 0 = .ok (.iconst (-1), 1) := by decide +kernel
theorem dL_cue_1 : decode cL_cue 1 = .ok (.istore 4, 2) := by decide +kernel
theorem dL_cue_3 : decode cL_cue 3 = .ok (.iconst 4, 1) := by decide +kernel
theorem dL_cue_4 : decode cL_cue 4 = .ok (.istore 5, 2) := by decide +kernel
theorem dL_cue_6 : decode cL_cue 6 = .ok (.iload 5, 2) := by decide +kernel
theorem dL_cue_8 : decode cL_cue 8 = .ok (.ifCond .lt 73, 3) := by decide +kernel
theorem dL_cue_11 : decode cL_cue 11 = .ok (.iload 5, 2) := by decide +kernel
theorem dL_cue_13 : decode cL_cue 13 = .ok (.iload_n 2, 1) := by decide +kernel
theorem dL_cue_14 : decode cL_cue 14 = .ok (.if_icmp .eq 18, 3) := by decide +kernel
theorem dL_cue_17 : decode cL_cue 17 = .ok (.aload_n 0, 1) := by decide +kernel
theorem dL_cue_18 : decode cL_cue 18 = .ok (.aload_n 1, 1) := by decide +kernel
theorem dL_cue_19 : decode cL_cue 19 = .ok (.iload 5, 2) := by decide +kernel
theorem dL_cue_21 : decode cL_cue 21 = .ok (.iload_n 3, 1) := by decide +kernel
theorem dL_cue_22 : decode cL_cue 22 = .ok (.invokestatic 29, 3) := by decide +kernel
theorem dL_cue_25 : decode cL_cue 25 = .ok (.ifCond .ne 7, 3) := by decide +kernel
theorem dL_cue_28 : decode cL_cue 28 = .ok (.iconst 1, 1) := by decide +kernel
theorem dL_cue_29 : decode cL_cue 29 = .ok (.goto 4, 3) := by decide +kernel
theorem dL_cue_32 : decode cL_cue 32 = .ok (.iconst 0, 1) := by decide +kernel
theorem dL_cue_33 : decode cL_cue 33 = .ok (.istore 6, 2) := by decide +kernel
theorem dL_cue_35 : decode cL_cue 35 = .ok (.iload 6, 2) := by decide +kernel
theorem dL_cue_37 : decode cL_cue 37 = .ok (.ifCond .eq 34, 3) := by decide +kernel
theorem dL_cue_40 : decode cL_cue 40 = .ok (.iload 4, 2) := by decide +kernel
theorem dL_cue_42 : decode cL_cue 42 = .ok (.ifCond .lt 24, 3) := by decide +kernel
theorem dL_cue_45 : decode cL_cue 45 = .ok (.aload_n 1, 1) := by decide +kernel
theorem dL_cue_46 : decode cL_cue 46 = .ok (.bipush 6, 2) := by decide +kernel
theorem dL_cue_48 : decode cL_cue 48 = .ok (.iload 5, 2) := by decide +kernel
theorem dL_cue_50 : decode cL_cue 50 = .ok (.imul, 1) := by decide +kernel
theorem dL_cue_51 : decode cL_cue 51 = .ok (.iload_n 3, 1) := by decide +kernel
theorem dL_cue_52 : decode cL_cue 52 = .ok (.iadd, 1) := by decide +kernel
theorem dL_cue_53 : decode cL_cue 53 = .ok (.iaload, 1) := by decide +kernel
theorem dL_cue_54 : decode cL_cue 54 = .ok (.aload_n 1, 1) := by decide +kernel
theorem dL_cue_55 : decode cL_cue 55 = .ok (.bipush 6, 2) := by decide +kernel
theorem dL_cue_57 : decode cL_cue 57 = .ok (.iload 4, 2) := by decide +kernel
theorem dL_cue_59 : decode cL_cue 59 = .ok (.imul, 1) := by decide +kernel
theorem dL_cue_60 : decode cL_cue 60 = .ok (.iload_n 3, 1) := by decide +kernel
theorem dL_cue_61 : decode cL_cue 61 = .ok (.iadd, 1) := by decide +kernel
theorem dL_cue_62 : decode cL_cue 62 = .ok (.iaload, 1) := by decide +kernel
theorem dL_cue_63 : decode cL_cue 63 = .ok (.if_icmp .lt 8, 3) := by decide +kernel
theorem dL_cue_66 : decode cL_cue 66 = .ok (.iload 5, 2) := by decide +kernel
theorem dL_cue_68 : decode cL_cue 68 = .ok (.goto 5, 3) := by decide +kernel
theorem dL_cue_71 : decode cL_cue 71 = .ok (.iload 4, 2) := by decide +kernel
theorem dL_cue_73 : decode cL_cue 73 = .ok (.istore 4, 2) := by decide +kernel
theorem dL_cue_75 : decode cL_cue 75 = .ok (.iinc 5 (-1), 3) := by decide +kernel
theorem dL_cue_78 : decode cL_cue 78 = .ok (.goto (-72), 3) := by decide +kernel
theorem dL_cue_81 : decode cL_cue 81 = .ok (.iload 4, 2) := by decide +kernel
theorem dL_cue_83 : decode cL_cue 83 = .ok (.ireturn, 1) := by decide +kernel
theorem dL_items_0 : decode cL_items 0 = .ok (.iconst 0, 1) := by decide +kernel
theorem dL_items_1 : decode cL_items 1 = .ok (.istore 6, 2) := by decide +kernel
theorem dL_items_3 : decode cL_items 3 = .ok (.iconst 0, 1) := by decide +kernel
theorem dL_items_4 : decode cL_items 4 = .ok (.istore 7, 2) := by decide +kernel
theorem dL_items_6 : decode cL_items 6 = .ok (.iconst 0, 1) := by decide +kernel
theorem dL_items_7 : decode cL_items 7 = .ok (.istore 8, 2) := by decide +kernel
theorem dL_items_9 : decode cL_items 9 = .ok (.iload 8, 2) := by decide +kernel
theorem dL_items_11 : decode cL_items 11 = .ok (.aload_n 3, 1) := by decide +kernel
theorem dL_items_12 : decode cL_items 12 = .ok (.iconst 0, 1) := by decide +kernel
theorem dL_items_13 : decode cL_items 13 = .ok (.iaload, 1) := by decide +kernel
theorem dL_items_14 : decode cL_items 14 = .ok (.if_icmp .gt 227, 3) := by decide +kernel
theorem dL_items_17 : decode cL_items 17 = .ok (.iload 8, 2) := by decide +kernel
theorem dL_items_19 : decode cL_items 19 = .ok (.aload_n 3, 1) := by decide +kernel
theorem dL_items_20 : decode cL_items 20 = .ok (.iconst 0, 1) := by decide +kernel
theorem dL_items_21 : decode cL_items 21 = .ok (.iaload, 1) := by decide +kernel
theorem dL_items_22 : decode cL_items 22 = .ok (.if_icmp .ge 25, 3) := by decide +kernel
theorem dL_items_25 : decode cL_items 25 = .ok (.iload 4, 2) := by decide +kernel
theorem dL_items_27 : decode cL_items 27 = .ok (.iconst 5, 1) := by decide +kernel
theorem dL_items_28 : decode cL_items 28 = .ok (.if_icmp .ge 19, 3) := by decide +kernel
theorem dL_items_31 : decode cL_items 31 = .ok (.aload_n 0, 1) := by decide +kernel
theorem dL_items_32 : decode cL_items 32 = .ok (.aload_n 1, 1) := by decide +kernel
theorem dL_items_33 : decode cL_items 33 = .ok (.iload 4, 2) := by decide +kernel
theorem dL_items_35 : decode cL_items 35 = .ok (.iload 8, 2) := by decide +kernel
theorem dL_items_37 : decode cL_items 37 = .ok (.invokestatic 29, 3) := by decide +kernel
theorem dL_items_40 : decode cL_items 40 = .ok (.ifCond .eq 7, 3) := by decide +kernel
theorem dL_items_43 : decode cL_items 43 = .ok (.iconst 1, 1) := by decide +kernel
theorem dL_items_44 : decode cL_items 44 = .ok (.goto 4, 3) := by decide +kernel
theorem dL_items_47 : decode cL_items 47 = .ok (.iconst 0, 1) := by decide +kernel
theorem dL_items_48 : decode cL_items 48 = .ok (.istore 9, 2) := by decide +kernel
theorem dL_items_50 : decode cL_items 50 = .ok (.iload 9, 2) := by decide +kernel
theorem dL_items_52 : decode cL_items 52 = .ok (.ifCond .eq 9, 3) := by decide +kernel
theorem dL_items_55 : decode cL_items 55 = .ok (.iinc 7 1, 3) := by decide +kernel
theorem dL_items_58 : decode cL_items 58 = .ok (.goto 177, 3) := by decide +kernel
theorem dL_items_61 : decode cL_items 61 = .ok (.iload 7, 2) := by decide +kernel
theorem dL_items_63 : decode cL_items 63 = .ok (.iconst 2, 1) := by decide +kernel
theorem dL_items_64 : decode cL_items 64 = .ok (.if_icmp .le 25, 3) := by decide +kernel
theorem dL_items_67 : decode cL_items 67 = .ok (.iload 8, 2) := by decide +kernel
theorem dL_items_69 : decode cL_items 69 = .ok (.aload_n 3, 1) := by decide +kernel
theorem dL_items_70 : decode cL_items 70 = .ok (.iconst 0, 1) := by decide +kernel
theorem dL_items_71 : decode cL_items 71 = .ok (.iaload, 1) := by decide +kernel
theorem dL_items_72 : decode cL_items 72 = .ok (.if_icmp .ge 17, 3) := by decide +kernel
theorem dL_items_75 : decode cL_items 75 = .ok (.aload_n 0, 1) := by decide +kernel
theorem dL_items_76 : decode cL_items 76 = .ok (.aload_n 1, 1) := by decide +kernel
theorem dL_items_77 : decode cL_items 77 = .ok (.iload 4, 2) := by decide +kernel
theorem dL_items_79 : decode cL_items 79 = .ok (.iload 8, 2) := by decide +kernel
theorem dL_items_81 : decode cL_items 81 = .ok (.iconst 1, 1) := by decide +kernel
theorem dL_items_82 : decode cL_items 82 = .ok (.isub, 1) := by decide +kernel
theorem dL_items_83 : decode cL_items 83 = .ok (.invokestatic 33, 3) := by decide +kernel
theorem dL_items_86 : decode cL_items 86 = .ok (.goto 4, 3) := by decide +kernel
theorem dL_items_89 : decode cL_items 89 = .ok (.iconst (-1), 1) := by decide +kernel
theorem dL_items_90 : decode cL_items 90 = .ok (.istore 10, 2) := by decide +kernel
theorem dL_items_92 : decode cL_items 92 = .ok (.iload 7, 2) := by decide +kernel
theorem dL_items_94 : decode cL_items 94 = .ok (.ifCond .le 53, 3) := by decide +kernel
theorem dL_items_97 : decode cL_items 97 = .ok (.aload 5, 2) := by decide +kernel
theorem dL_items_99 : decode cL_items 99 = .ok (.iconst 5, 1) := by decide +kernel
theorem dL_items_100 : decode cL_items 100 = .ok (.iload 6, 2) := by decide +kernel
theorem dL_items_102 : decode cL_items 102 = .ok (.imul, 1) := by decide +kernel
theorem dL_items_103 : decode cL_items 103 = .ok (.iload 8, 2) := by decide +kernel
theorem dL_items_105 : decode cL_items 105 = .ok (.iload 7, 2) := by decide +kernel
theorem dL_items_107 : decode cL_items 107 = .ok (.isub, 1) := by decide +kernel
theorem dL_items_108 : decode cL_items 108 = .ok (.iastore, 1) := by decide +kernel
theorem dL_items_109 : decode cL_items 109 = .ok (.aload 5, 2) := by decide +kernel
theorem dL_items_111 : decode cL_items 111 = .ok (.iconst 5, 1) := by decide +kernel
theorem dL_items_112 : decode cL_items 112 = .ok (.iload 6, 2) := by decide +kernel
theorem dL_items_114 : decode cL_items 114 = .ok (.imul, 1) := by decide +kernel
theorem dL_items_115 : decode cL_items 115 = .ok (.iconst 1, 1) := by decide +kernel
theorem dL_items_116 : decode cL_items 116 = .ok (.iadd, 1) := by decide +kernel
theorem dL_items_117 : decode cL_items 117 = .ok (.iload 10, 2) := by decide +kernel
theorem dL_items_119 : decode cL_items 119 = .ok (.ifCond .ge 10, 3) := by decide +kernel
theorem dL_items_122 : decode cL_items 122 = .ok (.iload 8, 2) := by decide +kernel
theorem dL_items_124 : decode cL_items 124 = .ok (.iconst 1, 1) := by decide +kernel
theorem dL_items_125 : decode cL_items 125 = .ok (.isub, 1) := by decide +kernel
theorem dL_items_126 : decode cL_items 126 = .ok (.goto 7, 3) := by decide +kernel
theorem dL_items_129 : decode cL_items 129 = .ok (.iload 8, 2) := by decide +kernel
theorem dL_items_131 : decode cL_items 131 = .ok (.iconst 2, 1) := by decide +kernel
theorem dL_items_132 : decode cL_items 132 = .ok (.isub, 1) := by decide +kernel
theorem dL_items_133 : decode cL_items 133 = .ok (.iastore, 1) := by decide +kernel
theorem dL_items_134 : decode cL_items 134 = .ok (.aload 5, 2) := by decide +kernel
theorem dL_items_136 : decode cL_items 136 = .ok (.iconst 5, 1) := by decide +kernel
theorem dL_items_137 : decode cL_items 137 = .ok (.iload 6, 2) := by decide +kernel
theorem dL_items_139 : decode cL_items 139 = .ok (.imul, 1) := by decide +kernel
theorem dL_items_140 : decode cL_items 140 = .ok (.iconst 2, 1) := by decide +kernel
theorem dL_items_141 : decode cL_items 141 = .ok (.iadd, 1) := by decide +kernel
theorem dL_items_142 : decode cL_items 142 = .ok (.iconst (-1), 1) := by decide +kernel
theorem dL_items_143 : decode cL_items 143 = .ok (.iastore, 1) := by decide +kernel
theorem dL_items_144 : decode cL_items 144 = .ok (.iinc 6 1, 3) := by decide +kernel
theorem dL_items_147 : decode cL_items 147 = .ok (.iload 10, 2) := by decide +kernel
theorem dL_items_149 : decode cL_items 149 = .ok (.ifCond .lt 41, 3) := by decide +kernel
theorem dL_items_152 : decode cL_items 152 = .ok (.aload 5, 2) := by decide +kernel
theorem dL_items_154 : decode cL_items 154 = .ok (.iconst 5, 1) := by decide +kernel
theorem dL_items_155 : decode cL_items 155 = .ok (.iload 6, 2) := by decide +kernel
theorem dL_items_157 : decode cL_items 157 = .ok (.imul, 1) := by decide +kernel
theorem dL_items_158 : decode cL_items 158 = .ok (.iload 8, 2) := by decide +kernel
theorem dL_items_160 : decode cL_items 160 = .ok (.iconst 1, 1) := by decide +kernel
theorem dL_items_161 : decode cL_items 161 = .ok (.isub, 1) := by decide +kernel
theorem dL_items_162 : decode cL_items 162 = .ok (.iastore, 1) := by decide +kernel
theorem dL_items_163 : decode cL_items 163 = .ok (.aload 5, 2) := by decide +kernel
theorem dL_items_165 : decode cL_items 165 = .ok (.iconst 5, 1) := by decide +kernel
theorem dL_items_166 : decode cL_items 166 = .ok (.iload 6, 2) := by decide +kernel
theorem dL_items_168 : decode cL_items 168 = .ok (.imul, 1) := by decide +kernel
theorem dL_items_169 : decode cL_items 169 = .ok (.iconst 1, 1) := by decide +kernel
theorem dL_items_170 : decode cL_items 170 = .ok (.iadd, 1) := by decide +kernel
theorem dL_items_171 : decode cL_items 171 = .ok (.iload 8, 2) := by decide +kernel
theorem dL_items_173 : decode cL_items 173 = .ok (.iconst 1, 1) := by decide +kernel
theorem dL_items_174 : decode cL_items 174 = .ok (.isub, 1) := by decide +kernel
theorem dL_items_175 : decode cL_items 175 = .ok (.iastore, 1) := by decide +kernel
theorem dL_items_176 : decode cL_items 176 = .ok (.aload 5, 2) := by decide +kernel
theorem dL_items_178 : decode cL_items 178 = .ok (.iconst 5, 1) := by decide +kernel
theorem dL_items_179 : decode cL_items 179 = .ok (.iload 6, 2) := by decide +kernel
theorem dL_items_181 : decode cL_items 181 = .ok (.imul, 1) := by decide +kernel
theorem dL_items_182 : decode cL_items 182 = .ok (.iconst 2, 1) := by decide +kernel
theorem dL_items_183 : decode cL_items 183 = .ok (.iadd, 1) := by decide +kernel
theorem dL_items_184 : decode cL_items 184 = .ok (.iload 10, 2) := by decide +kernel
theorem dL_items_186 : decode cL_items 186 = .ok (.iastore, 1) := by decide +kernel
theorem dL_items_187 : decode cL_items 187 = .ok (.iinc 6 1, 3) := by decide +kernel
theorem dL_items_190 : decode cL_items 190 = .ok (.iload 8, 2) := by decide +kernel
theorem dL_items_192 : decode cL_items 192 = .ok (.aload_n 3, 1) := by decide +kernel
theorem dL_items_193 : decode cL_items 193 = .ok (.iconst 0, 1) := by decide +kernel
theorem dL_items_194 : decode cL_items 194 = .ok (.iaload, 1) := by decide +kernel
theorem dL_items_195 : decode cL_items 195 = .ok (.if_icmp .ge 37, 3) := by decide +kernel
theorem dL_items_198 : decode cL_items 198 = .ok (.aload 5, 2) := by decide +kernel
theorem dL_items_200 : decode cL_items 200 = .ok (.iconst 5, 1) := by decide +kernel
theorem dL_items_201 : decode cL_items 201 = .ok (.iload 6, 2) := by decide +kernel
theorem dL_items_203 : decode cL_items 203 = .ok (.imul, 1) := by decide +kernel
theorem dL_items_204 : decode cL_items 204 = .ok (.iload 8, 2) := by decide +kernel
theorem dL_items_206 : decode cL_items 206 = .ok (.iastore, 1) := by decide +kernel
theorem dL_items_207 : decode cL_items 207 = .ok (.aload 5, 2) := by decide +kernel
theorem dL_items_209 : decode cL_items 209 = .ok (.iconst 5, 1) := by decide +kernel
theorem dL_items_210 : decode cL_items 210 = .ok (.iload 6, 2) := by decide +kernel
theorem dL_items_212 : decode cL_items 212 = .ok (.imul, 1) := by decide +kernel
theorem dL_items_213 : decode cL_items 213 = .ok (.iconst 1, 1) := by decide +kernel
theorem dL_items_214 : decode cL_items 214 = .ok (.iadd, 1) := by decide +kernel
theorem dL_items_215 : decode cL_items 215 = .ok (.iload 8, 2) := by decide +kernel
theorem dL_items_217 : decode cL_items 217 = .ok (.iastore, 1) := by decide +kernel
theorem dL_items_218 : decode cL_items 218 = .ok (.aload 5, 2) := by decide +kernel
theorem dL_items_220 : decode cL_items 220 = .ok (.iconst 5, 1) := by decide +kernel
theorem dL_items_221 : decode cL_items 221 = .ok (.iload 6, 2) := by decide +kernel
theorem dL_items_223 : decode cL_items 223 = .ok (.imul, 1) := by decide +kernel
theorem dL_items_224 : decode cL_items 224 = .ok (.iconst 2, 1) := by decide +kernel
theorem dL_items_225 : decode cL_items 225 = .ok (.iadd, 1) := by decide +kernel
theorem dL_items_226 : decode cL_items 226 = .ok (.iload 4, 2) := by decide +kernel
theorem dL_items_228 : decode cL_items 228 = .ok (.iastore, 1) := by decide +kernel
theorem dL_items_229 : decode cL_items 229 = .ok (.iinc 6 1, 3) := by decide +kernel
theorem dL_items_232 : decode cL_items 232 = .ok (.iconst 0, 1) := by decide +kernel
theorem dL_items_233 : decode cL_items 233 = .ok (.istore 7, 2) := by decide +kernel
theorem dL_items_235 : decode cL_items 235 = .ok (.iinc 8 1, 3) := by decide +kernel
theorem dL_items_238 : decode cL_items 238 = .ok (.goto (-229), 3) := by decide +kernel
theorem dL_items_241 : decode cL_items 241 = .ok (.iconst 0, 1) := by decide +kernel
theorem dL_items_242 : decode cL_items 242 = .ok (.istore 8, 2) := by decide +kernel
theorem dL_items_244 : decode cL_items 244 = .ok (.iload 8, 2) := by decide +kernel
theorem dL_items_246 : decode cL_items 246 = .ok (.iload 6, 2) := by decide +kernel
theorem dL_items_248 : decode cL_items 248 = .ok (.if_icmp .ge 136, 3) := by decide +kernel
theorem dL_items_251 : decode cL_items 251 = .ok (.aload 5, 2) := by decide +kernel
theorem dL_items_253 : decode cL_items 253 = .ok (.iconst 5, 1) := by decide +kernel
theorem dL_items_254 : decode cL_items 254 = .ok (.iload 8, 2) := by decide +kernel
theorem dL_items_256 : decode cL_items 256 = .ok (.imul, 1) := by decide +kernel
theorem dL_items_257 : decode cL_items 257 = .ok (.iconst 2, 1) := by decide +kernel
theorem dL_items_258 : decode cL_items 258 = .ok (.iadd, 1) := by decide +kernel
theorem dL_items_259 : decode cL_items 259 = .ok (.iaload, 1) := by decide +kernel
theorem dL_items_260 : decode cL_items 260 = .ok (.istore 9, 2) := by decide +kernel
theorem dL_items_262 : decode cL_items 262 = .ok (.aload 5, 2) := by decide +kernel
theorem dL_items_264 : decode cL_items 264 = .ok (.iconst 5, 1) := by decide +kernel
theorem dL_items_265 : decode cL_items 265 = .ok (.iload 8, 2) := by decide +kernel
theorem dL_items_267 : decode cL_items 267 = .ok (.imul, 1) := by decide +kernel
theorem dL_items_268 : decode cL_items 268 = .ok (.iaload, 1) := by decide +kernel
theorem dL_items_269 : decode cL_items 269 = .ok (.istore 10, 2) := by decide +kernel
theorem dL_items_271 : decode cL_items 271 = .ok (.aload 5, 2) := by decide +kernel
theorem dL_items_273 : decode cL_items 273 = .ok (.iconst 5, 1) := by decide +kernel
theorem dL_items_274 : decode cL_items 274 = .ok (.iload 8, 2) := by decide +kernel
theorem dL_items_276 : decode cL_items 276 = .ok (.imul, 1) := by decide +kernel
theorem dL_items_277 : decode cL_items 277 = .ok (.iconst 3, 1) := by decide +kernel
theorem dL_items_278 : decode cL_items 278 = .ok (.iadd, 1) := by decide +kernel
theorem dL_items_279 : decode cL_items 279 = .ok (.bipush 8, 2) := by decide +kernel
theorem dL_items_281 : decode cL_items 281 = .ok (.iastore, 1) := by decide +kernel
theorem dL_items_282 : decode cL_items 282 = .ok (.aload 5, 2) := by decide +kernel
theorem dL_items_284 : decode cL_items 284 = .ok (.iconst 5, 1) := by decide +kernel
theorem dL_items_285 : decode cL_items 285 = .ok (.iload 8, 2) := by decide +kernel
theorem dL_items_287 : decode cL_items 287 = .ok (.imul, 1) := by decide +kernel
theorem dL_items_288 : decode cL_items 288 = .ok (.iconst 4, 1) := by decide +kernel
theorem dL_items_289 : decode cL_items 289 = .ok (.iadd, 1) := by decide +kernel
theorem dL_items_290 : decode cL_items 290 = .ok (.bipush 8, 2) := by decide +kernel
theorem dL_items_292 : decode cL_items 292 = .ok (.iastore, 1) := by decide +kernel
theorem dL_items_293 : decode cL_items 293 = .ok (.iconst 0, 1) := by decide +kernel
theorem dL_items_294 : decode cL_items 294 = .ok (.istore 11, 2) := by decide +kernel
theorem dL_items_296 : decode cL_items 296 = .ok (.iload 11, 2) := by decide +kernel
theorem dL_items_298 : decode cL_items 298 = .ok (.aload_n 2, 1) := by decide +kernel
theorem dL_items_299 : decode cL_items 299 = .ok (.iload 10, 2) := by decide +kernel
theorem dL_items_301 : decode cL_items 301 = .ok (.iaload, 1) := by decide +kernel
theorem dL_items_302 : decode cL_items 302 = .ok (.if_icmp .ge 76, 3) := by decide +kernel
theorem dL_items_305 : decode cL_items 305 = .ok (.aload_n 0, 1) := by decide +kernel
theorem dL_items_306 : decode cL_items 306 = .ok (.aload_n 1, 1) := by decide +kernel
theorem dL_items_307 : decode cL_items 307 = .ok (.aload_n 2, 1) := by decide +kernel
theorem dL_items_308 : decode cL_items 308 = .ok (.iload 9, 2) := by decide +kernel
theorem dL_items_310 : decode cL_items 310 = .ok (.iload 10, 2) := by decide +kernel
theorem dL_items_312 : decode cL_items 312 = .ok (.iload 11, 2) := by decide +kernel
theorem dL_items_314 : decode cL_items 314 = .ok (.invokestatic 37, 3) := by decide +kernel
theorem dL_items_317 : decode cL_items 317 = .ok (.ifCond .eq 18, 3) := by decide +kernel
theorem dL_items_320 : decode cL_items 320 = .ok (.aload_n 0, 1) := by decide +kernel
theorem dL_items_321 : decode cL_items 321 = .ok (.aload_n 1, 1) := by decide +kernel
theorem dL_items_322 : decode cL_items 322 = .ok (.aload_n 2, 1) := by decide +kernel
theorem dL_items_323 : decode cL_items 323 = .ok (.iload 9, 2) := by decide +kernel
theorem dL_items_325 : decode cL_items 325 = .ok (.iload 10, 2) := by decide +kernel
theorem dL_items_327 : decode cL_items 327 = .ok (.iload 11, 2) := by decide +kernel
theorem dL_items_329 : decode cL_items 329 = .ok (.invokestatic 41, 3) := by decide +kernel
theorem dL_items_332 : decode cL_items 332 = .ok (.goto 4, 3) := by decide +kernel
theorem dL_items_335 : decode cL_items 335 = .ok (.iconst 0, 1) := by decide +kernel
theorem dL_items_336 : decode cL_items 336 = .ok (.istore 12, 2) := by decide +kernel
theorem dL_items_338 : decode cL_items 338 = .ok (.aload 5, 2) := by decide +kernel
theorem dL_items_340 : decode cL_items 340 = .ok (.iconst 5, 1) := by decide +kernel
theorem dL_items_341 : decode cL_items 341 = .ok (.iload 8, 2) := by decide +kernel
theorem dL_items_343 : decode cL_items 343 = .ok (.imul, 1) := by decide +kernel
theorem dL_items_344 : decode cL_items 344 = .ok (.iconst 3, 1) := by decide +kernel
theorem dL_items_345 : decode cL_items 345 = .ok (.iadd, 1) := by decide +kernel
theorem dL_items_346 : decode cL_items 346 = .ok (.dup2, 1) := by decide +kernel
theorem dL_items_347 : decode cL_items 347 = .ok (.iaload, 1) := by decide +kernel
theorem dL_items_348 : decode cL_items 348 = .ok (.iload 12, 2) := by decide +kernel
theorem dL_items_350 : decode cL_items 350 = .ok (.bipush 100, 2) := by decide +kernel
theorem dL_items_352 : decode cL_items 352 = .ok (.idiv, 1) := by decide +kernel
theorem dL_items_353 : decode cL_items 353 = .ok (.iadd, 1) := by decide +kernel
theorem dL_items_354 : decode cL_items 354 = .ok (.iastore, 1) := by decide +kernel
theorem dL_items_355 : decode cL_items 355 = .ok (.aload 5, 2) := by decide +kernel
theorem dL_items_357 : decode cL_items 357 = .ok (.iconst 5, 1) := by decide +kernel
theorem dL_items_358 : decode cL_items 358 = .ok (.iload 8, 2) := by decide +kernel
theorem dL_items_360 : decode cL_items 360 = .ok (.imul, 1) := by decide +kernel
theorem dL_items_361 : decode cL_items 361 = .ok (.iconst 4, 1) := by decide +kernel
theorem dL_items_362 : decode cL_items 362 = .ok (.iadd, 1) := by decide +kernel
theorem dL_items_363 : decode cL_items 363 = .ok (.dup2, 1) := by decide +kernel
theorem dL_items_364 : decode cL_items 364 = .ok (.iaload, 1) := by decide +kernel
theorem dL_items_365 : decode cL_items 365 = .ok (.iload 12, 2) := by decide +kernel
theorem dL_items_367 : decode cL_items 367 = .ok (.bipush 100, 2) := by decide +kernel
theorem dL_items_369 : decode cL_items 369 = .ok (.irem, 1) := by decide +kernel
theorem dL_items_370 : decode cL_items 370 = .ok (.iadd, 1) := by decide +kernel
theorem dL_items_371 : decode cL_items 371 = .ok (.iastore, 1) := by decide +kernel
theorem dL_items_372 : decode cL_items 372 = .ok (.iinc 11 1, 3) := by decide +kernel
theorem dL_items_375 : decode cL_items 375 = .ok (.goto (-79), 3) := by decide +kernel
theorem dL_items_378 : decode cL_items 378 = .ok (.iinc 8 1, 3) := by decide +kernel
theorem dL_items_381 : decode cL_items 381 = .ok (.goto (-137), 3) := by decide +kernel
theorem dL_items_384 : decode cL_items 384 = .ok (.iload 6, 2) := by decide +kernel
theorem dL_items_386 : decode cL_items 386 = .ok (.ireturn, 1) := by decide +kernel
theorem dL_sounds_0 : decode cL_sounds 0 = .ok (.iconst 0, 1) := by decide +kernel
theorem dL_sounds_1 : decode cL_sounds 1 = .ok (.istore 5, 2) := by decide +kernel
theorem dL_sounds_3 : decode cL_sounds 3 = .ok (.iconst 0, 1) := by decide +kernel
theorem dL_sounds_4 : decode cL_sounds 4 = .ok (.istore 6, 2) := by decide +kernel
theorem dL_sounds_6 : decode cL_sounds 6 = .ok (.iconst 0, 1) := by decide +kernel
theorem dL_sounds_7 : decode cL_sounds 7 = .ok (.istore 7, 2) := by decide +kernel
theorem dL_sounds_9 : decode cL_sounds 9 = .ok (.iload 7, 2) := by decide +kernel
theorem dL_sounds_11 : decode cL_sounds 11 = .ok (.aload_n 1, 1) := by decide +kernel
theorem dL_sounds_12 : decode cL_sounds 12 = .ok (.bipush 6, 2) := by decide +kernel
theorem dL_sounds_14 : decode cL_sounds 14 = .ok (.iload_n 2, 1) := by decide +kernel
theorem dL_sounds_15 : decode cL_sounds 15 = .ok (.imul, 1) := by decide +kernel
theorem dL_sounds_16 : decode cL_sounds 16 = .ok (.iload_n 3, 1) := by decide +kernel
theorem dL_sounds_17 : decode cL_sounds 17 = .ok (.iadd, 1) := by decide +kernel
theorem dL_sounds_18 : decode cL_sounds 18 = .ok (.iaload, 1) := by decide +kernel
theorem dL_sounds_19 : decode cL_sounds 19 = .ok (.if_icmp .ge 71, 3) := by decide +kernel
theorem dL_sounds_22 : decode cL_sounds 22 = .ok (.iload 5, 2) := by decide +kernel
theorem dL_sounds_24 : decode cL_sounds 24 = .ok (.aload_n 0, 1) := by decide +kernel
theorem dL_sounds_25 : decode cL_sounds 25 = .ok (.bipush 6, 2) := by decide +kernel
theorem dL_sounds_27 : decode cL_sounds 27 = .ok (.iload_n 2, 1) := by decide +kernel
theorem dL_sounds_28 : decode cL_sounds 28 = .ok (.imul, 1) := by decide +kernel
theorem dL_sounds_29 : decode cL_sounds 29 = .ok (.iload_n 3, 1) := by decide +kernel
theorem dL_sounds_30 : decode cL_sounds 30 = .ok (.iadd, 1) := by decide +kernel
theorem dL_sounds_31 : decode cL_sounds 31 = .ok (.iload 7, 2) := by decide +kernel
theorem dL_sounds_33 : decode cL_sounds 33 = .ok (.invokestatic 19, 3) := by decide +kernel
theorem dL_sounds_36 : decode cL_sounds 36 = .ok (.iadd, 1) := by decide +kernel
theorem dL_sounds_37 : decode cL_sounds 37 = .ok (.istore 8, 2) := by decide +kernel
theorem dL_sounds_39 : decode cL_sounds 39 = .ok (.iload 6, 2) := by decide +kernel
theorem dL_sounds_41 : decode cL_sounds 41 = .ok (.ifCond .ne 32, 3) := by decide +kernel
theorem dL_sounds_44 : decode cL_sounds 44 = .ok (.iload 4, 2) := by decide +kernel
theorem dL_sounds_46 : decode cL_sounds 46 = .ok (.iload 5, 2) := by decide +kernel
theorem dL_sounds_48 : decode cL_sounds 48 = .ok (.if_icmp .lt 29, 3) := by decide +kernel
theorem dL_sounds_51 : decode cL_sounds 51 = .ok (.iload 4, 2) := by decide +kernel
theorem dL_sounds_53 : decode cL_sounds 53 = .ok (.iload 8, 2) := by decide +kernel
theorem dL_sounds_55 : decode cL_sounds 55 = .ok (.if_icmp .ge 22, 3) := by decide +kernel
theorem dL_sounds_58 : decode cL_sounds 58 = .ok (.aload_n 0, 1) := by decide +kernel
theorem dL_sounds_59 : decode cL_sounds 59 = .ok (.bipush 6, 2) := by decide +kernel
theorem dL_sounds_61 : decode cL_sounds 61 = .ok (.iload_n 2, 1) := by decide +kernel
theorem dL_sounds_62 : decode cL_sounds 62 = .ok (.imul, 1) := by decide +kernel
theorem dL_sounds_63 : decode cL_sounds 63 = .ok (.iload_n 3, 1) := by decide +kernel
theorem dL_sounds_64 : decode cL_sounds 64 = .ok (.iadd, 1) := by decide +kernel
theorem dL_sounds_65 : decode cL_sounds 65 = .ok (.iload 7, 2) := by decide +kernel
theorem dL_sounds_67 : decode cL_sounds 67 = .ok (.invokestatic 13, 3) := by decide +kernel
theorem dL_sounds_70 : decode cL_sounds 70 = .ok (.ifCond .le 7, 3) := by decide +kernel
theorem dL_sounds_73 : decode cL_sounds 73 = .ok (.iconst 1, 1) := by decide +kernel
theorem dL_sounds_74 : decode cL_sounds 74 = .ok (.goto 4, 3) := by decide +kernel
theorem dL_sounds_77 : decode cL_sounds 77 = .ok (.iconst 0, 1) := by decide +kernel
theorem dL_sounds_78 : decode cL_sounds 78 = .ok (.istore 6, 2) := by decide +kernel
theorem dL_sounds_80 : decode cL_sounds 80 = .ok (.iload 8, 2) := by decide +kernel
theorem dL_sounds_82 : decode cL_sounds 82 = .ok (.istore 5, 2) := by decide +kernel
theorem dL_sounds_84 : decode cL_sounds 84 = .ok (.iinc 7 1, 3) := by decide +kernel
theorem dL_sounds_87 : decode cL_sounds 87 = .ok (.goto (-78), 3) := by decide +kernel
theorem dL_sounds_90 : decode cL_sounds 90 = .ok (.iload 6, 2) := by decide +kernel
theorem dL_sounds_92 : decode cL_sounds 92 = .ok (.ireturn, 1) := by decide +kernel
theorem dL_turn_0 : decode cL_turn 0 = .ok (.iconst 0, 1) := by decide +kernel
theorem dL_turn_1 : decode cL_turn 1 = .ok (.istore 6, 2) := by decide +kernel
theorem dL_turn_3 : decode cL_turn 3 = .ok (.aload_n 2, 1) := by decide +kernel
theorem dL_turn_4 : decode cL_turn 4 = .ok (.iload 5, 2) := by decide +kernel
theorem dL_turn_6 : decode cL_turn 6 = .ok (.iaload, 1) := by decide +kernel
theorem dL_turn_7 : decode cL_turn 7 = .ok (.iconst 1, 1) := by decide +kernel
theorem dL_turn_8 : decode cL_turn 8 = .ok (.isub, 1) := by decide +kernel
theorem dL_turn_9 : decode cL_turn 9 = .ok (.istore 7, 2) := by decide +kernel
theorem dL_turn_11 : decode cL_turn 11 = .ok (.iload 5, 2) := by decide +kernel
theorem dL_turn_13 : decode cL_turn 13 = .ok (.istore 8, 2) := by decide +kernel
theorem dL_turn_15 : decode cL_turn 15 = .ok (.iload 4, 2) := by decide +kernel
theorem dL_turn_17 : decode cL_turn 17 = .ok (.iconst 5, 1) := by decide +kernel
theorem dL_turn_18 : decode cL_turn 18 = .ok (.if_icmp .ge 56, 3) := by decide +kernel
theorem dL_turn_21 : decode cL_turn 21 = .ok (.iload 8, 2) := by decide +kernel
theorem dL_turn_23 : decode cL_turn 23 = .ok (.ifCond .lt 51, 3) := by decide +kernel
theorem dL_turn_26 : decode cL_turn 26 = .ok (.aload_n 0, 1) := by decide +kernel
theorem dL_turn_27 : decode cL_turn 27 = .ok (.aload_n 1, 1) := by decide +kernel
theorem dL_turn_28 : decode cL_turn 28 = .ok (.iload 4, 2) := by decide +kernel
theorem dL_turn_30 : decode cL_turn 30 = .ok (.iload 8, 2) := by decide +kernel
theorem dL_turn_32 : decode cL_turn 32 = .ok (.iload 7, 2) := by decide +kernel
theorem dL_turn_34 : decode cL_turn 34 = .ok (.invokestatic 44, 3) := by decide +kernel
theorem dL_turn_37 : decode cL_turn 37 = .ok (.ifCond .ne 37, 3) := by decide +kernel
theorem dL_turn_40 : decode cL_turn 40 = .ok (.iinc 6 1, 3) := by decide +kernel
theorem dL_turn_43 : decode cL_turn 43 = .ok (.iinc 7 (-1), 3) := by decide +kernel
theorem dL_turn_46 : decode cL_turn 46 = .ok (.iload 7, 2) := by decide +kernel
theorem dL_turn_48 : decode cL_turn 48 = .ok (.ifCond .ge (-33), 3) := by decide +kernel
theorem dL_turn_51 : decode cL_turn 51 = .ok (.iinc 8 (-1), 3) := by decide +kernel
theorem dL_turn_54 : decode cL_turn 54 = .ok (.iload 8, 2) := by decide +kernel
theorem dL_turn_56 : decode cL_turn 56 = .ok (.ifCond .ge 7, 3) := by decide +kernel
theorem dL_turn_59 : decode cL_turn 59 = .ok (.iconst 0, 1) := by decide +kernel
theorem dL_turn_60 : decode cL_turn 60 = .ok (.goto 9, 3) := by decide +kernel
theorem dL_turn_63 : decode cL_turn 63 = .ok (.aload_n 2, 1) := by decide +kernel
theorem dL_turn_64 : decode cL_turn 64 = .ok (.iload 8, 2) := by decide +kernel
theorem dL_turn_66 : decode cL_turn 66 = .ok (.iaload, 1) := by decide +kernel
theorem dL_turn_67 : decode cL_turn 67 = .ok (.iconst 1, 1) := by decide +kernel
theorem dL_turn_68 : decode cL_turn 68 = .ok (.isub, 1) := by decide +kernel
theorem dL_turn_69 : decode cL_turn 69 = .ok (.istore 7, 2) := by decide +kernel
theorem dL_turn_71 : decode cL_turn 71 = .ok (.goto (-56), 3) := by decide +kernel
theorem dL_turn_74 : decode cL_turn 74 = .ok (.iload 5, 2) := by decide +kernel
theorem dL_turn_76 : decode cL_turn 76 = .ok (.iconst 1, 1) := by decide +kernel
theorem dL_turn_77 : decode cL_turn 77 = .ok (.iadd, 1) := by decide +kernel
theorem dL_turn_78 : decode cL_turn 78 = .ok (.istore 8, 2) := by decide +kernel
theorem dL_turn_80 : decode cL_turn 80 = .ok (.iconst 0, 1) := by decide +kernel
theorem dL_turn_81 : decode cL_turn 81 = .ok (.istore 7, 2) := by decide +kernel
theorem dL_turn_83 : decode cL_turn 83 = .ok (.iload 4, 2) := by decide +kernel
theorem dL_turn_85 : decode cL_turn 85 = .ok (.iconst 5, 1) := by decide +kernel
theorem dL_turn_86 : decode cL_turn 86 = .ok (.if_icmp .ge 49, 3) := by decide +kernel
theorem dL_turn_89 : decode cL_turn 89 = .ok (.iload 8, 2) := by decide +kernel
theorem dL_turn_91 : decode cL_turn 91 = .ok (.aload_n 3, 1) := by decide +kernel
theorem dL_turn_92 : decode cL_turn 92 = .ok (.iconst 0, 1) := by decide +kernel
theorem dL_turn_93 : decode cL_turn 93 = .ok (.iaload, 1) := by decide +kernel
theorem dL_turn_94 : decode cL_turn 94 = .ok (.if_icmp .ge 41, 3) := by decide +kernel
theorem dL_turn_97 : decode cL_turn 97 = .ok (.aload_n 0, 1) := by decide +kernel
theorem dL_turn_98 : decode cL_turn 98 = .ok (.aload_n 1, 1) := by decide +kernel
theorem dL_turn_99 : decode cL_turn 99 = .ok (.iload 4, 2) := by decide +kernel
theorem dL_turn_101 : decode cL_turn 101 = .ok (.iload 8, 2) := by decide +kernel
theorem dL_turn_103 : decode cL_turn 103 = .ok (.iload 7, 2) := by decide +kernel
theorem dL_turn_105 : decode cL_turn 105 = .ok (.invokestatic 44, 3) := by decide +kernel
theorem dL_turn_108 : decode cL_turn 108 = .ok (.ifCond .ne 27, 3) := by decide +kernel
theorem dL_turn_111 : decode cL_turn 111 = .ok (.iinc 6 1, 3) := by decide +kernel
theorem dL_turn_114 : decode cL_turn 114 = .ok (.iinc 7 1, 3) := by decide +kernel
theorem dL_turn_117 : decode cL_turn 117 = .ok (.iload 7, 2) := by decide +kernel
theorem dL_turn_119 : decode cL_turn 119 = .ok (.aload_n 2, 1) := by decide +kernel
theorem dL_turn_120 : decode cL_turn 120 = .ok (.iload 8, 2) := by decide +kernel
theorem dL_turn_122 : decode cL_turn 122 = .ok (.iaload, 1) := by decide +kernel
theorem dL_turn_123 : decode cL_turn 123 = .ok (.if_icmp .ne (-40), 3) := by decide +kernel
theorem dL_turn_126 : decode cL_turn 126 = .ok (.iinc 8 1, 3) := by decide +kernel
theorem dL_turn_129 : decode cL_turn 129 = .ok (.iconst 0, 1) := by decide +kernel
theorem dL_turn_130 : decode cL_turn 130 = .ok (.istore 7, 2) := by decide +kernel
theorem dL_turn_132 : decode cL_turn 132 = .ok (.goto (-49), 3) := by decide +kernel
theorem dL_turn_135 : decode cL_turn 135 = .ok (.iload 4, 2) := by decide +kernel
theorem dL_turn_137 : decode cL_turn 137 = .ok (.iconst 5, 1) := by decide +kernel
theorem dL_turn_138 : decode cL_turn 138 = .ok (.if_icmp .eq 10, 3) := by decide +kernel
theorem dL_turn_141 : decode cL_turn 141 = .ok (.iload 6, 2) := by decide +kernel
theorem dL_turn_143 : decode cL_turn 143 = .ok (.bipush 15, 2) := by decide +kernel
theorem dL_turn_145 : decode cL_turn 145 = .ok (.if_icmp .le 7, 3) := by decide +kernel
theorem dL_turn_148 : decode cL_turn 148 = .ok (.iconst 0, 1) := by decide +kernel
theorem dL_turn_149 : decode cL_turn 149 = .ok (.goto 11, 3) := by decide +kernel
theorem dL_turn_152 : decode cL_turn 152 = .ok (.bipush 100, 2) := by decide +kernel
theorem dL_turn_154 : decode cL_turn 154 = .ok (.bipush 16, 2) := by decide +kernel
theorem dL_turn_156 : decode cL_turn 156 = .ok (.iload 6, 2) := by decide +kernel
theorem dL_turn_158 : decode cL_turn 158 = .ok (.isub, 1) := by decide +kernel
theorem dL_turn_159 : decode cL_turn 159 = .ok (.imul, 1) := by decide +kernel
theorem dL_turn_160 : decode cL_turn 160 = .ok (.ireturn, 1) := by decide +kernel
theorem dL_cost_0 : decode cL_cost 0 = .ok (.iconst 0, 1) := by decide +kernel
theorem dL_cost_1 : decode cL_cost 1 = .ok (.istore 9, 2) := by decide +kernel
theorem dL_cost_3 : decode cL_cost 3 = .ok (.iconst 0, 1) := by decide +kernel
theorem dL_cost_4 : decode cL_cost 4 = .ok (.istore 10, 2) := by decide +kernel
theorem dL_cost_6 : decode cL_cost 6 = .ok (.iconst 0, 1) := by decide +kernel
theorem dL_cost_7 : decode cL_cost 7 = .ok (.istore 11, 2) := by decide +kernel
theorem dL_cost_9 : decode cL_cost 9 = .ok (.iconst 0, 1) := by decide +kernel
theorem dL_cost_10 : decode cL_cost 10 = .ok (.istore 12, 2) := by decide +kernel
theorem dL_cost_12 : decode cL_cost 12 = .ok (.iconst 0, 1) := by decide +kernel
theorem dL_cost_13 : decode cL_cost 13 = .ok (.istore 13, 2) := by decide +kernel
theorem dL_cost_15 : decode cL_cost 15 = .ok (.iconst 0, 1) := by decide +kernel
theorem dL_cost_16 : decode cL_cost 16 = .ok (.istore 14, 2) := by decide +kernel
theorem dL_cost_18 : decode cL_cost 18 = .ok (.iconst 0, 1) := by decide +kernel
theorem dL_cost_19 : decode cL_cost 19 = .ok (.istore 15, 2) := by decide +kernel
theorem dL_cost_21 : decode cL_cost 21 = .ok (.iload 15, 2) := by decide +kernel
theorem dL_cost_23 : decode cL_cost 23 = .ok (.iload 6, 2) := by decide +kernel
theorem dL_cost_25 : decode cL_cost 25 = .ok (.if_icmp .ge 179, 3) := by decide +kernel
theorem dL_cost_28 : decode cL_cost 28 = .ok (.iload 11, 2) := by decide +kernel
theorem dL_cost_30 : decode cL_cost 30 = .ok (.aload 5, 2) := by decide +kernel
theorem dL_cost_32 : decode cL_cost 32 = .ok (.iconst 5, 1) := by decide +kernel
theorem dL_cost_33 : decode cL_cost 33 = .ok (.iload 15, 2) := by decide +kernel
theorem dL_cost_35 : decode cL_cost 35 = .ok (.imul, 1) := by decide +kernel
theorem dL_cost_36 : decode cL_cost 36 = .ok (.iconst 3, 1) := by decide +kernel
theorem dL_cost_37 : decode cL_cost 37 = .ok (.iadd, 1) := by decide +kernel
theorem dL_cost_38 : decode cL_cost 38 = .ok (.iaload, 1) := by decide +kernel
theorem dL_cost_39 : decode cL_cost 39 = .ok (.iadd, 1) := by decide +kernel
theorem dL_cost_40 : decode cL_cost 40 = .ok (.istore 11, 2) := by decide +kernel
theorem dL_cost_42 : decode cL_cost 42 = .ok (.iload 12, 2) := by decide +kernel
theorem dL_cost_44 : decode cL_cost 44 = .ok (.aload 5, 2) := by decide +kernel
theorem dL_cost_46 : decode cL_cost 46 = .ok (.iconst 5, 1) := by decide +kernel
theorem dL_cost_47 : decode cL_cost 47 = .ok (.iload 15, 2) := by decide +kernel
theorem dL_cost_49 : decode cL_cost 49 = .ok (.imul, 1) := by decide +kernel
theorem dL_cost_50 : decode cL_cost 50 = .ok (.iconst 4, 1) := by decide +kernel
theorem dL_cost_51 : decode cL_cost 51 = .ok (.iadd, 1) := by decide +kernel
theorem dL_cost_52 : decode cL_cost 52 = .ok (.iaload, 1) := by decide +kernel
theorem dL_cost_53 : decode cL_cost 53 = .ok (.iadd, 1) := by decide +kernel
theorem dL_cost_54 : decode cL_cost 54 = .ok (.istore 12, 2) := by decide +kernel
theorem dL_cost_56 : decode cL_cost 56 = .ok (.iinc 13 1, 3) := by decide +kernel
theorem dL_cost_59 : decode cL_cost 59 = .ok (.iload 15, 2) := by decide +kernel
theorem dL_cost_61 : decode cL_cost 61 = .ok (.iload 6, 2) := by decide +kernel
theorem dL_cost_63 : decode cL_cost 63 = .ok (.iconst 1, 1) := by decide +kernel
theorem dL_cost_64 : decode cL_cost 64 = .ok (.isub, 1) := by decide +kernel
theorem dL_cost_65 : decode cL_cost 65 = .ok (.if_icmp .eq 14, 3) := by decide +kernel
theorem dL_cost_68 : decode cL_cost 68 = .ok (.iload 7, 2) := by decide +kernel
theorem dL_cost_70 : decode cL_cost 70 = .ok (.iload 15, 2) := by decide +kernel
theorem dL_cost_72 : decode cL_cost 72 = .ok (.ishr, 1) := by decide +kernel
theorem dL_cost_73 : decode cL_cost 73 = .ok (.iconst 1, 1) := by decide +kernel
theorem dL_cost_74 : decode cL_cost 74 = .ok (.iand, 1) := by decide +kernel
theorem dL_cost_75 : decode cL_cost 75 = .ok (.iconst 1, 1) := by decide +kernel
theorem dL_cost_76 : decode cL_cost 76 = .ok (.if_icmp .ne 122, 3) := by decide +kernel
theorem dL_cost_79 : decode cL_cost 79 = .ok (.iload 13, 2) := by decide +kernel
theorem dL_cost_81 : decode cL_cost 81 = .ok (.iconst 1, 1) := by decide +kernel
theorem dL_cost_82 : decode cL_cost 82 = .ok (.if_icmp .le 13, 3) := by decide +kernel
theorem dL_cost_85 : decode cL_cost 85 = .ok (.iload 12, 2) := by decide +kernel
theorem dL_cost_87 : decode cL_cost 87 = .ok (.aload_n 3, 1) := by decide +kernel
theorem dL_cost_88 : decode cL_cost 88 = .ok (.iconst 1, 1) := by decide +kernel
theorem dL_cost_89 : decode cL_cost 89 = .ok (.iaload, 1) := by decide +kernel
theorem dL_cost_90 : decode cL_cost 90 = .ok (.if_icmp .le 5, 3) := by decide +kernel
