theorem dX0_byteIn_0 : decode cX0_byteIn 0 = .ok (.lload_n 0, 1) := by decide +kernel
theorem dX0_byteIn_1 : decode cX0_byteIn 1 = .ok (.bipush 8, 2) := by decide +kernel
theorem dX0_byteIn_3 : decode cX0_byteIn 3 = .ok (.iload_n 2, 1) := by decide +kernel
theorem dX0_byteIn_4 : decode cX0_byteIn 4 = .ok (.imul, 1) := by decide +kernel
theorem dX0_byteIn_5 : decode cX0_byteIn 5 = .ok (.lushr, 1) := by decide +kernel
theorem dX0_byteIn_6 : decode cX0_byteIn 6 = .ok (.l2i, 1) := by decide +kernel
theorem dX0_byteIn_7 : decode cX0_byteIn 7 = .ok (.sipush 255, 3) := by decide +kernel
theorem dX0_byteIn_10 : decode cX0_byteIn 10 = .ok (.iand, 1) := by decide +kernel
theorem dX0_byteIn_11 : decode cX0_byteIn 11 = .ok (.ireturn, 1) := by decide +kernel
theorem dX0_kindsAreRight_0 : decode cX0_kindsAreRight 0 = .ok (.iconst 0, 1) := by decide +kernel
theorem dX0_kindsAreRight_1 : decode cX0_kindsAreRight 1 = .ok (.istore_n 2, 1) := by decide +kernel
theorem dX0_kindsAreRight_2 : decode cX0_kindsAreRight 2 = .ok (.iconst 0, 1) := by decide +kernel
theorem dX0_kindsAreRight_3 : decode cX0_kindsAreRight 3 = .ok (.istore_n 3, 1) := by decide +kernel
theorem dX0_kindsAreRight_4 : decode cX0_kindsAreRight 4 = .ok (.iload_n 3, 1) := by decide +kernel
theorem dX0_kindsAreRight_5 : decode cX0_kindsAreRight 5 = .ok (.bipush 8, 2) := by decide +kernel
theorem dX0_kindsAreRight_7 : decode cX0_kindsAreRight 7 = .ok (.if_icmp .ge 60, 3) := by decide +kernel
theorem dX0_kindsAreRight_10 : decode cX0_kindsAreRight 10 = .ok (.lload_n 0, 1) := by decide +kernel
theorem dX0_kindsAreRight_11 : decode cX0_kindsAreRight 11 = .ok (.iload_n 3, 1) := by decide +kernel
theorem dX0_kindsAreRight_12 : decode cX0_kindsAreRight 12 = .ok (.invokestatic 50, 3) := by decide +kernel
theorem dX0_kindsAreRight_15 : decode cX0_kindsAreRight 15 = .ok (.istore 4, 2) := by decide +kernel
theorem dX0_kindsAreRight_17 : decode cX0_kindsAreRight 17 = .ok (.iload 4, 2) := by decide +kernel
theorem dX0_kindsAreRight_19 : decode cX0_kindsAreRight 19 = .ok (.bipush 7, 2) := by decide +kernel
theorem dX0_kindsAreRight_21 : decode cX0_kindsAreRight 21 = .ok (.iand, 1) := by decide +kernel
theorem dX0_kindsAreRight_22 : decode cX0_kindsAreRight 22 = .ok (.istore 5, 2) := by decide +kernel
theorem dX0_kindsAreRight_24 : decode cX0_kindsAreRight 24 = .ok (.iload 4, 2) := by decide +kernel
theorem dX0_kindsAreRight_26 : decode cX0_kindsAreRight 26 = .ok (.bipush 15, 2) := by decide +kernel
theorem dX0_kindsAreRight_28 : decode cX0_kindsAreRight 28 = .ok (.if_icmp .gt 22, 3) := by decide +kernel
theorem dX0_kindsAreRight_31 : decode cX0_kindsAreRight 31 = .ok (.iload 5, 2) := by decide +kernel
theorem dX0_kindsAreRight_33 : decode cX0_kindsAreRight 33 = .ok (.iconst 4, 1) := by decide +kernel
theorem dX0_kindsAreRight_34 : decode cX0_kindsAreRight 34 = .ok (.if_icmp .gt 16, 3) := by decide +kernel
theorem dX0_kindsAreRight_37 : decode cX0_kindsAreRight 37 = .ok (.iload 4, 2) := by decide +kernel
theorem dX0_kindsAreRight_39 : decode cX0_kindsAreRight 39 = .ok (.bipush 8, 2) := by decide +kernel
theorem dX0_kindsAreRight_41 : decode cX0_kindsAreRight 41 = .ok (.if_icmp .lt 11, 3) := by decide +kernel
theorem dX0_kindsAreRight_44 : decode cX0_kindsAreRight 44 = .ok (.iload 5, 2) := by decide +kernel
theorem dX0_kindsAreRight_46 : decode cX0_kindsAreRight 46 = .ok (.iconst 1, 1) := by decide +kernel
theorem dX0_kindsAreRight_47 : decode cX0_kindsAreRight 47 = .ok (.if_icmp .eq 5, 3) := by decide +kernel
theorem dX0_kindsAreRight_50 : decode cX0_kindsAreRight 50 = .ok (.iconst 0, 1) := by decide +kernel
theorem dX0_kindsAreRight_51 : decode cX0_kindsAreRight 51 = .ok (.ireturn, 1) := by decide +kernel
theorem dX0_kindsAreRight_52 : decode cX0_kindsAreRight 52 = .ok (.iload 5, 2) := by decide +kernel
theorem dX0_kindsAreRight_54 : decode cX0_kindsAreRight 54 = .ok (.iconst 4, 1) := by decide +kernel
theorem dX0_kindsAreRight_55 : decode cX0_kindsAreRight 55 = .ok (.if_icmp .ne 6, 3) := by decide +kernel
theorem dX0_kindsAreRight_58 : decode cX0_kindsAreRight 58 = .ok (.iinc 2 1, 3) := by decide +kernel
theorem dX0_kindsAreRight_61 : decode cX0_kindsAreRight 61 = .ok (.iinc 3 1, 3) := by decide +kernel
theorem dX0_kindsAreRight_64 : decode cX0_kindsAreRight 64 = .ok (.goto (-60), 3) := by decide +kernel
theorem dX0_kindsAreRight_67 : decode cX0_kindsAreRight 67 = .ok (.iload_n 2, 1) := by decide +kernel
theorem dX0_kindsAreRight_68 : decode cX0_kindsAreRight 68 = .ok (.iconst 1, 1) := by decide +kernel
theorem dX0_kindsAreRight_69 : decode cX0_kindsAreRight 69 = .ok (.if_icmp .gt 7, 3) := by decide +kernel
theorem dX0_kindsAreRight_72 : decode cX0_kindsAreRight 72 = .ok (.iconst 1, 1) := by decide +kernel
theorem dX0_kindsAreRight_73 : decode cX0_kindsAreRight 73 = .ok (.goto 4, 3) := by decide +kernel
theorem dX0_kindsAreRight_76 : decode cX0_kindsAreRight 76 = .ok (.iconst 0, 1) := by decide +kernel
theorem dX0_kindsAreRight_77 : decode cX0_kindsAreRight 77 = .ok (.ireturn, 1) := by decide +kernel
theorem dX0_partIn_0 : decode cX0_partIn 0 = .ok (.lload_n 0, 1) := by decide +kernel
theorem dX0_partIn_1 : decode cX0_partIn 1 = .ok (.iconst 4, 1) := by decide +kernel
theorem dX0_partIn_2 : decode cX0_partIn 2 = .ok (.iload_n 2, 1) := by decide +kernel
theorem dX0_partIn_3 : decode cX0_partIn 3 = .ok (.imul, 1) := by decide +kernel
theorem dX0_partIn_4 : decode cX0_partIn 4 = .ok (.lushr, 1) := by decide +kernel
theorem dX0_partIn_5 : decode cX0_partIn 5 = .ok (.l2i, 1) := by decide +kernel
theorem dX0_partIn_6 : decode cX0_partIn 6 = .ok (.bipush 15, 2) := by decide +kernel
theorem dX0_partIn_8 : decode cX0_partIn 8 = .ok (.iand, 1) := by decide +kernel
theorem dX0_partIn_9 : decode cX0_partIn 9 = .ok (.ireturn, 1) := by decide +kernel
theorem dX0_kindIn_0 : decode cX0_kindIn 0 = .ok (.lload_n 0, 1) := by decide +kernel
theorem dX0_kindIn_1 : decode cX0_kindIn 1 = .ok (.iload_n 2, 1) := by decide +kernel
theorem dX0_kindIn_2 : decode cX0_kindIn 2 = .ok (.invokestatic 50, 3) := by decide +kernel
theorem dX0_kindIn_5 : decode cX0_kindIn 5 = .ok (.bipush 7, 2) := by decide +kernel
theorem dX0_kindIn_7 : decode cX0_kindIn 7 = .ok (.iand, 1) := by decide +kernel
theorem dX0_kindIn_8 : decode cX0_kindIn 8 = .ok (.ireturn, 1) := by decide +kernel
theorem dX0_hasSlots_0 : decode cX0_hasSlots 0 = .ok (.iload_n 0, 1) := by decide +kernel
theorem dX0_hasSlots_1 : decode cX0_hasSlots 1 = .ok (.iconst 1, 1) := by decide +kernel
theorem dX0_hasSlots_2 : decode cX0_hasSlots 2 = .ok (.if_icmp .eq 13, 3) := by decide +kernel
theorem dX0_hasSlots_5 : decode cX0_hasSlots 5 = .ok (.iload_n 0, 1) := by decide +kernel
theorem dX0_hasSlots_6 : decode cX0_hasSlots 6 = .ok (.iconst 2, 1) := by decide +kernel
theorem dX0_hasSlots_7 : decode cX0_hasSlots 7 = .ok (.if_icmp .eq 8, 3) := by decide +kernel
theorem dX0_hasSlots_10 : decode cX0_hasSlots 10 = .ok (.iload_n 0, 1) := by decide +kernel
theorem dX0_hasSlots_11 : decode cX0_hasSlots 11 = .ok (.iconst 3, 1) := by decide +kernel
theorem dX0_hasSlots_12 : decode cX0_hasSlots 12 = .ok (.if_icmp .ne 7, 3) := by decide +kernel
theorem dX0_hasSlots_15 : decode cX0_hasSlots 15 = .ok (.iconst 1, 1) := by decide +kernel
theorem dX0_hasSlots_16 : decode cX0_hasSlots 16 = .ok (.goto 4, 3) := by decide +kernel
theorem dX0_hasSlots_19 : decode cX0_hasSlots 19 = .ok (.iconst 0, 1) := by decide +kernel
theorem dX0_hasSlots_20 : decode cX0_hasSlots 20 = .ok (.ireturn, 1) := by decide +kernel
theorem dX0_slotsAreRight_0 : decode cX0_slotsAreRight 0 = .ok (.lload_n 0, 1) := by decide +kernel
theorem dX0_slotsAreRight_1 : decode cX0_slotsAreRight 1 = .ok (.bipush 48, 2) := by decide +kernel
theorem dX0_slotsAreRight_3 : decode cX0_slotsAreRight 3 = .ok (.lushr, 1) := by decide +kernel
theorem dX0_slotsAreRight_4 : decode cX0_slotsAreRight 4 = .ok (.lconst 0, 1) := by decide +kernel
theorem dX0_slotsAreRight_5 : decode cX0_slotsAreRight 5 = .ok (.lcmp, 1) := by decide +kernel
theorem dX0_slotsAreRight_6 : decode cX0_slotsAreRight 6 = .ok (.ifCond .eq 5, 3) := by decide +kernel
theorem dX0_slotsAreRight_9 : decode cX0_slotsAreRight 9 = .ok (.iconst 0, 1) := by decide +kernel
theorem dX0_slotsAreRight_10 : decode cX0_slotsAreRight 10 = .ok (.ireturn, 1) := by decide +kernel
theorem dX0_slotsAreRight_11 : decode cX0_slotsAreRight 11 = .ok (.iconst 0, 1) := by decide +kernel
theorem dX0_slotsAreRight_12 : decode cX0_slotsAreRight 12 = .ok (.istore 4, 2) := by decide +kernel
theorem dX0_slotsAreRight_14 : decode cX0_slotsAreRight 14 = .ok (.iconst 0, 1) := by decide +kernel
theorem dX0_slotsAreRight_15 : decode cX0_slotsAreRight 15 = .ok (.istore 5, 2) := by decide +kernel
theorem dX0_slotsAreRight_17 : decode cX0_slotsAreRight 17 = .ok (.iload 5, 2) := by decide +kernel
theorem dX0_slotsAreRight_19 : decode cX0_slotsAreRight 19 = .ok (.bipush 12, 2) := by decide +kernel
theorem dX0_slotsAreRight_21 : decode cX0_slotsAreRight 21 = .ok (.if_icmp .ge 47, 3) := by decide +kernel
theorem dX0_slotsAreRight_24 : decode cX0_slotsAreRight 24 = .ok (.lload_n 0, 1) := by decide +kernel
theorem dX0_slotsAreRight_25 : decode cX0_slotsAreRight 25 = .ok (.iload 5, 2) := by decide +kernel
theorem dX0_slotsAreRight_27 : decode cX0_slotsAreRight 27 = .ok (.invokestatic 54, 3) := by decide +kernel
theorem dX0_slotsAreRight_30 : decode cX0_slotsAreRight 30 = .ok (.istore 6, 2) := by decide +kernel
theorem dX0_slotsAreRight_32 : decode cX0_slotsAreRight 32 = .ok (.iload 6, 2) := by decide +kernel
theorem dX0_slotsAreRight_34 : decode cX0_slotsAreRight 34 = .ok (.bipush 8, 2) := by decide +kernel
theorem dX0_slotsAreRight_36 : decode cX0_slotsAreRight 36 = .ok (.if_icmp .ge 15, 3) := by decide +kernel
theorem dX0_slotsAreRight_39 : decode cX0_slotsAreRight 39 = .ok (.lload_n 2, 1) := by decide +kernel
theorem dX0_slotsAreRight_40 : decode cX0_slotsAreRight 40 = .ok (.iload 6, 2) := by decide +kernel
theorem dX0_slotsAreRight_42 : decode cX0_slotsAreRight 42 = .ok (.invokestatic 57, 3) := by decide +kernel
theorem dX0_slotsAreRight_45 : decode cX0_slotsAreRight 45 = .ok (.invokestatic 60, 3) := by decide +kernel
theorem dX0_slotsAreRight_48 : decode cX0_slotsAreRight 48 = .ok (.ifCond .ne 5, 3) := by decide +kernel
theorem dX0_slotsAreRight_51 : decode cX0_slotsAreRight 51 = .ok (.iconst 0, 1) := by decide +kernel
theorem dX0_slotsAreRight_52 : decode cX0_slotsAreRight 52 = .ok (.ireturn, 1) := by decide +kernel
theorem dX0_slotsAreRight_53 : decode cX0_slotsAreRight 53 = .ok (.iload 4, 2) := by decide +kernel
theorem dX0_slotsAreRight_55 : decode cX0_slotsAreRight 55 = .ok (.iconst 1, 1) := by decide +kernel
theorem dX0_slotsAreRight_56 : decode cX0_slotsAreRight 56 = .ok (.iload 6, 2) := by decide +kernel
theorem dX0_slotsAreRight_58 : decode cX0_slotsAreRight 58 = .ok (.ishl, 1) := by decide +kernel
theorem dX0_slotsAreRight_59 : decode cX0_slotsAreRight 59 = .ok (.ior, 1) := by decide +kernel
theorem dX0_slotsAreRight_60 : decode cX0_slotsAreRight 60 = .ok (.istore 4, 2) := by decide +kernel
theorem dX0_slotsAreRight_62 : decode cX0_slotsAreRight 62 = .ok (.iinc 5 1, 3) := by decide +kernel
theorem dX0_slotsAreRight_65 : decode cX0_slotsAreRight 65 = .ok (.goto (-48), 3) := by decide +kernel
theorem dX0_slotsAreRight_68 : decode cX0_slotsAreRight 68 = .ok (.iconst 0, 1) := by decide +kernel
theorem dX0_slotsAreRight_69 : decode cX0_slotsAreRight 69 = .ok (.istore 5, 2) := by decide +kernel
theorem dX0_slotsAreRight_71 : decode cX0_slotsAreRight 71 = .ok (.iload 5, 2) := by decide +kernel
theorem dX0_slotsAreRight_73 : decode cX0_slotsAreRight 73 = .ok (.bipush 8, 2) := by decide +kernel
theorem dX0_slotsAreRight_75 : decode cX0_slotsAreRight 75 = .ok (.if_icmp .ge 33, 3) := by decide +kernel
theorem dX0_slotsAreRight_78 : decode cX0_slotsAreRight 78 = .ok (.lload_n 2, 1) := by decide +kernel
theorem dX0_slotsAreRight_79 : decode cX0_slotsAreRight 79 = .ok (.iload 5, 2) := by decide +kernel
theorem dX0_slotsAreRight_81 : decode cX0_slotsAreRight 81 = .ok (.invokestatic 57, 3) := by decide +kernel
theorem dX0_slotsAreRight_84 : decode cX0_slotsAreRight 84 = .ok (.invokestatic 60, 3) := by decide +kernel
theorem dX0_slotsAreRight_87 : decode cX0_slotsAreRight 87 = .ok (.ifCond .eq 15, 3) := by decide +kernel
theorem dX0_slotsAreRight_90 : decode cX0_slotsAreRight 90 = .ok (.iload 4, 2) := by decide +kernel
theorem dX0_slotsAreRight_92 : decode cX0_slotsAreRight 92 = .ok (.iload 5, 2) := by decide +kernel
theorem dX0_slotsAreRight_94 : decode cX0_slotsAreRight 94 = .ok (.ishr, 1) := by decide +kernel
theorem dX0_slotsAreRight_95 : decode cX0_slotsAreRight 95 = .ok (.iconst 1, 1) := by decide +kernel
theorem dX0_slotsAreRight_96 : decode cX0_slotsAreRight 96 = .ok (.iand, 1) := by decide +kernel
theorem dX0_slotsAreRight_97 : decode cX0_slotsAreRight 97 = .ok (.ifCond .ne 5, 3) := by decide +kernel
theorem dX0_slotsAreRight_100 : decode cX0_slotsAreRight 100 = .ok (.iconst 0, 1) := by decide +kernel
theorem dX0_slotsAreRight_101 : decode cX0_slotsAreRight 101 = .ok (.ireturn, 1) := by decide +kernel
theorem dX0_slotsAreRight_102 : decode cX0_slotsAreRight 102 = .ok (.iinc 5 1, 3) := by decide +kernel
theorem dX0_slotsAreRight_105 : decode cX0_slotsAreRight 105 = .ok (.goto (-34), 3) := by decide +kernel
theorem dX0_slotsAreRight_108 : decode cX0_slotsAreRight 108 = .ok (.iconst 1, 1) := by decide +kernel
theorem dX0_slotsAreRight_109 : decode cX0_slotsAreRight 109 = .ok (.ireturn, 1) := by decide +kernel
theorem dX0_sidesAreRight_0 : decode cX0_sidesAreRight 0 = .ok (.iconst 0, 1) := by decide +kernel
theorem dX0_sidesAreRight_1 : decode cX0_sidesAreRight 1 = .ok (.istore 4, 2) := by decide +kernel
theorem dX0_sidesAreRight_3 : decode cX0_sidesAreRight 3 = .ok (.iload 4, 2) := by decide +kernel
theorem dX0_sidesAreRight_5 : decode cX0_sidesAreRight 5 = .ok (.bipush 12, 2) := by decide +kernel
theorem dX0_sidesAreRight_7 : decode cX0_sidesAreRight 7 = .ok (.if_icmp .ge 103, 3) := by decide +kernel
theorem dX0_sidesAreRight_10 : decode cX0_sidesAreRight 10 = .ok (.lload_n 0, 1) := by decide +kernel
theorem dX0_sidesAreRight_11 : decode cX0_sidesAreRight 11 = .ok (.iload 4, 2) := by decide +kernel
theorem dX0_sidesAreRight_13 : decode cX0_sidesAreRight 13 = .ok (.invokestatic 54, 3) := by decide +kernel
theorem dX0_sidesAreRight_16 : decode cX0_sidesAreRight 16 = .ok (.istore 5, 2) := by decide +kernel
theorem dX0_sidesAreRight_18 : decode cX0_sidesAreRight 18 = .ok (.lload_n 0, 1) := by decide +kernel
theorem dX0_sidesAreRight_19 : decode cX0_sidesAreRight 19 = .ok (.iload 4, 2) := by decide +kernel
theorem dX0_sidesAreRight_21 : decode cX0_sidesAreRight 21 = .ok (.iconst 1, 1) := by decide +kernel
theorem dX0_sidesAreRight_22 : decode cX0_sidesAreRight 22 = .ok (.iadd, 1) := by decide +kernel
theorem dX0_sidesAreRight_23 : decode cX0_sidesAreRight 23 = .ok (.invokestatic 54, 3) := by decide +kernel
theorem dX0_sidesAreRight_26 : decode cX0_sidesAreRight 26 = .ok (.istore 6, 2) := by decide +kernel
theorem dX0_sidesAreRight_28 : decode cX0_sidesAreRight 28 = .ok (.lload_n 0, 1) := by decide +kernel
theorem dX0_sidesAreRight_29 : decode cX0_sidesAreRight 29 = .ok (.iload 4, 2) := by decide +kernel
theorem dX0_sidesAreRight_31 : decode cX0_sidesAreRight 31 = .ok (.iconst 2, 1) := by decide +kernel
theorem dX0_sidesAreRight_32 : decode cX0_sidesAreRight 32 = .ok (.iadd, 1) := by decide +kernel
theorem dX0_sidesAreRight_33 : decode cX0_sidesAreRight 33 = .ok (.invokestatic 54, 3) := by decide +kernel
theorem dX0_sidesAreRight_36 : decode cX0_sidesAreRight 36 = .ok (.istore 7, 2) := by decide +kernel
theorem dX0_sidesAreRight_38 : decode cX0_sidesAreRight 38 = .ok (.lload_n 2, 1) := by decide +kernel
theorem dX0_sidesAreRight_39 : decode cX0_sidesAreRight 39 = .ok (.iload 6, 2) := by decide +kernel
theorem dX0_sidesAreRight_41 : decode cX0_sidesAreRight 41 = .ok (.invokestatic 57, 3) := by decide +kernel
theorem dX0_sidesAreRight_44 : decode cX0_sidesAreRight 44 = .ok (.iconst 2, 1) := by decide +kernel
theorem dX0_sidesAreRight_45 : decode cX0_sidesAreRight 45 = .ok (.if_icmp .ne 31, 3) := by decide +kernel
theorem dX0_sidesAreRight_48 : decode cX0_sidesAreRight 48 = .ok (.lload_n 2, 1) := by decide +kernel
theorem dX0_sidesAreRight_49 : decode cX0_sidesAreRight 49 = .ok (.iload 5, 2) := by decide +kernel
theorem dX0_sidesAreRight_51 : decode cX0_sidesAreRight 51 = .ok (.invokestatic 57, 3) := by decide +kernel
theorem dX0_sidesAreRight_54 : decode cX0_sidesAreRight 54 = .ok (.iconst 3, 1) := by decide +kernel
theorem dX0_sidesAreRight_55 : decode cX0_sidesAreRight 55 = .ok (.if_icmp .ne 17, 3) := by decide +kernel
theorem dX0_sidesAreRight_58 : decode cX0_sidesAreRight 58 = .ok (.lload_n 2, 1) := by decide +kernel
theorem dX0_sidesAreRight_59 : decode cX0_sidesAreRight 59 = .ok (.iload 7, 2) := by decide +kernel
theorem dX0_sidesAreRight_61 : decode cX0_sidesAreRight 61 = .ok (.invokestatic 57, 3) := by decide +kernel
theorem dX0_sidesAreRight_64 : decode cX0_sidesAreRight 64 = .ok (.iconst 3, 1) := by decide +kernel
theorem dX0_sidesAreRight_65 : decode cX0_sidesAreRight 65 = .ok (.if_icmp .ne 7, 3) := by decide +kernel
theorem dX0_sidesAreRight_68 : decode cX0_sidesAreRight 68 = .ok (.iconst 1, 1) := by decide +kernel
theorem dX0_sidesAreRight_69 : decode cX0_sidesAreRight 69 = .ok (.goto 26, 3) := by decide +kernel
theorem dX0_sidesAreRight_72 : decode cX0_sidesAreRight 72 = .ok (.iconst 0, 1) := by decide +kernel
theorem dX0_sidesAreRight_73 : decode cX0_sidesAreRight 73 = .ok (.goto 22, 3) := by decide +kernel
theorem dX0_sidesAreRight_76 : decode cX0_sidesAreRight 76 = .ok (.iload 5, 2) := by decide +kernel
theorem dX0_sidesAreRight_78 : decode cX0_sidesAreRight 78 = .ok (.iload 6, 2) := by decide +kernel
theorem dX0_sidesAreRight_80 : decode cX0_sidesAreRight 80 = .ok (.if_icmp .ne 14, 3) := by decide +kernel
theorem dX0_sidesAreRight_83 : decode cX0_sidesAreRight 83 = .ok (.iload 7, 2) := by decide +kernel
theorem dX0_sidesAreRight_85 : decode cX0_sidesAreRight 85 = .ok (.iload 6, 2) := by decide +kernel
theorem dX0_sidesAreRight_87 : decode cX0_sidesAreRight 87 = .ok (.if_icmp .ne 7, 3) := by decide +kernel
theorem dX0_sidesAreRight_90 : decode cX0_sidesAreRight 90 = .ok (.iconst 1, 1) := by decide +kernel
theorem dX0_sidesAreRight_91 : decode cX0_sidesAreRight 91 = .ok (.goto 4, 3) := by decide +kernel
theorem dX0_sidesAreRight_94 : decode cX0_sidesAreRight 94 = .ok (.iconst 0, 1) := by decide +kernel
theorem dX0_sidesAreRight_95 : decode cX0_sidesAreRight 95 = .ok (.istore 8, 2) := by decide +kernel
theorem dX0_sidesAreRight_97 : decode cX0_sidesAreRight 97 = .ok (.iload 8, 2) := by decide +kernel
theorem dX0_sidesAreRight_99 : decode cX0_sidesAreRight 99 = .ok (.ifCond .ne 5, 3) := by decide +kernel
theorem dX0_sidesAreRight_102 : decode cX0_sidesAreRight 102 = .ok (.iconst 0, 1) := by decide +kernel
theorem dX0_sidesAreRight_103 : decode cX0_sidesAreRight 103 = .ok (.ireturn, 1) := by decide +kernel
theorem dX0_sidesAreRight_104 : decode cX0_sidesAreRight 104 = .ok (.iinc 4 3, 3) := by decide +kernel
theorem dX0_sidesAreRight_107 : decode cX0_sidesAreRight 107 = .ok (.goto (-104), 3) := by decide +kernel
theorem dX0_sidesAreRight_110 : decode cX0_sidesAreRight 110 = .ok (.iconst 1, 1) := by decide +kernel
theorem dX0_sidesAreRight_111 : decode cX0_sidesAreRight 111 = .ok (.ireturn, 1) := by decide +kernel
theorem dX0_touchesAreRight_0 : decode cX0_touchesAreRight 0 = .ok (.iconst 0, 1) := by decide +kernel
theorem dX0_touchesAreRight_1 : decode cX0_touchesAreRight 1 = .ok (.istore 4, 2) := by decide +kernel
theorem dX0_touchesAreRight_3 : decode cX0_touchesAreRight 3 = .ok (.iload 4, 2) := by decide +kernel
theorem dX0_touchesAreRight_5 : decode cX0_touchesAreRight 5 = .ok (.bipush 8, 2) := by decide +kernel
theorem dX0_touchesAreRight_7 : decode cX0_touchesAreRight 7 = .ok (.if_icmp .ge 72, 3) := by decide +kernel
theorem dX0_touchesAreRight_10 : decode cX0_touchesAreRight 10 = .ok (.lload_n 2, 1) := by decide +kernel
theorem dX0_touchesAreRight_11 : decode cX0_touchesAreRight 11 = .ok (.iload 4, 2) := by decide +kernel
theorem dX0_touchesAreRight_13 : decode cX0_touchesAreRight 13 = .ok (.invokestatic 50, 3) := by decide +kernel
theorem dX0_touchesAreRight_16 : decode cX0_touchesAreRight 16 = .ok (.istore 5, 2) := by decide +kernel
theorem dX0_touchesAreRight_18 : decode cX0_touchesAreRight 18 = .ok (.iload 5, 2) := by decide +kernel
theorem dX0_touchesAreRight_20 : decode cX0_touchesAreRight 20 = .ok (.ifCond .eq 15, 3) := by decide +kernel
theorem dX0_touchesAreRight_23 : decode cX0_touchesAreRight 23 = .ok (.lload_n 0, 1) := by decide +kernel
theorem dX0_touchesAreRight_24 : decode cX0_touchesAreRight 24 = .ok (.iload 4, 2) := by decide +kernel
theorem dX0_touchesAreRight_26 : decode cX0_touchesAreRight 26 = .ok (.invokestatic 57, 3) := by decide +kernel
theorem dX0_touchesAreRight_29 : decode cX0_touchesAreRight 29 = .ok (.iconst 3, 1) := by decide +kernel
theorem dX0_touchesAreRight_30 : decode cX0_touchesAreRight 30 = .ok (.if_icmp .eq 5, 3) := by decide +kernel
theorem dX0_touchesAreRight_33 : decode cX0_touchesAreRight 33 = .ok (.iconst 0, 1) := by decide +kernel
theorem dX0_touchesAreRight_34 : decode cX0_touchesAreRight 34 = .ok (.ireturn, 1) := by decide +kernel
theorem dX0_touchesAreRight_35 : decode cX0_touchesAreRight 35 = .ok (.iconst 0, 1) := by decide +kernel
theorem dX0_touchesAreRight_36 : decode cX0_touchesAreRight 36 = .ok (.istore 6, 2) := by decide +kernel
theorem dX0_touchesAreRight_38 : decode cX0_touchesAreRight 38 = .ok (.iload 6, 2) := by decide +kernel
theorem dX0_touchesAreRight_40 : decode cX0_touchesAreRight 40 = .ok (.bipush 8, 2) := by decide +kernel
theorem dX0_touchesAreRight_42 : decode cX0_touchesAreRight 42 = .ok (.if_icmp .ge 31, 3) := by decide +kernel
theorem dX0_touchesAreRight_45 : decode cX0_touchesAreRight 45 = .ok (.iload 5, 2) := by decide +kernel
theorem dX0_touchesAreRight_47 : decode cX0_touchesAreRight 47 = .ok (.iload 6, 2) := by decide +kernel
theorem dX0_touchesAreRight_49 : decode cX0_touchesAreRight 49 = .ok (.ishr, 1) := by decide +kernel
theorem dX0_touchesAreRight_50 : decode cX0_touchesAreRight 50 = .ok (.iconst 1, 1) := by decide +kernel
theorem dX0_touchesAreRight_51 : decode cX0_touchesAreRight 51 = .ok (.iand, 1) := by decide +kernel
theorem dX0_touchesAreRight_52 : decode cX0_touchesAreRight 52 = .ok (.ifCond .eq 15, 3) := by decide +kernel
theorem dX0_touchesAreRight_55 : decode cX0_touchesAreRight 55 = .ok (.lload_n 0, 1) := by decide +kernel
theorem dX0_touchesAreRight_56 : decode cX0_touchesAreRight 56 = .ok (.iload 6, 2) := by decide +kernel
theorem dX0_touchesAreRight_58 : decode cX0_touchesAreRight 58 = .ok (.invokestatic 57, 3) := by decide +kernel
theorem dX0_touchesAreRight_61 : decode cX0_touchesAreRight 61 = .ok (.iconst 1, 1) := by decide +kernel
theorem dX0_touchesAreRight_62 : decode cX0_touchesAreRight 62 = .ok (.if_icmp .eq 5, 3) := by decide +kernel
theorem dX0_touchesAreRight_65 : decode cX0_touchesAreRight 65 = .ok (.iconst 0, 1) := by decide +kernel
theorem dX0_touchesAreRight_66 : decode cX0_touchesAreRight 66 = .ok (.ireturn, 1) := by decide +kernel
theorem dX0_touchesAreRight_67 : decode cX0_touchesAreRight 67 = .ok (.iinc 6 1, 3) := by decide +kernel
theorem dX0_touchesAreRight_70 : decode cX0_touchesAreRight 70 = .ok (.goto (-32), 3) := by decide +kernel
theorem dX0_touchesAreRight_73 : decode cX0_touchesAreRight 73 = .ok (.iinc 4 1, 3) := by decide +kernel
theorem dX0_touchesAreRight_76 : decode cX0_touchesAreRight 76 = .ok (.goto (-73), 3) := by decide +kernel
theorem dX0_touchesAreRight_79 : decode cX0_touchesAreRight 79 = .ok (.iconst 1, 1) := by decide +kernel
theorem dX0_touchesAreRight_80 : decode cX0_touchesAreRight 80 = .ok (.ireturn, 1) := by decide +kernel
theorem dX0_isType_0 : decode cX0_isType 0 = .ok (.lload_n 2, 1) := by decide +kernel
theorem dX0_isType_1 : decode cX0_isType 1 = .ok (.invokestatic 36, 3) := by decide +kernel
theorem dX0_isType_4 : decode cX0_isType 4 = .ok (.ifCond .eq 32, 3) := by decide +kernel
theorem dX0_isType_7 : decode cX0_isType 7 = .ok (.lload_n 0, 1) := by decide +kernel
theorem dX0_isType_8 : decode cX0_isType 8 = .ok (.lload_n 2, 1) := by decide +kernel
theorem dX0_isType_9 : decode cX0_isType 9 = .ok (.invokestatic 40, 3) := by decide +kernel
theorem dX0_isType_12 : decode cX0_isType 12 = .ok (.ifCond .eq 24, 3) := by decide +kernel
theorem dX0_isType_15 : decode cX0_isType 15 = .ok (.lload_n 0, 1) := by decide +kernel
theorem dX0_isType_16 : decode cX0_isType 16 = .ok (.lload_n 2, 1) := by decide +kernel
theorem dX0_isType_17 : decode cX0_isType 17 = .ok (.invokestatic 44, 3) := by decide +kernel
theorem dX0_isType_20 : decode cX0_isType 20 = .ok (.ifCond .eq 16, 3) := by decide +kernel
theorem dX0_isType_23 : decode cX0_isType 23 = .ok (.lload_n 2, 1) := by decide +kernel
theorem dX0_isType_24 : decode cX0_isType 24 = .ok (.lload 4, 2) := by decide +kernel
theorem dX0_isType_26 : decode cX0_isType 26 = .ok (.invokestatic 47, 3) := by decide +kernel
theorem dX0_isType_29 : decode cX0_isType 29 = .ok (.ifCond .eq 7, 3) := by decide +kernel
theorem dX0_isType_32 : decode cX0_isType 32 = .ok (.iconst 1, 1) := by decide +kernel
theorem dX0_isType_33 : decode cX0_isType 33 = .ok (.goto 4, 3) := by decide +kernel
theorem dX0_isType_36 : decode cX0_isType 36 = .ok (.iconst 0, 1) := by decide +kernel
theorem dX0_isType_37 : decode cX0_isType 37 = .ok (.ireturn, 1) := by decide +kernel
theorem dX0_addType_0 : decode cX0_addType 0 = .ok (.aload_n 0, 1) := by decide +kernel
theorem dX0_addType_1 : decode cX0_addType 1 = .ok (.getfield 64, 3) := by decide +kernel
theorem dX0_addType_4 : decode cX0_addType 4 = .ok (.bipush 8, 2) := by decide +kernel
theorem dX0_addType_6 : decode cX0_addType 6 = .ok (.imul, 1) := by decide +kernel
theorem dX0_addType_7 : decode cX0_addType 7 = .ok (.istore 7, 2) := by decide +kernel
theorem dX0_addType_9 : decode cX0_addType 9 = .ok (.aload_n 0, 1) := by decide +kernel
theorem dX0_addType_10 : decode cX0_addType 10 = .ok (.getfield 30, 3) := by decide +kernel
theorem dX0_addType_13 : decode cX0_addType 13 = .ok (.aload_n 0, 1) := by decide +kernel
theorem dX0_addType_14 : decode cX0_addType 14 = .ok (.getfield 64, 3) := by decide +kernel
theorem dX0_addType_17 : decode cX0_addType 17 = .ok (.iconst (-1), 1) := by decide +kernel
theorem dX0_addType_18 : decode cX0_addType 18 = .ok (.iastore, 1) := by decide +kernel
theorem dX0_addType_19 : decode cX0_addType 19 = .ok (.iconst 0, 1) := by decide +kernel
theorem dX0_addType_20 : decode cX0_addType 20 = .ok (.istore 8, 2) := by decide +kernel
theorem dX0_addType_22 : decode cX0_addType 22 = .ok (.iload 8, 2) := by decide +kernel
theorem dX0_addType_24 : decode cX0_addType 24 = .ok (.bipush 8, 2) := by decide +kernel
theorem dX0_addType_26 : decode cX0_addType 26 = .ok (.if_icmp .ge 104, 3) := by decide +kernel
theorem dX0_addType_29 : decode cX0_addType 29 = .ok (.aload_n 0, 1) := by decide +kernel
theorem dX0_addType_30 : decode cX0_addType 30 = .ok (.getfield 18, 3) := by decide +kernel
theorem dX0_addType_33 : decode cX0_addType 33 = .ok (.iload 7, 2) := by decide +kernel
theorem dX0_addType_35 : decode cX0_addType 35 = .ok (.iload 8, 2) := by decide +kernel
theorem dX0_addType_37 : decode cX0_addType 37 = .ok (.iadd, 1) := by decide +kernel
theorem dX0_addType_38 : decode cX0_addType 38 = .ok (.lload_n 3, 1) := by decide +kernel
theorem dX0_addType_39 : decode cX0_addType 39 = .ok (.iload 8, 2) := by decide +kernel
theorem dX0_addType_41 : decode cX0_addType 41 = .ok (.invokestatic 57, 3) := by decide +kernel
theorem dX0_addType_44 : decode cX0_addType 44 = .ok (.iastore, 1) := by decide +kernel
theorem dX0_addType_45 : decode cX0_addType 45 = .ok (.aload_n 0, 1) := by decide +kernel
theorem dX0_addType_46 : decode cX0_addType 46 = .ok (.getfield 21, 3) := by decide +kernel
theorem dX0_addType_49 : decode cX0_addType 49 = .ok (.iload 7, 2) := by decide +kernel
theorem dX0_addType_51 : decode cX0_addType 51 = .ok (.iload 8, 2) := by decide +kernel
theorem dX0_addType_53 : decode cX0_addType 53 = .ok (.iadd, 1) := by decide +kernel
theorem dX0_addType_54 : decode cX0_addType 54 = .ok (.lload_n 3, 1) := by decide +kernel
theorem dX0_addType_55 : decode cX0_addType 55 = .ok (.iload 8, 2) := by decide +kernel
theorem dX0_addType_57 : decode cX0_addType 57 = .ok (.invokestatic 50, 3) := by decide +kernel
theorem dX0_addType_60 : decode cX0_addType 60 = .ok (.bipush 8, 2) := by decide +kernel
theorem dX0_addType_62 : decode cX0_addType 62 = .ok (.if_icmp .lt 7, 3) := by decide +kernel
theorem dX0_addType_65 : decode cX0_addType 65 = .ok (.iconst 1, 1) := by decide +kernel
theorem dX0_addType_66 : decode cX0_addType 66 = .ok (.goto 4, 3) := by decide +kernel
theorem dX0_addType_69 : decode cX0_addType 69 = .ok (.iconst 0, 1) := by decide +kernel
theorem dX0_addType_70 : decode cX0_addType 70 = .ok (.iastore, 1) := by decide +kernel
theorem dX0_addType_71 : decode cX0_addType 71 = .ok (.aload_n 0, 1) := by decide +kernel
theorem dX0_addType_72 : decode cX0_addType 72 = .ok (.getfield 24, 3) := by decide +kernel
theorem dX0_addType_75 : decode cX0_addType 75 = .ok (.iload 7, 2) := by decide +kernel
theorem dX0_addType_77 : decode cX0_addType 77 = .ok (.iload 8, 2) := by decide +kernel
theorem dX0_addType_79 : decode cX0_addType 79 = .ok (.iadd, 1) := by decide +kernel
theorem dX0_addType_80 : decode cX0_addType 80 = .ok (.lload 5, 2) := by decide +kernel
theorem dX0_addType_82 : decode cX0_addType 82 = .ok (.iload 8, 2) := by decide +kernel
theorem dX0_addType_84 : decode cX0_addType 84 = .ok (.invokestatic 50, 3) := by decide +kernel
theorem dX0_addType_87 : decode cX0_addType 87 = .ok (.iastore, 1) := by decide +kernel
theorem dX0_addType_88 : decode cX0_addType 88 = .ok (.aload_n 0, 1) := by decide +kernel
theorem dX0_addType_89 : decode cX0_addType 89 = .ok (.getfield 27, 3) := by decide +kernel
theorem dX0_addType_92 : decode cX0_addType 92 = .ok (.iload 7, 2) := by decide +kernel
theorem dX0_addType_94 : decode cX0_addType 94 = .ok (.iload 8, 2) := by decide +kernel
theorem dX0_addType_96 : decode cX0_addType 96 = .ok (.iadd, 1) := by decide +kernel
theorem dX0_addType_97 : decode cX0_addType 97 = .ok (.iconst 0, 1) := by decide +kernel
theorem dX0_addType_98 : decode cX0_addType 98 = .ok (.iastore, 1) := by decide +kernel
theorem dX0_addType_99 : decode cX0_addType 99 = .ok (.aload_n 0, 1) := by decide +kernel
theorem dX0_addType_100 : decode cX0_addType 100 = .ok (.getfield 18, 3) := by decide +kernel
theorem dX0_addType_103 : decode cX0_addType 103 = .ok (.iload 7, 2) := by decide +kernel
theorem dX0_addType_105 : decode cX0_addType 105 = .ok (.iload 8, 2) := by decide +kernel
theorem dX0_addType_107 : decode cX0_addType 107 = .ok (.iadd, 1) := by decide +kernel
theorem dX0_addType_108 : decode cX0_addType 108 = .ok (.iaload, 1) := by decide +kernel
theorem dX0_addType_109 : decode cX0_addType 109 = .ok (.iconst 4, 1) := by decide +kernel
theorem dX0_addType_110 : decode cX0_addType 110 = .ok (.if_icmp .ne 14, 3) := by decide +kernel
theorem dX0_addType_113 : decode cX0_addType 113 = .ok (.aload_n 0, 1) := by decide +kernel
theorem dX0_addType_114 : decode cX0_addType 114 = .ok (.getfield 30, 3) := by decide +kernel
theorem dX0_addType_117 : decode cX0_addType 117 = .ok (.aload_n 0, 1) := by decide +kernel
theorem dX0_addType_118 : decode cX0_addType 118 = .ok (.getfield 64, 3) := by decide +kernel
theorem dX0_addType_121 : decode cX0_addType 121 = .ok (.iload 8, 2) := by decide +kernel
theorem dX0_addType_123 : decode cX0_addType 123 = .ok (.iastore, 1) := by decide +kernel
theorem dX0_addType_124 : decode cX0_addType 124 = .ok (.iinc 8 1, 3) := by decide +kernel
theorem dX0_addType_127 : decode cX0_addType 127 = .ok (.goto (-105), 3) := by decide +kernel
theorem dX0_addType_130 : decode cX0_addType 130 = .ok (.iconst 0, 1) := by decide +kernel
theorem dX0_addType_131 : decode cX0_addType 131 = .ok (.istore 8, 2) := by decide +kernel
theorem dX0_addType_133 : decode cX0_addType 133 = .ok (.iload 8, 2) := by decide +kernel
theorem dX0_addType_135 : decode cX0_addType 135 = .ok (.bipush 12, 2) := by decide +kernel
theorem dX0_addType_137 : decode cX0_addType 137 = .ok (.if_icmp .ge 48, 3) := by decide +kernel
theorem dX0_addType_140 : decode cX0_addType 140 = .ok (.lload_n 1, 1) := by decide +kernel
theorem dX0_addType_141 : decode cX0_addType 141 = .ok (.iload 8, 2) := by decide +kernel
theorem dX0_addType_143 : decode cX0_addType 143 = .ok (.invokestatic 54, 3) := by decide +kernel
theorem dX0_addType_146 : decode cX0_addType 146 = .ok (.istore 9, 2) := by decide +kernel
theorem dX0_addType_148 : decode cX0_addType 148 = .ok (.aload_n 0, 1) := by decide +kernel
theorem dX0_addType_149 : decode cX0_addType 149 = .ok (.getfield 9, 3) := by decide +kernel
theorem dX0_addType_152 : decode cX0_addType 152 = .ok (.aload_n 0, 1) := by decide +kernel
theorem dX0_addType_153 : decode cX0_addType 153 = .ok (.getfield 64, 3) := by decide +kernel
theorem dX0_addType_156 : decode cX0_addType 156 = .ok (.bipush 12, 2) := by decide +kernel
theorem dX0_addType_158 : decode cX0_addType 158 = .ok (.imul, 1) := by decide +kernel
theorem dX0_addType_159 : decode cX0_addType 159 = .ok (.iload 8, 2) := by decide +kernel
theorem dX0_addType_161 : decode cX0_addType 161 = .ok (.iadd, 1) := by decide +kernel
theorem dX0_addType_162 : decode cX0_addType 162 = .ok (.iload 9, 2) := by decide +kernel
theorem dX0_addType_164 : decode cX0_addType 164 = .ok (.iastore, 1) := by decide +kernel
theorem dX0_addType_165 : decode cX0_addType 165 = .ok (.aload_n 0, 1) := by decide +kernel
theorem dX0_addType_166 : decode cX0_addType 166 = .ok (.getfield 27, 3) := by decide +kernel
theorem dX0_addType_169 : decode cX0_addType 169 = .ok (.iload 7, 2) := by decide +kernel
theorem dX0_addType_171 : decode cX0_addType 171 = .ok (.iload 9, 2) := by decide +kernel
theorem dX0_addType_173 : decode cX0_addType 173 = .ok (.iadd, 1) := by decide +kernel
theorem dX0_addType_174 : decode cX0_addType 174 = .ok (.dup2, 1) := by decide +kernel
theorem dX0_addType_175 : decode cX0_addType 175 = .ok (.iaload, 1) := by decide +kernel
theorem dX0_addType_176 : decode cX0_addType 176 = .ok (.iconst 1, 1) := by decide +kernel
theorem dX0_addType_177 : decode cX0_addType 177 = .ok (.iadd, 1) := by decide +kernel
theorem dX0_addType_178 : decode cX0_addType 178 = .ok (.iastore, 1) := by decide +kernel
theorem dX0_addType_179 : decode cX0_addType 179 = .ok (.iinc 8 1, 3) := by decide +kernel
theorem dX0_addType_182 : decode cX0_addType 182 = .ok (.goto (-49), 3) := by decide +kernel
theorem dX0_addType_185 : decode cX0_addType 185 = .ok (.iconst 0, 1) := by decide +kernel
theorem dX0_addType_186 : decode cX0_addType 186 = .ok (.istore 8, 2) := by decide +kernel
theorem dX0_addType_188 : decode cX0_addType 188 = .ok (.iload 8, 2) := by decide +kernel
theorem dX0_addType_190 : decode cX0_addType 190 = .ok (.iconst 4, 1) := by decide +kernel
theorem dX0_addType_191 : decode cX0_addType 191 = .ok (.if_icmp .ge 37, 3) := by decide +kernel
theorem dX0_addType_194 : decode cX0_addType 194 = .ok (.aload_n 0, 1) := by decide +kernel
theorem dX0_addType_195 : decode cX0_addType 195 = .ok (.getfield 15, 3) := by decide +kernel
theorem dX0_addType_198 : decode cX0_addType 198 = .ok (.aload_n 0, 1) := by decide +kernel
theorem dX0_addType_199 : decode cX0_addType 199 = .ok (.getfield 64, 3) := by decide +kernel
theorem dX0_addType_202 : decode cX0_addType 202 = .ok (.iconst 4, 1) := by decide +kernel
theorem dX0_addType_203 : decode cX0_addType 203 = .ok (.imul, 1) := by decide +kernel
theorem dX0_addType_204 : decode cX0_addType 204 = .ok (.iload 8, 2) := by decide +kernel
theorem dX0_addType_206 : decode cX0_addType 206 = .ok (.iadd, 1) := by decide +kernel
theorem dX0_addType_207 : decode cX0_addType 207 = .ok (.lload_n 3, 1) := by decide +kernel
theorem dX0_addType_208 : decode cX0_addType 208 = .ok (.lload_n 1, 1) := by decide +kernel
theorem dX0_addType_209 : decode cX0_addType 209 = .ok (.iload 8, 2) := by decide +kernel
theorem dX0_addType_211 : decode cX0_addType 211 = .ok (.iconst 3, 1) := by decide +kernel
theorem dX0_addType_212 : decode cX0_addType 212 = .ok (.imul, 1) := by decide +kernel
theorem dX0_addType_213 : decode cX0_addType 213 = .ok (.iconst 1, 1) := by decide +kernel
theorem dX0_addType_214 : decode cX0_addType 214 = .ok (.iadd, 1) := by decide +kernel
theorem dX0_addType_215 : decode cX0_addType 215 = .ok (.invokestatic 54, 3) := by decide +kernel
theorem dX0_addType_218 : decode cX0_addType 218 = .ok (.invokestatic 57, 3) := by decide +kernel
theorem dX0_addType_221 : decode cX0_addType 221 = .ok (.iastore, 1) := by decide +kernel
theorem dX0_addType_222 : decode cX0_addType 222 = .ok (.iinc 8 1, 3) := by decide +kernel
theorem dX0_addType_225 : decode cX0_addType 225 = .ok (.goto (-37), 3) := by decide +kernel
theorem dX0_addType_228 : decode cX0_addType 228 = .ok (.aload_n 0, 1) := by decide +kernel
theorem dX0_addType_229 : decode cX0_addType 229 = .ok (.dup, 1) := by decide +kernel
theorem dX0_addType_230 : decode cX0_addType 230 = .ok (.getfield 64, 3) := by decide +kernel
theorem dX0_addType_233 : decode cX0_addType 233 = .ok (.iconst 1, 1) := by decide +kernel
theorem dX0_addType_234 : decode cX0_addType 234 = .ok (.iadd, 1) := by decide +kernel
theorem dX0_addType_235 : decode cX0_addType 235 = .ok (.putfield 64, 3) := by decide +kernel
theorem dX0_addType_238 : decode cX0_addType 238 = .ok (.aload_n 0, 1) := by decide +kernel
theorem dX0_addType_239 : decode cX0_addType 239 = .ok (.getfield 64, 3) := by decide +kernel
theorem dX0_addType_242 : decode cX0_addType 242 = .ok (.iconst 1, 1) := by decide +kernel
theorem dX0_addType_243 : decode cX0_addType 243 = .ok (.isub, 1) := by decide +kernel
theorem dX0_addType_244 : decode cX0_addType 244 = .ok (.ireturn, 1) := by decide +kernel
theorem dX6_type_0 : decode cX6_type 0 = .ok (.lload_n 1, 1) := by decide +kernel
theorem dX6_type_1 : decode cX6_type 1 = .ok (.lload_n 3, 1) := by decide +kernel
theorem dX6_type_2 : decode cX6_type 2 = .ok (.lload 5, 2) := by decide +kernel
theorem dX6_type_4 : decode cX6_type 4 = .ok (.invokestatic 43, 3) := by decide +kernel
theorem dX6_type_7 : decode cX6_type 7 = .ok (.ifCond .ne 6, 3) := by decide +kernel
theorem dX6_type_10 : decode cX6_type 10 = .ok (.bipush (-2), 2) := by decide +kernel
theorem dX6_type_12 : decode cX6_type 12 = .ok (.ireturn, 1) := by decide +kernel
theorem dX6_type_13 : decode cX6_type 13 = .ok (.aload_n 0, 1) := by decide +kernel
theorem dX6_type_14 : decode cX6_type 14 = .ok (.getfield 30, 3) := by decide +kernel
theorem dX6_type_17 : decode cX6_type 17 = .ok (.getfield 47, 3) := by decide +kernel
theorem dX6_type_20 : decode cX6_type 20 = .ok (.ifCond .ne 15, 3) := by decide +kernel
theorem dX6_type_23 : decode cX6_type 23 = .ok (.aload_n 0, 1) := by decide +kernel
theorem dX6_type_24 : decode cX6_type 24 = .ok (.getfield 12, 3) := by decide +kernel
theorem dX6_type_27 : decode cX6_type 27 = .ok (.getfield 51, 3) := by decide +kernel
theorem dX6_type_30 : decode cX6_type 30 = .ok (.bipush 12, 2) := by decide +kernel
theorem dX6_type_32 : decode cX6_type 32 = .ok (.if_icmp .lt 6, 3) := by decide +kernel
theorem dX6_type_35 : decode cX6_type 35 = .ok (.bipush (-3), 2) := by decide +kernel
theorem dX6_type_37 : decode cX6_type 37 = .ok (.ireturn, 1) := by decide +kernel
theorem dX6_type_38 : decode cX6_type 38 = .ok (.aload_n 0, 1) := by decide +kernel
theorem dX6_type_39 : decode cX6_type 39 = .ok (.getfield 12, 3) := by decide +kernel
theorem dX6_type_42 : decode cX6_type 42 = .ok (.lload_n 1, 1) := by decide +kernel
theorem dX6_type_43 : decode cX6_type 43 = .ok (.lload_n 3, 1) := by decide +kernel
theorem dX6_type_44 : decode cX6_type 44 = .ok (.lload 5, 2) := by decide +kernel
theorem dX6_type_46 : decode cX6_type 46 = .ok (.invokevirtual 55, 3) := by decide +kernel
theorem dX6_type_49 : decode cX6_type 49 = .ok (.ireturn, 1) := by decide +kernel
theorem dX0_addToList_0 : decode cX0_addToList 0 = .ok (.aload_n 0, 1) := by decide +kernel
theorem dX0_addToList_1 : decode cX0_addToList 1 = .ok (.getfield 33, 3) := by decide +kernel
theorem dX0_addToList_4 : decode cX0_addToList 4 = .ok (.aload_n 0, 1) := by decide +kernel
theorem dX0_addToList_5 : decode cX0_addToList 5 = .ok (.getfield 68, 3) := by decide +kernel
theorem dX0_addToList_8 : decode cX0_addToList 8 = .ok (.iload_n 1, 1) := by decide +kernel
theorem dX0_addToList_9 : decode cX0_addToList 9 = .ok (.iastore, 1) := by decide +kernel
theorem dX0_addToList_10 : decode cX0_addToList 10 = .ok (.aload_n 0, 1) := by decide +kernel
theorem dX0_addToList_11 : decode cX0_addToList 11 = .ok (.dup, 1) := by decide +kernel
theorem dX0_addToList_12 : decode cX0_addToList 12 = .ok (.getfield 68, 3) := by decide +kernel
theorem dX0_addToList_15 : decode cX0_addToList 15 = .ok (.iconst 1, 1) := by decide +kernel
theorem dX0_addToList_16 : decode cX0_addToList 16 = .ok (.iadd, 1) := by decide +kernel
theorem dX0_addToList_17 : decode cX0_addToList 17 = .ok (.putfield 68, 3) := by decide +kernel
theorem dX0_addToList_20 : decode cX0_addToList 20 = .ok (.aload_n 0, 1) := by decide +kernel
theorem dX0_addToList_21 : decode cX0_addToList 21 = .ok (.getfield 68, 3) := by decide +kernel
theorem dX0_addToList_24 : decode cX0_addToList 24 = .ok (.ireturn, 1) := by decide +kernel
theorem dX6_draw_0 : decode cX6_draw 0 = .ok (.iload_n 1, 1) := by decide +kernel
theorem dX6_draw_1 : decode cX6_draw 1 = .ok (.ifCond .lt 14, 3) := by decide +kernel
theorem dX6_draw_4 : decode cX6_draw 4 = .ok (.iload_n 1, 1) := by decide +kernel
theorem dX6_draw_5 : decode cX6_draw 5 = .ok (.aload_n 0, 1) := by decide +kernel
theorem dX6_draw_6 : decode cX6_draw 6 = .ok (.getfield 12, 3) := by decide +kernel
theorem dX6_draw_9 : decode cX6_draw 9 = .ok (.getfield 51, 3) := by decide +kernel
theorem dX6_draw_12 : decode cX6_draw 12 = .ok (.if_icmp .lt 6, 3) := by decide +kernel
theorem dX6_draw_15 : decode cX6_draw 15 = .ok (.bipush (-2), 2) := by decide +kernel
theorem dX6_draw_17 : decode cX6_draw 17 = .ok (.ireturn, 1) := by decide +kernel
theorem dX6_draw_18 : decode cX6_draw 18 = .ok (.aload_n 0, 1) := by decide +kernel
theorem dX6_draw_19 : decode cX6_draw 19 = .ok (.getfield 30, 3) := by decide +kernel
theorem dX6_draw_22 : decode cX6_draw 22 = .ok (.getfield 47, 3) := by decide +kernel
theorem dX6_draw_25 : decode cX6_draw 25 = .ok (.ifCond .ne 15, 3) := by decide +kernel
theorem dX6_draw_28 : decode cX6_draw 28 = .ok (.aload_n 0, 1) := by decide +kernel
theorem dX6_draw_29 : decode cX6_draw 29 = .ok (.getfield 12, 3) := by decide +kernel
theorem dX6_draw_32 : decode cX6_draw 32 = .ok (.getfield 59, 3) := by decide +kernel
theorem dX6_draw_35 : decode cX6_draw 35 = .ok (.bipush 24, 2) := by decide +kernel
theorem dX6_draw_37 : decode cX6_draw 37 = .ok (.if_icmp .lt 6, 3) := by decide +kernel
theorem dX6_draw_40 : decode cX6_draw 40 = .ok (.bipush (-3), 2) := by decide +kernel
theorem dX6_draw_42 : decode cX6_draw 42 = .ok (.ireturn, 1) := by decide +kernel
theorem dX6_draw_43 : decode cX6_draw 43 = .ok (.aload_n 0, 1) := by decide +kernel
theorem dX6_draw_44 : decode cX6_draw 44 = .ok (.getfield 12, 3) := by decide +kernel
theorem dX6_draw_47 : decode cX6_draw 47 = .ok (.iload_n 1, 1) := by decide +kernel
theorem dX6_draw_48 : decode cX6_draw 48 = .ok (.invokevirtual 62, 3) := by decide +kernel
theorem dX6_draw_51 : decode cX6_draw 51 = .ok (.ireturn, 1) := by decide +kernel
theorem dX4_forget_0 : decode cX4_forget 0 = .ok (.aload_n 0, 1) := by decide +kernel
theorem dX4_forget_1 : decode cX4_forget 1 = .ok (.iconst (-1), 1) := by decide +kernel
theorem dX4_forget_2 : decode cX4_forget 2 = .ok (.putfield 18, 3) := by decide +kernel
theorem dX4_forget_5 : decode cX4_forget 5 = .ok (.return_, 1) := by decide +kernel
theorem dX3_takeMenBackTo_0 : decode cX3_takeMenBackTo 0 = .ok (.aload_n 0, 1) := by decide +kernel
theorem dX3_takeMenBackTo_1 : decode cX3_takeMenBackTo 1 = .ok (.getfield 52, 3) := by decide +kernel
theorem dX3_takeMenBackTo_4 : decode cX3_takeMenBackTo 4 = .ok (.iconst 1, 1) := by decide +kernel
theorem dX3_takeMenBackTo_5 : decode cX3_takeMenBackTo 5 = .ok (.isub, 1) := by decide +kernel
theorem dX3_takeMenBackTo_6 : decode cX3_takeMenBackTo 6 = .ok (.istore_n 2, 1) := by decide +kernel
theorem dX3_takeMenBackTo_7 : decode cX3_takeMenBackTo 7 = .ok (.iload_n 2, 1) := by decide +kernel
theorem dX3_takeMenBackTo_8 : decode cX3_takeMenBackTo 8 = .ok (.iload_n 1, 1) := by decide +kernel
theorem dX3_takeMenBackTo_9 : decode cX3_takeMenBackTo 9 = .ok (.if_icmp .lt 31, 3) := by decide +kernel
theorem dX3_takeMenBackTo_12 : decode cX3_takeMenBackTo 12 = .ok (.aload_n 0, 1) := by decide +kernel
theorem dX3_takeMenBackTo_13 : decode cX3_takeMenBackTo 13 = .ok (.getfield 24, 3) := by decide +kernel
theorem dX3_takeMenBackTo_16 : decode cX3_takeMenBackTo 16 = .ok (.aload_n 0, 1) := by decide +kernel
theorem dX3_takeMenBackTo_17 : decode cX3_takeMenBackTo 17 = .ok (.getfield 33, 3) := by decide +kernel
theorem dX3_takeMenBackTo_20 : decode cX3_takeMenBackTo 20 = .ok (.iload_n 2, 1) := by decide +kernel
theorem dX3_takeMenBackTo_21 : decode cX3_takeMenBackTo 21 = .ok (.iaload, 1) := by decide +kernel
theorem dX3_takeMenBackTo_22 : decode cX3_takeMenBackTo 22 = .ok (.aload_n 0, 1) := by decide +kernel
theorem dX3_takeMenBackTo_23 : decode cX3_takeMenBackTo 23 = .ok (.getfield 36, 3) := by decide +kernel
theorem dX3_takeMenBackTo_26 : decode cX3_takeMenBackTo 26 = .ok (.iload_n 2, 1) := by decide +kernel
theorem dX3_takeMenBackTo_27 : decode cX3_takeMenBackTo 27 = .ok (.iaload, 1) := by decide +kernel
theorem dX3_takeMenBackTo_28 : decode cX3_takeMenBackTo 28 = .ok (.iastore, 1) := by decide +kernel
theorem dX3_takeMenBackTo_29 : decode cX3_takeMenBackTo 29 = .ok (.aload_n 0, 1) := by decide +kernel
theorem dX3_takeMenBackTo_30 : decode cX3_takeMenBackTo 30 = .ok (.iload_n 2, 1) := by decide +kernel
theorem dX3_takeMenBackTo_31 : decode cX3_takeMenBackTo 31 = .ok (.putfield 52, 3) := by decide +kernel
theorem dX3_takeMenBackTo_34 : decode cX3_takeMenBackTo 34 = .ok (.iinc 2 (-1), 3) := by decide +kernel
theorem dX3_takeMenBackTo_37 : decode cX3_takeMenBackTo 37 = .ok (.goto (-30), 3) := by decide +kernel
theorem dX3_takeMenBackTo_40 : decode cX3_takeMenBackTo 40 = .ok (.return_, 1) := by decide +kernel
theorem dX2_restore_0 : decode cX2_restore 0 = .ok (.aload_n 0, 1) := by decide +kernel
theorem dX2_restore_1 : decode cX2_restore 1 = .ok (.getfield 32, 3) := by decide +kernel
theorem dX2_restore_4 : decode cX2_restore 4 = .ok (.getfield 74, 3) := by decide +kernel
theorem dX2_restore_7 : decode cX2_restore 7 = .ok (.iconst 1, 1) := by decide +kernel
theorem dX2_restore_8 : decode cX2_restore 8 = .ok (.isub, 1) := by decide +kernel
theorem dX2_restore_9 : decode cX2_restore 9 = .ok (.bipush 10, 2) := by decide +kernel
theorem dX2_restore_11 : decode cX2_restore 11 = .ok (.imul, 1) := by decide +kernel
theorem dX2_restore_12 : decode cX2_restore 12 = .ok (.istore_n 1, 1) := by decide +kernel
theorem dX2_restore_13 : decode cX2_restore 13 = .ok (.aload_n 0, 1) := by decide +kernel
theorem dX2_restore_14 : decode cX2_restore 14 = .ok (.aload_n 0, 1) := by decide +kernel
theorem dX2_restore_15 : decode cX2_restore 15 = .ok (.getfield 25, 3) := by decide +kernel
theorem dX2_restore_18 : decode cX2_restore 18 = .ok (.iload_n 1, 1) := by decide +kernel
theorem dX2_restore_19 : decode cX2_restore 19 = .ok (.iaload, 1) := by decide +kernel
theorem dX2_restore_20 : decode cX2_restore 20 = .ok (.putfield 56, 3) := by decide +kernel
theorem dX2_restore_23 : decode cX2_restore 23 = .ok (.aload_n 0, 1) := by decide +kernel
theorem dX2_restore_24 : decode cX2_restore 24 = .ok (.aload_n 0, 1) := by decide +kernel
theorem dX2_restore_25 : decode cX2_restore 25 = .ok (.getfield 25, 3) := by decide +kernel
theorem dX2_restore_28 : decode cX2_restore 28 = .ok (.iload_n 1, 1) := by decide +kernel
theorem dX2_restore_29 : decode cX2_restore 29 = .ok (.iconst 1, 1) := by decide +kernel
theorem dX2_restore_30 : decode cX2_restore 30 = .ok (.iadd, 1) := by decide +kernel
theorem dX2_restore_31 : decode cX2_restore 31 = .ok (.iaload, 1) := by decide +kernel
theorem dX2_restore_32 : decode cX2_restore 32 = .ok (.putfield 59, 3) := by decide +kernel
theorem dX2_restore_35 : decode cX2_restore 35 = .ok (.aload_n 0, 1) := by decide +kernel
theorem dX2_restore_36 : decode cX2_restore 36 = .ok (.aload_n 0, 1) := by decide +kernel
theorem dX2_restore_37 : decode cX2_restore 37 = .ok (.getfield 25, 3) := by decide +kernel
theorem dX2_restore_40 : decode cX2_restore 40 = .ok (.iload_n 1, 1) := by decide +kernel
theorem dX2_restore_41 : decode cX2_restore 41 = .ok (.iconst 2, 1) := by decide +kernel
theorem dX2_restore_42 : decode cX2_restore 42 = .ok (.iadd, 1) := by decide +kernel
theorem dX2_restore_43 : decode cX2_restore 43 = .ok (.iaload, 1) := by decide +kernel
theorem dX2_restore_44 : decode cX2_restore 44 = .ok (.putfield 62, 3) := by decide +kernel
theorem dX2_restore_47 : decode cX2_restore 47 = .ok (.aload_n 0, 1) := by decide +kernel
theorem dX2_restore_48 : decode cX2_restore 48 = .ok (.getfield 32, 3) := by decide +kernel
theorem dX2_restore_51 : decode cX2_restore 51 = .ok (.getfield 87, 3) := by decide +kernel
theorem dX2_restore_54 : decode cX2_restore 54 = .ok (.aload_n 0, 1) := by decide +kernel
theorem dX2_restore_55 : decode cX2_restore 55 = .ok (.getfield 25, 3) := by decide +kernel
theorem dX2_restore_58 : decode cX2_restore 58 = .ok (.iload_n 1, 1) := by decide +kernel
theorem dX2_restore_59 : decode cX2_restore 59 = .ok (.iconst 3, 1) := by decide +kernel
theorem dX2_restore_60 : decode cX2_restore 60 = .ok (.iadd, 1) := by decide +kernel
theorem dX2_restore_61 : decode cX2_restore 61 = .ok (.iaload, 1) := by decide +kernel
theorem dX2_restore_62 : decode cX2_restore 62 = .ok (.invokevirtual 160, 3) := by decide +kernel
theorem dX2_restore_65 : decode cX2_restore 65 = .ok (.iconst 0, 1) := by decide +kernel
theorem dX2_restore_66 : decode cX2_restore 66 = .ok (.istore_n 2, 1) := by decide +kernel
theorem dX2_restore_67 : decode cX2_restore 67 = .ok (.iload_n 2, 1) := by decide +kernel
theorem dX2_restore_68 : decode cX2_restore 68 = .ok (.iconst 3, 1) := by decide +kernel
theorem dX2_restore_69 : decode cX2_restore 69 = .ok (.if_icmp .ge 43, 3) := by decide +kernel
theorem dX2_restore_72 : decode cX2_restore 72 = .ok (.aload_n 0, 1) := by decide +kernel
theorem dX2_restore_73 : decode cX2_restore 73 = .ok (.getfield 15, 3) := by decide +kernel
theorem dX2_restore_76 : decode cX2_restore 76 = .ok (.iload_n 2, 1) := by decide +kernel
theorem dX2_restore_77 : decode cX2_restore 77 = .ok (.aload_n 0, 1) := by decide +kernel
theorem dX2_restore_78 : decode cX2_restore 78 = .ok (.getfield 25, 3) := by decide +kernel
theorem dX2_restore_81 : decode cX2_restore 81 = .ok (.iload_n 1, 1) := by decide +kernel
theorem dX2_restore_82 : decode cX2_restore 82 = .ok (.iconst 4, 1) := by decide +kernel
theorem dX2_restore_83 : decode cX2_restore 83 = .ok (.iadd, 1) := by decide +kernel
theorem dX2_restore_84 : decode cX2_restore 84 = .ok (.iload_n 2, 1) := by decide +kernel
theorem dX2_restore_85 : decode cX2_restore 85 = .ok (.iadd, 1) := by decide +kernel
theorem dX2_restore_86 : decode cX2_restore 86 = .ok (.iaload, 1) := by decide +kernel
theorem dX2_restore_87 : decode cX2_restore 87 = .ok (.iastore, 1) := by decide +kernel
theorem dX2_restore_88 : decode cX2_restore 88 = .ok (.aload_n 0, 1) := by decide +kernel
theorem dX2_restore_89 : decode cX2_restore 89 = .ok (.getfield 19, 3) := by decide +kernel
theorem dX2_restore_92 : decode cX2_restore 92 = .ok (.iload_n 2, 1) := by decide +kernel
theorem dX2_restore_93 : decode cX2_restore 93 = .ok (.aload_n 0, 1) := by decide +kernel
theorem dX2_restore_94 : decode cX2_restore 94 = .ok (.getfield 25, 3) := by decide +kernel
theorem dX2_restore_97 : decode cX2_restore 97 = .ok (.iload_n 1, 1) := by decide +kernel
theorem dX2_restore_98 : decode cX2_restore 98 = .ok (.iconst 4, 1) := by decide +kernel
theorem dX2_restore_99 : decode cX2_restore 99 = .ok (.iadd, 1) := by decide +kernel
theorem dX2_restore_100 : decode cX2_restore 100 = .ok (.iconst 3, 1) := by decide +kernel
theorem dX2_restore_101 : decode cX2_restore 101 = .ok (.iadd, 1) := by decide +kernel
theorem dX2_restore_102 : decode cX2_restore 102 = .ok (.iload_n 2, 1) := by decide +kernel
theorem dX2_restore_103 : decode cX2_restore 103 = .ok (.iadd, 1) := by decide +kernel
theorem dX2_restore_104 : decode cX2_restore 104 = .ok (.iaload, 1) := by decide +kernel
theorem dX2_restore_105 : decode cX2_restore 105 = .ok (.iastore, 1) := by decide +kernel
theorem dX2_restore_106 : decode cX2_restore 106 = .ok (.iinc 2 1, 3) := by decide +kernel
theorem dX2_restore_109 : decode cX2_restore 109 = .ok (.goto (-42), 3) := by decide +kernel
theorem dX2_restore_112 : decode cX2_restore 112 = .ok (.return_, 1) := by decide +kernel
theorem dX5_pieceAt_0 : decode cX5_pieceAt 0 = .ok (.iload_n 2, 1) := by decide +kernel
theorem dX5_pieceAt_1 : decode cX5_pieceAt 1 = .ok (.bipush 12, 2) := by decide +kernel
theorem dX5_pieceAt_3 : decode cX5_pieceAt 3 = .ok (.iadd, 1) := by decide +kernel
theorem dX5_pieceAt_4 : decode cX5_pieceAt 4 = .ok (.iconst 3, 1) := by decide +kernel
theorem dX5_pieceAt_5 : decode cX5_pieceAt 5 = .ok (.aload_n 0, 1) := by decide +kernel
theorem dX5_pieceAt_6 : decode cX5_pieceAt 6 = .ok (.getfield 27, 3) := by decide +kernel
theorem dX5_pieceAt_9 : decode cX5_pieceAt 9 = .ok (.iload_n 1, 1) := by decide +kernel
theorem dX5_pieceAt_10 : decode cX5_pieceAt 10 = .ok (.iaload, 1) := by decide +kernel
theorem dX5_pieceAt_11 : decode cX5_pieceAt 11 = .ok (.imul, 1) := by decide +kernel
theorem dX5_pieceAt_12 : decode cX5_pieceAt 12 = .ok (.isub, 1) := by decide +kernel
theorem dX5_pieceAt_13 : decode cX5_pieceAt 13 = .ok (.bipush 12, 2) := by decide +kernel
theorem dX5_pieceAt_15 : decode cX5_pieceAt 15 = .ok (.irem, 1) := by decide +kernel
theorem dX5_pieceAt_16 : decode cX5_pieceAt 16 = .ok (.istore_n 3, 1) := by decide +kernel
theorem dX5_pieceAt_17 : decode cX5_pieceAt 17 = .ok (.iload_n 1, 1) := by decide +kernel
theorem dX5_pieceAt_18 : decode cX5_pieceAt 18 = .ok (.bipush 8, 2) := by decide +kernel
theorem dX5_pieceAt_20 : decode cX5_pieceAt 20 = .ok (.imul, 1) := by decide +kernel
theorem dX5_pieceAt_21 : decode cX5_pieceAt 21 = .ok (.aload_n 0, 1) := by decide +kernel
theorem dX5_pieceAt_22 : decode cX5_pieceAt 22 = .ok (.getfield 36, 3) := by decide +kernel
theorem dX5_pieceAt_25 : decode cX5_pieceAt 25 = .ok (.getfield 116, 3) := by decide +kernel
theorem dX5_pieceAt_28 : decode cX5_pieceAt 28 = .ok (.aload_n 0, 1) := by decide +kernel
theorem dX5_pieceAt_29 : decode cX5_pieceAt 29 = .ok (.getfield 24, 3) := by decide +kernel
theorem dX5_pieceAt_32 : decode cX5_pieceAt 32 = .ok (.iload_n 1, 1) := by decide +kernel
theorem dX5_pieceAt_33 : decode cX5_pieceAt 33 = .ok (.iaload, 1) := by decide +kernel
theorem dX5_pieceAt_34 : decode cX5_pieceAt 34 = .ok (.bipush 12, 2) := by decide +kernel
theorem dX5_pieceAt_36 : decode cX5_pieceAt 36 = .ok (.imul, 1) := by decide +kernel
theorem dX5_pieceAt_37 : decode cX5_pieceAt 37 = .ok (.iload_n 3, 1) := by decide +kernel
theorem dX5_pieceAt_38 : decode cX5_pieceAt 38 = .ok (.iadd, 1) := by decide +kernel
theorem dX5_pieceAt_39 : decode cX5_pieceAt 39 = .ok (.iaload, 1) := by decide +kernel
theorem dX5_pieceAt_40 : decode cX5_pieceAt 40 = .ok (.iadd, 1) := by decide +kernel
theorem dX5_pieceAt_41 : decode cX5_pieceAt 41 = .ok (.ireturn, 1) := by decide +kernel
theorem dX5_slotBeside_0 : decode cX5_slotBeside 0 = .ok (.iload_n 0, 1) := by decide +kernel
theorem dX5_slotBeside_1 : decode cX5_slotBeside 1 = .ok (.iconst 3, 1) := by decide +kernel
theorem dX5_slotBeside_2 : decode cX5_slotBeside 2 = .ok (.idiv, 1) := by decide +kernel
theorem dX5_slotBeside_3 : decode cX5_slotBeside 3 = .ok (.iconst 2, 1) := by decide +kernel
theorem dX5_slotBeside_4 : decode cX5_slotBeside 4 = .ok (.iadd, 1) := by decide +kernel
theorem dX5_slotBeside_5 : decode cX5_slotBeside 5 = .ok (.iconst 4, 1) := by decide +kernel
theorem dX5_slotBeside_6 : decode cX5_slotBeside 6 = .ok (.irem, 1) := by decide +kernel
theorem dX5_slotBeside_7 : decode cX5_slotBeside 7 = .ok (.istore_n 1, 1) := by decide +kernel
theorem dX5_slotBeside_8 : decode cX5_slotBeside 8 = .ok (.iload_n 1, 1) := by decide +kernel
theorem dX5_slotBeside_9 : decode cX5_slotBeside 9 = .ok (.iconst 3, 1) := by decide +kernel
theorem dX5_slotBeside_10 : decode cX5_slotBeside 10 = .ok (.imul, 1) := by decide +kernel
theorem dX5_slotBeside_11 : decode cX5_slotBeside 11 = .ok (.iconst 3, 1) := by decide +kernel
theorem dX5_slotBeside_12 : decode cX5_slotBeside 12 = .ok (.iadd, 1) := by decide +kernel
theorem dX5_slotBeside_13 : decode cX5_slotBeside 13 = .ok (.iconst 1, 1) := by decide +kernel
theorem dX5_slotBeside_14 : decode cX5_slotBeside 14 = .ok (.isub, 1) := by decide +kernel
theorem dX5_slotBeside_15 : decode cX5_slotBeside 15 = .ok (.iload_n 0, 1) := by decide +kernel
theorem dX5_slotBeside_16 : decode cX5_slotBeside 16 = .ok (.iconst 3, 1) := by decide +kernel
theorem dX5_slotBeside_17 : decode cX5_slotBeside 17 = .ok (.irem, 1) := by decide +kernel
theorem dX5_slotBeside_18 : decode cX5_slotBeside 18 = .ok (.isub, 1) := by decide +kernel
theorem dX5_slotBeside_19 : decode cX5_slotBeside 19 = .ok (.ireturn, 1) := by decide +kernel
theorem dX3_rootOf_0 : decode cX3_rootOf 0 = .ok (.iload_n 1, 1) := by decide +kernel
theorem dX3_rootOf_1 : decode cX3_rootOf 1 = .ok (.istore_n 2, 1) := by decide +kernel
theorem dX3_rootOf_2 : decode cX3_rootOf 2 = .ok (.iconst 0, 1) := by decide +kernel
theorem dX3_rootOf_3 : decode cX3_rootOf 3 = .ok (.istore_n 3, 1) := by decide +kernel
theorem dX3_rootOf_4 : decode cX3_rootOf 4 = .ok (.iload_n 3, 1) := by decide +kernel
theorem dX3_rootOf_5 : decode cX3_rootOf 5 = .ok (.sipush 192, 3) := by decide +kernel
theorem dX3_rootOf_8 : decode cX3_rootOf 8 = .ok (.if_icmp .ge 26, 3) := by decide +kernel
theorem dX3_rootOf_11 : decode cX3_rootOf 11 = .ok (.aload_n 0, 1) := by decide +kernel
theorem dX3_rootOf_12 : decode cX3_rootOf 12 = .ok (.getfield 9, 3) := by decide +kernel
theorem dX3_rootOf_15 : decode cX3_rootOf 15 = .ok (.iload_n 2, 1) := by decide +kernel
theorem dX3_rootOf_16 : decode cX3_rootOf 16 = .ok (.iaload, 1) := by decide +kernel
theorem dX3_rootOf_17 : decode cX3_rootOf 17 = .ok (.iload_n 2, 1) := by decide +kernel
theorem dX3_rootOf_18 : decode cX3_rootOf 18 = .ok (.if_icmp .eq 16, 3) := by decide +kernel
theorem dX3_rootOf_21 : decode cX3_rootOf 21 = .ok (.aload_n 0, 1) := by decide +kernel
theorem dX3_rootOf_22 : decode cX3_rootOf 22 = .ok (.getfield 9, 3) := by decide +kernel
theorem dX3_rootOf_25 : decode cX3_rootOf 25 = .ok (.iload_n 2, 1) := by decide +kernel
theorem dX3_rootOf_26 : decode cX3_rootOf 26 = .ok (.iaload, 1) := by decide +kernel
theorem dX3_rootOf_27 : decode cX3_rootOf 27 = .ok (.istore_n 2, 1) := by decide +kernel
theorem dX3_rootOf_28 : decode cX3_rootOf 28 = .ok (.iinc 3 1, 3) := by decide +kernel
theorem dX3_rootOf_31 : decode cX3_rootOf 31 = .ok (.goto (-27), 3) := by decide +kernel
theorem dX3_rootOf_34 : decode cX3_rootOf 34 = .ok (.iload_n 2, 1) := by decide +kernel
theorem dX3_rootOf_35 : decode cX3_rootOf 35 = .ok (.ireturn, 1) := by decide +kernel
theorem dX5_openSide_0 : decode cX5_openSide 0 = .ok (.aload_n 0, 1) := by decide +kernel
theorem dX5_openSide_1 : decode cX5_openSide 1 = .ok (.getfield 9, 3) := by decide +kernel
theorem dX5_openSide_4 : decode cX5_openSide 4 = .ok (.aload_n 0, 1) := by decide +kernel
theorem dX5_openSide_5 : decode cX5_openSide 5 = .ok (.getfield 21, 3) := by decide +kernel
theorem dX5_openSide_8 : decode cX5_openSide 8 = .ok (.iload_n 1, 1) := by decide +kernel
theorem dX5_openSide_9 : decode cX5_openSide 9 = .ok (.iaload, 1) := by decide +kernel
theorem dX5_openSide_10 : decode cX5_openSide 10 = .ok (.getstatic 57, 3) := by decide +kernel
theorem dX5_openSide_13 : decode cX5_openSide 13 = .ok (.iload_n 2, 1) := by decide +kernel
theorem dX5_openSide_14 : decode cX5_openSide 14 = .ok (.iaload, 1) := by decide +kernel
theorem dX5_openSide_15 : decode cX5_openSide 15 = .ok (.iadd, 1) := by decide +kernel
theorem dX5_openSide_16 : decode cX5_openSide 16 = .ok (.iaload, 1) := by decide +kernel
theorem dX5_openSide_17 : decode cX5_openSide 17 = .ok (.istore 4, 2) := by decide +kernel
theorem dX5_openSide_19 : decode cX5_openSide 19 = .ok (.iload 4, 2) := by decide +kernel
theorem dX5_openSide_21 : decode cX5_openSide 21 = .ok (.iconst (-1), 1) := by decide +kernel
theorem dX5_openSide_22 : decode cX5_openSide 22 = .ok (.if_icmp .ne 4, 3) := by decide +kernel
theorem dX5_openSide_25 : decode cX5_openSide 25 = .ok (.return_, 1) := by decide +kernel
theorem dX5_openSide_26 : decode cX5_openSide 26 = .ok (.iconst 0, 1) := by decide +kernel
theorem dX5_openSide_27 : decode cX5_openSide 27 = .ok (.istore 5, 2) := by decide +kernel
theorem dX5_openSide_29 : decode cX5_openSide 29 = .ok (.iload 5, 2) := by decide +kernel
theorem dX5_openSide_31 : decode cX5_openSide 31 = .ok (.iconst 3, 1) := by decide +kernel
theorem dX5_openSide_32 : decode cX5_openSide 32 = .ok (.if_icmp .ge 66, 3) := by decide +kernel
theorem dX5_openSide_35 : decode cX5_openSide 35 = .ok (.iload_n 2, 1) := by decide +kernel
theorem dX5_openSide_36 : decode cX5_openSide 36 = .ok (.iconst 3, 1) := by decide +kernel
theorem dX5_openSide_37 : decode cX5_openSide 37 = .ok (.imul, 1) := by decide +kernel
theorem dX5_openSide_38 : decode cX5_openSide 38 = .ok (.iload 5, 2) := by decide +kernel
theorem dX5_openSide_40 : decode cX5_openSide 40 = .ok (.iadd, 1) := by decide +kernel
theorem dX5_openSide_41 : decode cX5_openSide 41 = .ok (.istore 6, 2) := by decide +kernel
theorem dX5_openSide_43 : decode cX5_openSide 43 = .ok (.aload_n 0, 1) := by decide +kernel
theorem dX5_openSide_44 : decode cX5_openSide 44 = .ok (.getfield 43, 3) := by decide +kernel
theorem dX5_openSide_47 : decode cX5_openSide 47 = .ok (.getfield 100, 3) := by decide +kernel
theorem dX5_openSide_50 : decode cX5_openSide 50 = .ok (.aload_n 0, 1) := by decide +kernel
theorem dX5_openSide_51 : decode cX5_openSide 51 = .ok (.iload_n 1, 1) := by decide +kernel
theorem dX5_openSide_52 : decode cX5_openSide 52 = .ok (.iload 6, 2) := by decide +kernel
theorem dX5_openSide_54 : decode cX5_openSide 54 = .ok (.invokevirtual 103, 3) := by decide +kernel
theorem dX5_openSide_57 : decode cX5_openSide 57 = .ok (.dup2, 1) := by decide +kernel
theorem dX5_openSide_58 : decode cX5_openSide 58 = .ok (.iaload, 1) := by decide +kernel
theorem dX5_openSide_59 : decode cX5_openSide 59 = .ok (.iload_n 3, 1) := by decide +kernel
theorem dX5_openSide_60 : decode cX5_openSide 60 = .ok (.iadd, 1) := by decide +kernel
theorem dX5_openSide_61 : decode cX5_openSide 61 = .ok (.iastore, 1) := by decide +kernel
theorem dX5_openSide_62 : decode cX5_openSide 62 = .ok (.aload_n 0, 1) := by decide +kernel
theorem dX5_openSide_63 : decode cX5_openSide 63 = .ok (.getfield 43, 3) := by decide +kernel
theorem dX5_openSide_66 : decode cX5_openSide 66 = .ok (.getfield 100, 3) := by decide +kernel
theorem dX5_openSide_69 : decode cX5_openSide 69 = .ok (.aload_n 0, 1) := by decide +kernel
theorem dX5_openSide_70 : decode cX5_openSide 70 = .ok (.getfield 43, 3) := by decide +kernel
theorem dX5_openSide_73 : decode cX5_openSide 73 = .ok (.aload_n 0, 1) := by decide +kernel
theorem dX5_openSide_74 : decode cX5_openSide 74 = .ok (.iload 4, 2) := by decide +kernel
theorem dX5_openSide_76 : decode cX5_openSide 76 = .ok (.iload 6, 2) := by decide +kernel
theorem dX5_openSide_78 : decode cX5_openSide 78 = .ok (.invokestatic 106, 3) := by decide +kernel
theorem dX5_openSide_81 : decode cX5_openSide 81 = .ok (.invokevirtual 103, 3) := by decide +kernel
theorem dX5_openSide_84 : decode cX5_openSide 84 = .ok (.invokevirtual 110, 3) := by decide +kernel
theorem dX5_openSide_87 : decode cX5_openSide 87 = .ok (.dup2, 1) := by decide +kernel
theorem dX5_openSide_88 : decode cX5_openSide 88 = .ok (.iaload, 1) := by decide +kernel
theorem dX5_openSide_89 : decode cX5_openSide 89 = .ok (.iload_n 3, 1) := by decide +kernel
theorem dX5_openSide_90 : decode cX5_openSide 90 = .ok (.iadd, 1) := by decide +kernel
theorem dX5_openSide_91 : decode cX5_openSide 91 = .ok (.iastore, 1) := by decide +kernel
theorem dX5_openSide_92 : decode cX5_openSide 92 = .ok (.iinc 5 1, 3) := by decide +kernel
theorem dX5_openSide_95 : decode cX5_openSide 95 = .ok (.goto (-66), 3) := by decide +kernel
theorem dX5_openSide_98 : decode cX5_openSide 98 = .ok (.return_, 1) := by decide +kernel
theorem dX3_partTo_0 : decode cX3_partTo 0 = .ok (.aload_n 0, 1) := by decide +kernel
theorem dX3_partTo_1 : decode cX3_partTo 1 = .ok (.getfield 48, 3) := by decide +kernel
theorem dX3_partTo_4 : decode cX3_partTo 4 = .ok (.iconst 1, 1) := by decide +kernel
theorem dX3_partTo_5 : decode cX3_partTo 5 = .ok (.isub, 1) := by decide +kernel
theorem dX3_partTo_6 : decode cX3_partTo 6 = .ok (.istore_n 2, 1) := by decide +kernel
theorem dX3_partTo_7 : decode cX3_partTo 7 = .ok (.iload_n 2, 1) := by decide +kernel
theorem dX3_partTo_8 : decode cX3_partTo 8 = .ok (.iload_n 1, 1) := by decide +kernel
theorem dX3_partTo_9 : decode cX3_partTo 9 = .ok (.if_icmp .lt 97, 3) := by decide +kernel
theorem dX3_partTo_12 : decode cX3_partTo 12 = .ok (.aload_n 0, 1) := by decide +kernel
theorem dX3_partTo_13 : decode cX3_partTo 13 = .ok (.getfield 27, 3) := by decide +kernel
theorem dX3_partTo_16 : decode cX3_partTo 16 = .ok (.iload_n 2, 1) := by decide +kernel
theorem dX3_partTo_17 : decode cX3_partTo 17 = .ok (.iaload, 1) := by decide +kernel
theorem dX3_partTo_18 : decode cX3_partTo 18 = .ok (.istore_n 3, 1) := by decide +kernel
theorem dX3_partTo_19 : decode cX3_partTo 19 = .ok (.aload_n 0, 1) := by decide +kernel
theorem dX3_partTo_20 : decode cX3_partTo 20 = .ok (.getfield 9, 3) := by decide +kernel
theorem dX3_partTo_23 : decode cX3_partTo 23 = .ok (.iload_n 3, 1) := by decide +kernel
theorem dX3_partTo_24 : decode cX3_partTo 24 = .ok (.iaload, 1) := by decide +kernel
theorem dX3_partTo_25 : decode cX3_partTo 25 = .ok (.istore 4, 2) := by decide +kernel
theorem dX3_partTo_27 : decode cX3_partTo 27 = .ok (.aload_n 0, 1) := by decide +kernel
theorem dX3_partTo_28 : decode cX3_partTo 28 = .ok (.getfield 9, 3) := by decide +kernel
theorem dX3_partTo_31 : decode cX3_partTo 31 = .ok (.iload_n 3, 1) := by decide +kernel
theorem dX3_partTo_32 : decode cX3_partTo 32 = .ok (.iload_n 3, 1) := by decide +kernel
theorem dX3_partTo_33 : decode cX3_partTo 33 = .ok (.iastore, 1) := by decide +kernel
theorem dX3_partTo_34 : decode cX3_partTo 34 = .ok (.aload_n 0, 1) := by decide +kernel
theorem dX3_partTo_35 : decode cX3_partTo 35 = .ok (.getfield 15, 3) := by decide +kernel
theorem dX3_partTo_38 : decode cX3_partTo 38 = .ok (.iload 4, 2) := by decide +kernel
theorem dX3_partTo_40 : decode cX3_partTo 40 = .ok (.aload_n 0, 1) := by decide +kernel
theorem dX3_partTo_41 : decode cX3_partTo 41 = .ok (.getfield 30, 3) := by decide +kernel
theorem dX3_partTo_44 : decode cX3_partTo 44 = .ok (.iload_n 2, 1) := by decide +kernel
theorem dX3_partTo_45 : decode cX3_partTo 45 = .ok (.iaload, 1) := by decide +kernel
theorem dX3_partTo_46 : decode cX3_partTo 46 = .ok (.iastore, 1) := by decide +kernel
theorem dX3_partTo_47 : decode cX3_partTo 47 = .ok (.aload_n 0, 1) := by decide +kernel
theorem dX3_partTo_48 : decode cX3_partTo 48 = .ok (.getfield 18, 3) := by decide +kernel
theorem dX3_partTo_51 : decode cX3_partTo 51 = .ok (.iload 4, 2) := by decide +kernel
theorem dX3_partTo_53 : decode cX3_partTo 53 = .ok (.dup2, 1) := by decide +kernel
theorem dX3_partTo_54 : decode cX3_partTo 54 = .ok (.iaload, 1) := by decide +kernel
theorem dX3_partTo_55 : decode cX3_partTo 55 = .ok (.aload_n 0, 1) := by decide +kernel
theorem dX3_partTo_56 : decode cX3_partTo 56 = .ok (.getfield 18, 3) := by decide +kernel
theorem dX3_partTo_59 : decode cX3_partTo 59 = .ok (.iload_n 3, 1) := by decide +kernel
theorem dX3_partTo_60 : decode cX3_partTo 60 = .ok (.iaload, 1) := by decide +kernel
theorem dX3_partTo_61 : decode cX3_partTo 61 = .ok (.isub, 1) := by decide +kernel
theorem dX3_partTo_62 : decode cX3_partTo 62 = .ok (.iastore, 1) := by decide +kernel
theorem dX3_partTo_63 : decode cX3_partTo 63 = .ok (.aload_n 0, 1) := by decide +kernel
theorem dX3_partTo_64 : decode cX3_partTo 64 = .ok (.getfield 21, 3) := by decide +kernel
theorem dX3_partTo_67 : decode cX3_partTo 67 = .ok (.iload 4, 2) := by decide +kernel
theorem dX3_partTo_69 : decode cX3_partTo 69 = .ok (.dup2, 1) := by decide +kernel
theorem dX3_partTo_70 : decode cX3_partTo 70 = .ok (.iaload, 1) := by decide +kernel
theorem dX3_partTo_71 : decode cX3_partTo 71 = .ok (.aload_n 0, 1) := by decide +kernel
theorem dX3_partTo_72 : decode cX3_partTo 72 = .ok (.getfield 21, 3) := by decide +kernel
theorem dX3_partTo_75 : decode cX3_partTo 75 = .ok (.iload_n 3, 1) := by decide +kernel
theorem dX3_partTo_76 : decode cX3_partTo 76 = .ok (.iaload, 1) := by decide +kernel
theorem dX3_partTo_77 : decode cX3_partTo 77 = .ok (.isub, 1) := by decide +kernel
theorem dX3_partTo_78 : decode cX3_partTo 78 = .ok (.iastore, 1) := by decide +kernel
theorem dX3_partTo_79 : decode cX3_partTo 79 = .ok (.aload_n 0, 1) := by decide +kernel
theorem dX3_partTo_80 : decode cX3_partTo 80 = .ok (.getfield 24, 3) := by decide +kernel
theorem dX3_partTo_83 : decode cX3_partTo 83 = .ok (.iload 4, 2) := by decide +kernel
theorem dX3_partTo_85 : decode cX3_partTo 85 = .ok (.dup2, 1) := by decide +kernel
theorem dX3_partTo_86 : decode cX3_partTo 86 = .ok (.iaload, 1) := by decide +kernel
theorem dX3_partTo_87 : decode cX3_partTo 87 = .ok (.aload_n 0, 1) := by decide +kernel
theorem dX3_partTo_88 : decode cX3_partTo 88 = .ok (.getfield 24, 3) := by decide +kernel
theorem dX3_partTo_91 : decode cX3_partTo 91 = .ok (.iload_n 3, 1) := by decide +kernel
theorem dX3_partTo_92 : decode cX3_partTo 92 = .ok (.iaload, 1) := by decide +kernel
theorem dX3_partTo_93 : decode cX3_partTo 93 = .ok (.isub, 1) := by decide +kernel
theorem dX3_partTo_94 : decode cX3_partTo 94 = .ok (.iastore, 1) := by decide +kernel
theorem dX3_partTo_95 : decode cX3_partTo 95 = .ok (.aload_n 0, 1) := by decide +kernel
theorem dX3_partTo_96 : decode cX3_partTo 96 = .ok (.iload_n 2, 1) := by decide +kernel
theorem dX3_partTo_97 : decode cX3_partTo 97 = .ok (.putfield 48, 3) := by decide +kernel
theorem dX3_partTo_100 : decode cX3_partTo 100 = .ok (.iinc 2 (-1), 3) := by decide +kernel
theorem dX3_partTo_103 : decode cX3_partTo 103 = .ok (.goto (-96), 3) := by decide +kernel
theorem dX3_partTo_106 : decode cX3_partTo 106 = .ok (.return_, 1) := by decide +kernel
theorem dX5_liftTile_0 : decode cX5_liftTile 0 = .ok (.aload_n 0, 1) := by decide +kernel
theorem dX5_liftTile_1 : decode cX5_liftTile 1 = .ok (.getfield 69, 3) := by decide +kernel
theorem dX5_liftTile_4 : decode cX5_liftTile 4 = .ok (.iconst 1, 1) := by decide +kernel
theorem dX5_liftTile_5 : decode cX5_liftTile 5 = .ok (.isub, 1) := by decide +kernel
theorem dX5_liftTile_6 : decode cX5_liftTile 6 = .ok (.istore_n 1, 1) := by decide +kernel
theorem dX5_liftTile_7 : decode cX5_liftTile 7 = .ok (.aload_n 0, 1) := by decide +kernel
theorem dX5_liftTile_8 : decode cX5_liftTile 8 = .ok (.getfield 21, 3) := by decide +kernel
theorem dX5_liftTile_11 : decode cX5_liftTile 11 = .ok (.iload_n 1, 1) := by decide +kernel
theorem dX5_liftTile_12 : decode cX5_liftTile 12 = .ok (.iaload, 1) := by decide +kernel
theorem dX5_liftTile_13 : decode cX5_liftTile 13 = .ok (.istore_n 2, 1) := by decide +kernel
theorem dX5_liftTile_14 : decode cX5_liftTile 14 = .ok (.aload_n 0, 1) := by decide +kernel
theorem dX5_liftTile_15 : decode cX5_liftTile 15 = .ok (.getfield 43, 3) := by decide +kernel
theorem dX5_liftTile_18 : decode cX5_liftTile 18 = .ok (.aload_n 0, 1) := by decide +kernel
theorem dX5_liftTile_19 : decode cX5_liftTile 19 = .ok (.getfield 30, 3) := by decide +kernel
theorem dX5_liftTile_22 : decode cX5_liftTile 22 = .ok (.iload_n 1, 1) := by decide +kernel
theorem dX5_liftTile_23 : decode cX5_liftTile 23 = .ok (.iaload, 1) := by decide +kernel
theorem dX5_liftTile_24 : decode cX5_liftTile 24 = .ok (.invokevirtual 96, 3) := by decide +kernel
theorem dX5_liftTile_27 : decode cX5_liftTile 27 = .ok (.iconst 0, 1) := by decide +kernel
theorem dX5_liftTile_28 : decode cX5_liftTile 28 = .ok (.istore_n 3, 1) := by decide +kernel
theorem dX5_liftTile_29 : decode cX5_liftTile 29 = .ok (.iload_n 3, 1) := by decide +kernel
theorem dX5_liftTile_30 : decode cX5_liftTile 30 = .ok (.iconst 4, 1) := by decide +kernel
theorem dX5_liftTile_31 : decode cX5_liftTile 31 = .ok (.if_icmp .ge 32, 3) := by decide +kernel
theorem dX5_liftTile_34 : decode cX5_liftTile 34 = .ok (.aload_n 0, 1) := by decide +kernel
theorem dX5_liftTile_35 : decode cX5_liftTile 35 = .ok (.getfield 15, 3) := by decide +kernel
theorem dX5_liftTile_38 : decode cX5_liftTile 38 = .ok (.iload_n 2, 1) := by decide +kernel
theorem dX5_liftTile_39 : decode cX5_liftTile 39 = .ok (.getstatic 57, 3) := by decide +kernel
theorem dX5_liftTile_42 : decode cX5_liftTile 42 = .ok (.iload_n 3, 1) := by decide +kernel
theorem dX5_liftTile_43 : decode cX5_liftTile 43 = .ok (.iaload, 1) := by decide +kernel
theorem dX5_liftTile_44 : decode cX5_liftTile 44 = .ok (.iadd, 1) := by decide +kernel
theorem dX5_liftTile_45 : decode cX5_liftTile 45 = .ok (.dup2, 1) := by decide +kernel
theorem dX5_liftTile_46 : decode cX5_liftTile 46 = .ok (.iaload, 1) := by decide +kernel
theorem dX5_liftTile_47 : decode cX5_liftTile 47 = .ok (.iconst 1, 1) := by decide +kernel
theorem dX5_liftTile_48 : decode cX5_liftTile 48 = .ok (.isub, 1) := by decide +kernel
theorem dX5_liftTile_49 : decode cX5_liftTile 49 = .ok (.iastore, 1) := by decide +kernel
theorem dX5_liftTile_50 : decode cX5_liftTile 50 = .ok (.aload_n 0, 1) := by decide +kernel
theorem dX5_liftTile_51 : decode cX5_liftTile 51 = .ok (.iload_n 1, 1) := by decide +kernel
theorem dX5_liftTile_52 : decode cX5_liftTile 52 = .ok (.iload_n 3, 1) := by decide +kernel
theorem dX5_liftTile_53 : decode cX5_liftTile 53 = .ok (.iconst 1, 1) := by decide +kernel
theorem dX5_liftTile_54 : decode cX5_liftTile 54 = .ok (.invokevirtual 86, 3) := by decide +kernel
theorem dX5_liftTile_57 : decode cX5_liftTile 57 = .ok (.iinc 3 1, 3) := by decide +kernel
theorem dX5_liftTile_60 : decode cX5_liftTile 60 = .ok (.goto (-31), 3) := by decide +kernel
theorem dX5_liftTile_63 : decode cX5_liftTile 63 = .ok (.iconst 0, 1) := by decide +kernel
theorem dX5_liftTile_64 : decode cX5_liftTile 64 = .ok (.istore_n 3, 1) := by decide +kernel
theorem dX5_liftTile_65 : decode cX5_liftTile 65 = .ok (.iload_n 3, 1) := by decide +kernel
theorem dX5_liftTile_66 : decode cX5_liftTile 66 = .ok (.getstatic 93, 3) := by decide +kernel
theorem dX5_liftTile_69 : decode cX5_liftTile 69 = .ok (.arraylength, 1) := by decide +kernel
theorem dX5_liftTile_70 : decode cX5_liftTile 70 = .ok (.if_icmp .ge 25, 3) := by decide +kernel
theorem dX5_liftTile_73 : decode cX5_liftTile 73 = .ok (.aload_n 0, 1) := by decide +kernel
theorem dX5_liftTile_74 : decode cX5_liftTile 74 = .ok (.getfield 18, 3) := by decide +kernel
theorem dX5_liftTile_77 : decode cX5_liftTile 77 = .ok (.iload_n 2, 1) := by decide +kernel
theorem dX5_liftTile_78 : decode cX5_liftTile 78 = .ok (.getstatic 93, 3) := by decide +kernel
theorem dX5_liftTile_81 : decode cX5_liftTile 81 = .ok (.iload_n 3, 1) := by decide +kernel
theorem dX5_liftTile_82 : decode cX5_liftTile 82 = .ok (.iaload, 1) := by decide +kernel
theorem dX5_liftTile_83 : decode cX5_liftTile 83 = .ok (.iadd, 1) := by decide +kernel
theorem dX5_liftTile_84 : decode cX5_liftTile 84 = .ok (.dup2, 1) := by decide +kernel
theorem dX5_liftTile_85 : decode cX5_liftTile 85 = .ok (.iaload, 1) := by decide +kernel
theorem dX5_liftTile_86 : decode cX5_liftTile 86 = .ok (.iconst 1, 1) := by decide +kernel
theorem dX5_liftTile_87 : decode cX5_liftTile 87 = .ok (.isub, 1) := by decide +kernel
theorem dX5_liftTile_88 : decode cX5_liftTile 88 = .ok (.iastore, 1) := by decide +kernel
theorem dX5_liftTile_89 : decode cX5_liftTile 89 = .ok (.iinc 3 1, 3) := by decide +kernel
theorem dX5_liftTile_92 : decode cX5_liftTile 92 = .ok (.goto (-27), 3) := by decide +kernel
theorem dX5_liftTile_95 : decode cX5_liftTile 95 = .ok (.aload_n 0, 1) := by decide +kernel
theorem dX5_liftTile_96 : decode cX5_liftTile 96 = .ok (.getfield 9, 3) := by decide +kernel
theorem dX5_liftTile_99 : decode cX5_liftTile 99 = .ok (.iload_n 2, 1) := by decide +kernel
theorem dX5_liftTile_100 : decode cX5_liftTile 100 = .ok (.iconst (-1), 1) := by decide +kernel
theorem dX5_liftTile_101 : decode cX5_liftTile 101 = .ok (.iastore, 1) := by decide +kernel
theorem dX5_liftTile_102 : decode cX5_liftTile 102 = .ok (.aload_n 0, 1) := by decide +kernel
theorem dX5_liftTile_103 : decode cX5_liftTile 103 = .ok (.iload_n 1, 1) := by decide +kernel
theorem dX5_liftTile_104 : decode cX5_liftTile 104 = .ok (.putfield 69, 3) := by decide +kernel
theorem dX5_liftTile_107 : decode cX5_liftTile 107 = .ok (.return_, 1) := by decide +kernel
theorem dX2_stepBack_0 : decode cX2_stepBack 0 = .ok (.aload_n 0, 1) := by decide +kernel
theorem dX2_stepBack_1 : decode cX2_stepBack 1 = .ok (.getfield 32, 3) := by decide +kernel
theorem dX2_stepBack_4 : decode cX2_stepBack 4 = .ok (.getfield 74, 3) := by decide +kernel
theorem dX2_stepBack_7 : decode cX2_stepBack 7 = .ok (.ifCond .ne 4, 3) := by decide +kernel
theorem dX2_stepBack_10 : decode cX2_stepBack 10 = .ok (.return_, 1) := by decide +kernel
theorem dX2_stepBack_11 : decode cX2_stepBack 11 = .ok (.aload_n 0, 1) := by decide +kernel
theorem dX2_stepBack_12 : decode cX2_stepBack 12 = .ok (.getfield 71, 3) := by decide +kernel
theorem dX2_stepBack_15 : decode cX2_stepBack 15 = .ok (.ifCond .eq 39, 3) := by decide +kernel
theorem dX2_stepBack_18 : decode cX2_stepBack 18 = .ok (.aload_n 0, 1) := by decide +kernel
theorem dX2_stepBack_19 : decode cX2_stepBack 19 = .ok (.aload_n 0, 1) := by decide +kernel
theorem dX2_stepBack_20 : decode cX2_stepBack 20 = .ok (.getfield 32, 3) := by decide +kernel
theorem dX2_stepBack_23 : decode cX2_stepBack 23 = .ok (.getfield 148, 3) := by decide +kernel
theorem dX2_stepBack_26 : decode cX2_stepBack 26 = .ok (.aload_n 0, 1) := by decide +kernel
theorem dX2_stepBack_27 : decode cX2_stepBack 27 = .ok (.getfield 32, 3) := by decide +kernel
theorem dX2_stepBack_30 : decode cX2_stepBack 30 = .ok (.getfield 74, 3) := by decide +kernel
theorem dX2_stepBack_33 : decode cX2_stepBack 33 = .ok (.iconst 1, 1) := by decide +kernel
theorem dX2_stepBack_34 : decode cX2_stepBack 34 = .ok (.isub, 1) := by decide +kernel
theorem dX2_stepBack_35 : decode cX2_stepBack 35 = .ok (.iaload, 1) := by decide +kernel
theorem dX2_stepBack_36 : decode cX2_stepBack 36 = .ok (.putfield 9, 3) := by decide +kernel
theorem dX2_stepBack_39 : decode cX2_stepBack 39 = .ok (.aload_n 0, 1) := by decide +kernel
theorem dX2_stepBack_40 : decode cX2_stepBack 40 = .ok (.getfield 32, 3) := by decide +kernel
theorem dX2_stepBack_43 : decode cX2_stepBack 43 = .ok (.invokevirtual 151, 3) := by decide +kernel
theorem dX2_stepBack_46 : decode cX2_stepBack 46 = .ok (.aload_n 0, 1) := by decide +kernel
theorem dX2_stepBack_47 : decode cX2_stepBack 47 = .ok (.iconst 0, 1) := by decide +kernel
theorem dX2_stepBack_48 : decode cX2_stepBack 48 = .ok (.putfield 71, 3) := by decide +kernel
theorem dX2_stepBack_51 : decode cX2_stepBack 51 = .ok (.goto 17, 3) := by decide +kernel
theorem dX2_stepBack_54 : decode cX2_stepBack 54 = .ok (.aload_n 0, 1) := by decide +kernel
theorem dX2_stepBack_55 : decode cX2_stepBack 55 = .ok (.iconst (-1), 1) := by decide +kernel
theorem dX2_stepBack_56 : decode cX2_stepBack 56 = .ok (.putfield 9, 3) := by decide +kernel
theorem dX2_stepBack_59 : decode cX2_stepBack 59 = .ok (.aload_n 0, 1) := by decide +kernel
theorem dX2_stepBack_60 : decode cX2_stepBack 60 = .ok (.invokevirtual 154, 3) := by decide +kernel
theorem dX2_stepBack_63 : decode cX2_stepBack 63 = .ok (.aload_n 0, 1) := by decide +kernel
theorem dX2_stepBack_64 : decode cX2_stepBack 64 = .ok (.iconst 1, 1) := by decide +kernel
theorem dX2_stepBack_65 : decode cX2_stepBack 65 = .ok (.putfield 71, 3) := by decide +kernel
theorem dX2_stepBack_68 : decode cX2_stepBack 68 = .ok (.return_, 1) := by decide +kernel
theorem dJ7_fill_0 : decode cJ7_fill 0 = .ok (.iconst 0, 1) := by decide +kernel
theorem dJ7_fill_1 : decode cJ7_fill 1 = .ok (.istore_n 2, 1) := by decide +kernel
theorem dJ7_fill_2 : decode cJ7_fill 2 = .ok (.aload_n 0, 1) := by decide +kernel
theorem dJ7_fill_3 : decode cJ7_fill 3 = .ok (.arraylength, 1) := by decide +kernel
theorem dJ7_fill_4 : decode cJ7_fill 4 = .ok (.istore_n 3, 1) := by decide +kernel
theorem dJ7_fill_5 : decode cJ7_fill 5 = .ok (.iload_n 2, 1) := by decide +kernel
theorem dJ7_fill_6 : decode cJ7_fill 6 = .ok (.iload_n 3, 1) := by decide +kernel
theorem dJ7_fill_7 : decode cJ7_fill 7 = .ok (.if_icmp .ge 13, 3) := by decide +kernel
theorem dJ7_fill_10 : decode cJ7_fill 10 = .ok (.aload_n 0, 1) := by decide +kernel
theorem dJ7_fill_11 : decode cJ7_fill 11 = .ok (.iload_n 2, 1) := by decide +kernel
theorem dJ7_fill_12 : decode cJ7_fill 12 = .ok (.iload_n 1, 1) := by decide +kernel
theorem dJ7_fill_13 : decode cJ7_fill 13 = .ok (.iastore, 1) := by decide +kernel
theorem dJ7_fill_14 : decode cJ7_fill 14 = .ok (.iinc 2 1, 3) := by decide +kernel
theorem dJ7_fill_17 : decode cJ7_fill 17 = .ok (.goto (-12), 3) := by decide +kernel
theorem dJ7_fill_20 : decode cJ7_fill 20 = .ok (.return_, 1) := by decide +kernel
theorem dX2_steps_0 : decode cX2_steps 0 = .ok (.aload_n 0, 1) := by decide +kernel
theorem dX2_steps_1 : decode cX2_steps 1 = .ok (.getfield 71, 3) := by decide +kernel
theorem dX2_steps_4 : decode cX2_steps 4 = .ok (.ifCond .eq 17, 3) := by decide +kernel
theorem dX2_steps_7 : decode cX2_steps 7 = .ok (.iconst 2, 1) := by decide +kernel
theorem dX2_steps_8 : decode cX2_steps 8 = .ok (.aload_n 0, 1) := by decide +kernel
theorem dX2_steps_9 : decode cX2_steps 9 = .ok (.getfield 32, 3) := by decide +kernel
theorem dX2_steps_12 : decode cX2_steps 12 = .ok (.getfield 74, 3) := by decide +kernel
theorem dX2_steps_15 : decode cX2_steps 15 = .ok (.imul, 1) := by decide +kernel
theorem dX2_steps_16 : decode cX2_steps 16 = .ok (.iconst 1, 1) := by decide +kernel
theorem dX2_steps_17 : decode cX2_steps 17 = .ok (.isub, 1) := by decide +kernel
theorem dX2_steps_18 : decode cX2_steps 18 = .ok (.goto 12, 3) := by decide +kernel
theorem dX2_steps_21 : decode cX2_steps 21 = .ok (.iconst 2, 1) := by decide +kernel
theorem dX2_steps_22 : decode cX2_steps 22 = .ok (.aload_n 0, 1) := by decide +kernel
theorem dX2_steps_23 : decode cX2_steps 23 = .ok (.getfield 32, 3) := by decide +kernel
theorem dX2_steps_26 : decode cX2_steps 26 = .ok (.getfield 74, 3) := by decide +kernel
theorem dX2_steps_29 : decode cX2_steps 29 = .ok (.imul, 1) := by decide +kernel
theorem dX2_steps_30 : decode cX2_steps 30 = .ok (.ireturn, 1) := by decide +kernel
theorem dX2_end_0 : decode cX2_end 0 = .ok (.aload_n 0, 1) := by decide +kernel
theorem dX2_end_1 : decode cX2_end 1 = .ok (.invokevirtual 49, 3) := by decide +kernel
theorem dX2_end_4 : decode cX2_end 4 = .ok (.istore_n 1, 1) := by decide +kernel
theorem dX2_end_5 : decode cX2_end 5 = .ok (.iload_n 1, 1) := by decide +kernel
theorem dX2_end_6 : decode cX2_end 6 = .ok (.ifCond .le 13, 3) := by decide +kernel
theorem dX2_end_9 : decode cX2_end 9 = .ok (.aload_n 0, 1) := by decide +kernel
theorem dX2_end_10 : decode cX2_end 10 = .ok (.invokevirtual 53, 3) := by decide +kernel
theorem dX2_end_13 : decode cX2_end 13 = .ok (.iinc 1 (-1), 3) := by decide +kernel
theorem dX2_end_16 : decode cX2_end 16 = .ok (.goto (-11), 3) := by decide +kernel
theorem dX2_end_19 : decode cX2_end 19 = .ok (.aload_n 0, 1) := by decide +kernel
theorem dX2_end_20 : decode cX2_end 20 = .ok (.iconst 0, 1) := by decide +kernel
theorem dX2_end_21 : decode cX2_end 21 = .ok (.putfield 39, 3) := by decide +kernel
theorem dX2_end_24 : decode cX2_end 24 = .ok (.aload_n 0, 1) := by decide +kernel
theorem dX2_end_25 : decode cX2_end 25 = .ok (.iconst (-1), 1) := by decide +kernel
theorem dX2_end_26 : decode cX2_end 26 = .ok (.putfield 9, 3) := by decide +kernel
theorem dX2_end_29 : decode cX2_end 29 = .ok (.aload_n 0, 1) := by decide +kernel
theorem dX2_end_30 : decode cX2_end 30 = .ok (.iconst 0, 1) := by decide +kernel
theorem dX2_end_31 : decode cX2_end 31 = .ok (.putfield 56, 3) := by decide +kernel
theorem dX2_end_34 : decode cX2_end 34 = .ok (.aload_n 0, 1) := by decide +kernel
theorem dX2_end_35 : decode cX2_end 35 = .ok (.iconst 0, 1) := by decide +kernel
theorem dX2_end_36 : decode cX2_end 36 = .ok (.putfield 59, 3) := by decide +kernel
theorem dX2_end_39 : decode cX2_end 39 = .ok (.aload_n 0, 1) := by decide +kernel
theorem dX2_end_40 : decode cX2_end 40 = .ok (.iconst 0, 1) := by decide +kernel
theorem dX2_end_41 : decode cX2_end 41 = .ok (.putfield 62, 3) := by decide +kernel
theorem dX2_end_44 : decode cX2_end 44 = .ok (.aload_n 0, 1) := by decide +kernel
theorem dX2_end_45 : decode cX2_end 45 = .ok (.getfield 15, 3) := by decide +kernel
theorem dX2_end_48 : decode cX2_end 48 = .ok (.iconst 0, 1) := by decide +kernel
theorem dX2_end_49 : decode cX2_end 49 = .ok (.invokestatic 65, 3) := by decide +kernel
theorem dX2_end_52 : decode cX2_end 52 = .ok (.aload_n 0, 1) := by decide +kernel
theorem dX2_end_53 : decode cX2_end 53 = .ok (.getfield 19, 3) := by decide +kernel
theorem dX2_end_56 : decode cX2_end 56 = .ok (.bipush 7, 2) := by decide +kernel
theorem dX2_end_58 : decode cX2_end 58 = .ok (.invokestatic 65, 3) := by decide +kernel
theorem dX2_end_61 : decode cX2_end 61 = .ok (.return_, 1) := by decide +kernel
theorem dX5_sidesMatch_0 : decode cX5_sidesMatch 0 = .ok (.iconst 0, 1) := by decide +kernel
theorem dX5_sidesMatch_1 : decode cX5_sidesMatch 1 = .ok (.istore 4, 2) := by decide +kernel
theorem dX5_sidesMatch_3 : decode cX5_sidesMatch 3 = .ok (.iload 4, 2) := by decide +kernel
theorem dX5_sidesMatch_5 : decode cX5_sidesMatch 5 = .ok (.iconst 4, 1) := by decide +kernel
theorem dX5_sidesMatch_6 : decode cX5_sidesMatch 6 = .ok (.if_icmp .ge 100, 3) := by decide +kernel
theorem dX5_sidesMatch_9 : decode cX5_sidesMatch 9 = .ok (.aload_n 0, 1) := by decide +kernel
theorem dX5_sidesMatch_10 : decode cX5_sidesMatch 10 = .ok (.getfield 9, 3) := by decide +kernel
theorem dX5_sidesMatch_13 : decode cX5_sidesMatch 13 = .ok (.iload_n 2, 1) := by decide +kernel
theorem dX5_sidesMatch_14 : decode cX5_sidesMatch 14 = .ok (.getstatic 57, 3) := by decide +kernel
theorem dX5_sidesMatch_17 : decode cX5_sidesMatch 17 = .ok (.iload 4, 2) := by decide +kernel
theorem dX5_sidesMatch_19 : decode cX5_sidesMatch 19 = .ok (.iaload, 1) := by decide +kernel
theorem dX5_sidesMatch_20 : decode cX5_sidesMatch 20 = .ok (.iadd, 1) := by decide +kernel
theorem dX5_sidesMatch_21 : decode cX5_sidesMatch 21 = .ok (.iaload, 1) := by decide +kernel
theorem dX5_sidesMatch_22 : decode cX5_sidesMatch 22 = .ok (.istore 5, 2) := by decide +kernel
theorem dX5_sidesMatch_24 : decode cX5_sidesMatch 24 = .ok (.iload 5, 2) := by decide +kernel
theorem dX5_sidesMatch_26 : decode cX5_sidesMatch 26 = .ok (.iconst (-1), 1) := by decide +kernel
theorem dX5_sidesMatch_27 : decode cX5_sidesMatch 27 = .ok (.if_icmp .ne 6, 3) := by decide +kernel
theorem dX5_sidesMatch_30 : decode cX5_sidesMatch 30 = .ok (.goto 70, 3) := by decide +kernel
theorem dX5_sidesMatch_33 : decode cX5_sidesMatch 33 = .ok (.iload 4, 2) := by decide +kernel
theorem dX5_sidesMatch_35 : decode cX5_sidesMatch 35 = .ok (.iconst 4, 1) := by decide +kernel
theorem dX5_sidesMatch_36 : decode cX5_sidesMatch 36 = .ok (.iadd, 1) := by decide +kernel
theorem dX5_sidesMatch_37 : decode cX5_sidesMatch 37 = .ok (.iload_n 3, 1) := by decide +kernel
theorem dX5_sidesMatch_38 : decode cX5_sidesMatch 38 = .ok (.isub, 1) := by decide +kernel
theorem dX5_sidesMatch_39 : decode cX5_sidesMatch 39 = .ok (.iconst 4, 1) := by decide +kernel
theorem dX5_sidesMatch_40 : decode cX5_sidesMatch 40 = .ok (.irem, 1) := by decide +kernel
theorem dX5_sidesMatch_41 : decode cX5_sidesMatch 41 = .ok (.istore 6, 2) := by decide +kernel
theorem dX5_sidesMatch_43 : decode cX5_sidesMatch 43 = .ok (.iload 4, 2) := by decide +kernel
theorem dX5_sidesMatch_45 : decode cX5_sidesMatch 45 = .ok (.iconst 2, 1) := by decide +kernel
theorem dX5_sidesMatch_46 : decode cX5_sidesMatch 46 = .ok (.iadd, 1) := by decide +kernel
theorem dX5_sidesMatch_47 : decode cX5_sidesMatch 47 = .ok (.iconst 4, 1) := by decide +kernel
theorem dX5_sidesMatch_48 : decode cX5_sidesMatch 48 = .ok (.iadd, 1) := by decide +kernel
theorem dX5_sidesMatch_49 : decode cX5_sidesMatch 49 = .ok (.aload_n 0, 1) := by decide +kernel
theorem dX5_sidesMatch_50 : decode cX5_sidesMatch 50 = .ok (.getfield 27, 3) := by decide +kernel
theorem dX5_sidesMatch_53 : decode cX5_sidesMatch 53 = .ok (.iload 5, 2) := by decide +kernel
theorem dX5_sidesMatch_55 : decode cX5_sidesMatch 55 = .ok (.iaload, 1) := by decide +kernel
theorem dX5_sidesMatch_56 : decode cX5_sidesMatch 56 = .ok (.isub, 1) := by decide +kernel
theorem dX5_sidesMatch_57 : decode cX5_sidesMatch 57 = .ok (.iconst 4, 1) := by decide +kernel
theorem dX5_sidesMatch_58 : decode cX5_sidesMatch 58 = .ok (.irem, 1) := by decide +kernel
theorem dX5_sidesMatch_59 : decode cX5_sidesMatch 59 = .ok (.istore 7, 2) := by decide +kernel
theorem dX5_sidesMatch_61 : decode cX5_sidesMatch 61 = .ok (.aload_n 0, 1) := by decide +kernel
theorem dX5_sidesMatch_62 : decode cX5_sidesMatch 62 = .ok (.getfield 36, 3) := by decide +kernel
theorem dX5_sidesMatch_65 : decode cX5_sidesMatch 65 = .ok (.getfield 60, 3) := by decide +kernel
theorem dX5_sidesMatch_68 : decode cX5_sidesMatch 68 = .ok (.iload_n 1, 1) := by decide +kernel
theorem dX5_sidesMatch_69 : decode cX5_sidesMatch 69 = .ok (.iconst 4, 1) := by decide +kernel
theorem dX5_sidesMatch_70 : decode cX5_sidesMatch 70 = .ok (.imul, 1) := by decide +kernel
theorem dX5_sidesMatch_71 : decode cX5_sidesMatch 71 = .ok (.iload 6, 2) := by decide +kernel
theorem dX5_sidesMatch_73 : decode cX5_sidesMatch 73 = .ok (.iadd, 1) := by decide +kernel
theorem dX5_sidesMatch_74 : decode cX5_sidesMatch 74 = .ok (.iaload, 1) := by decide +kernel
theorem dX5_sidesMatch_75 : decode cX5_sidesMatch 75 = .ok (.aload_n 0, 1) := by decide +kernel
theorem dX5_sidesMatch_76 : decode cX5_sidesMatch 76 = .ok (.getfield 36, 3) := by decide +kernel
theorem dX5_sidesMatch_79 : decode cX5_sidesMatch 79 = .ok (.getfield 60, 3) := by decide +kernel
theorem dX5_sidesMatch_82 : decode cX5_sidesMatch 82 = .ok (.aload_n 0, 1) := by decide +kernel
theorem dX5_sidesMatch_83 : decode cX5_sidesMatch 83 = .ok (.getfield 24, 3) := by decide +kernel
theorem dX5_sidesMatch_86 : decode cX5_sidesMatch 86 = .ok (.iload 5, 2) := by decide +kernel
theorem dX5_sidesMatch_88 : decode cX5_sidesMatch 88 = .ok (.iaload, 1) := by decide +kernel
theorem dX5_sidesMatch_89 : decode cX5_sidesMatch 89 = .ok (.iconst 4, 1) := by decide +kernel
theorem dX5_sidesMatch_90 : decode cX5_sidesMatch 90 = .ok (.imul, 1) := by decide +kernel
theorem dX5_sidesMatch_91 : decode cX5_sidesMatch 91 = .ok (.iload 7, 2) := by decide +kernel
theorem dX5_sidesMatch_93 : decode cX5_sidesMatch 93 = .ok (.iadd, 1) := by decide +kernel
theorem dX5_sidesMatch_94 : decode cX5_sidesMatch 94 = .ok (.iaload, 1) := by decide +kernel
theorem dX5_sidesMatch_95 : decode cX5_sidesMatch 95 = .ok (.if_icmp .eq 5, 3) := by decide +kernel
theorem dX5_sidesMatch_98 : decode cX5_sidesMatch 98 = .ok (.iconst 0, 1) := by decide +kernel
theorem dX5_sidesMatch_99 : decode cX5_sidesMatch 99 = .ok (.ireturn, 1) := by decide +kernel
theorem dX5_sidesMatch_100 : decode cX5_sidesMatch 100 = .ok (.iinc 4 1, 3) := by decide +kernel
theorem dX5_sidesMatch_103 : decode cX5_sidesMatch 103 = .ok (.goto (-100), 3) := by decide +kernel
theorem dX5_sidesMatch_106 : decode cX5_sidesMatch 106 = .ok (.iconst 1, 1) := by decide +kernel
theorem dX5_sidesMatch_107 : decode cX5_sidesMatch 107 = .ok (.ireturn, 1) := by decide +kernel
theorem dX5_nextFit_0 : decode cX5_nextFit 0 = .ok (.iload_n 2, 1) := by decide +kernel
theorem dX5_nextFit_1 : decode cX5_nextFit 1 = .ok (.istore_n 3, 1) := by decide +kernel
theorem dX5_nextFit_2 : decode cX5_nextFit 2 = .ok (.iload_n 3, 1) := by decide +kernel
theorem dX5_nextFit_3 : decode cX5_nextFit 3 = .ok (.sipush 1764, 3) := by decide +kernel
theorem dX5_nextFit_6 : decode cX5_nextFit 6 = .ok (.if_icmp .ge 60, 3) := by decide +kernel
theorem dX5_nextFit_9 : decode cX5_nextFit 9 = .ok (.iload_n 3, 1) := by decide +kernel
theorem dX5_nextFit_10 : decode cX5_nextFit 10 = .ok (.iconst 4, 1) := by decide +kernel
theorem dX5_nextFit_11 : decode cX5_nextFit 11 = .ok (.idiv, 1) := by decide +kernel
theorem dX5_nextFit_12 : decode cX5_nextFit 12 = .ok (.istore 4, 2) := by decide +kernel
theorem dX5_nextFit_14 : decode cX5_nextFit 14 = .ok (.aload_n 0, 1) := by decide +kernel
theorem dX5_nextFit_15 : decode cX5_nextFit 15 = .ok (.getfield 15, 3) := by decide +kernel
theorem dX5_nextFit_18 : decode cX5_nextFit 18 = .ok (.iload 4, 2) := by decide +kernel
theorem dX5_nextFit_20 : decode cX5_nextFit 20 = .ok (.iaload, 1) := by decide +kernel
theorem dX5_nextFit_21 : decode cX5_nextFit 21 = .ok (.ifCond .le 14, 3) := by decide +kernel
theorem dX5_nextFit_24 : decode cX5_nextFit 24 = .ok (.aload_n 0, 1) := by decide +kernel
theorem dX5_nextFit_25 : decode cX5_nextFit 25 = .ok (.getfield 9, 3) := by decide +kernel
theorem dX5_nextFit_28 : decode cX5_nextFit 28 = .ok (.iload 4, 2) := by decide +kernel
theorem dX5_nextFit_30 : decode cX5_nextFit 30 = .ok (.iaload, 1) := by decide +kernel
theorem dX5_nextFit_31 : decode cX5_nextFit 31 = .ok (.iconst (-1), 1) := by decide +kernel
theorem dX5_nextFit_32 : decode cX5_nextFit 32 = .ok (.if_icmp .eq 13, 3) := by decide +kernel
theorem dX5_nextFit_35 : decode cX5_nextFit 35 = .ok (.iload 4, 2) := by decide +kernel
theorem dX5_nextFit_37 : decode cX5_nextFit 37 = .ok (.iconst 1, 1) := by decide +kernel
theorem dX5_nextFit_38 : decode cX5_nextFit 38 = .ok (.iadd, 1) := by decide +kernel
theorem dX5_nextFit_39 : decode cX5_nextFit 39 = .ok (.iconst 4, 1) := by decide +kernel
theorem dX5_nextFit_40 : decode cX5_nextFit 40 = .ok (.imul, 1) := by decide +kernel
theorem dX5_nextFit_41 : decode cX5_nextFit 41 = .ok (.istore_n 3, 1) := by decide +kernel
theorem dX5_nextFit_42 : decode cX5_nextFit 42 = .ok (.goto 21, 3) := by decide +kernel
theorem dX5_nextFit_45 : decode cX5_nextFit 45 = .ok (.aload_n 0, 1) := by decide +kernel
theorem dX5_nextFit_46 : decode cX5_nextFit 46 = .ok (.iload_n 1, 1) := by decide +kernel
theorem dX5_nextFit_47 : decode cX5_nextFit 47 = .ok (.iload 4, 2) := by decide +kernel
theorem dX5_nextFit_49 : decode cX5_nextFit 49 = .ok (.iload_n 3, 1) := by decide +kernel
theorem dX5_nextFit_50 : decode cX5_nextFit 50 = .ok (.iconst 4, 1) := by decide +kernel
theorem dX5_nextFit_51 : decode cX5_nextFit 51 = .ok (.irem, 1) := by decide +kernel
theorem dX5_nextFit_52 : decode cX5_nextFit 52 = .ok (.invokevirtual 53, 3) := by decide +kernel
theorem dX5_nextFit_55 : decode cX5_nextFit 55 = .ok (.ifCond .eq 5, 3) := by decide +kernel
theorem dX5_nextFit_58 : decode cX5_nextFit 58 = .ok (.iload_n 3, 1) := by decide +kernel
theorem dX5_nextFit_59 : decode cX5_nextFit 59 = .ok (.ireturn, 1) := by decide +kernel
theorem dX5_nextFit_60 : decode cX5_nextFit 60 = .ok (.iinc 3 1, 3) := by decide +kernel
theorem dX5_nextFit_63 : decode cX5_nextFit 63 = .ok (.goto (-61), 3) := by decide +kernel
theorem dX5_nextFit_66 : decode cX5_nextFit 66 = .ok (.iconst (-1), 1) := by decide +kernel
theorem dX5_nextFit_67 : decode cX5_nextFit 67 = .ok (.ireturn, 1) := by decide +kernel
theorem dX2_drawNext_0 : decode cX2_drawNext 0 = .ok (.aload_n 0, 1) := by decide +kernel
theorem dX2_drawNext_1 : decode cX2_drawNext 1 = .ok (.getfield 59, 3) := by decide +kernel
theorem dX2_drawNext_4 : decode cX2_drawNext 4 = .ok (.istore_n 1, 1) := by decide +kernel
theorem dX2_drawNext_5 : decode cX2_drawNext 5 = .ok (.iload_n 1, 1) := by decide +kernel
theorem dX2_drawNext_6 : decode cX2_drawNext 6 = .ok (.aload_n 0, 1) := by decide +kernel
theorem dX2_drawNext_7 : decode cX2_drawNext 7 = .ok (.getfield 28, 3) := by decide +kernel
theorem dX2_drawNext_10 : decode cX2_drawNext 10 = .ok (.getfield 137, 3) := by decide +kernel
theorem dX2_drawNext_13 : decode cX2_drawNext 13 = .ok (.if_icmp .ge 71, 3) := by decide +kernel
theorem dX2_drawNext_16 : decode cX2_drawNext 16 = .ok (.aload_n 0, 1) := by decide +kernel
theorem dX2_drawNext_17 : decode cX2_drawNext 17 = .ok (.getfield 9, 3) := by decide +kernel
theorem dX2_drawNext_20 : decode cX2_drawNext 20 = .ok (.iconst (-1), 1) := by decide +kernel
theorem dX2_drawNext_21 : decode cX2_drawNext 21 = .ok (.if_icmp .ne 63, 3) := by decide +kernel
theorem dX2_drawNext_24 : decode cX2_drawNext 24 = .ok (.aload_n 0, 1) := by decide +kernel
theorem dX2_drawNext_25 : decode cX2_drawNext 25 = .ok (.iload_n 1, 1) := by decide +kernel
theorem dX2_drawNext_26 : decode cX2_drawNext 26 = .ok (.iconst 1, 1) := by decide +kernel
theorem dX2_drawNext_27 : decode cX2_drawNext 27 = .ok (.iadd, 1) := by decide +kernel
theorem dX2_drawNext_28 : decode cX2_drawNext 28 = .ok (.putfield 59, 3) := by decide +kernel
theorem dX2_drawNext_31 : decode cX2_drawNext 31 = .ok (.aload_n 0, 1) := by decide +kernel
theorem dX2_drawNext_32 : decode cX2_drawNext 32 = .ok (.getfield 32, 3) := by decide +kernel
theorem dX2_drawNext_35 : decode cX2_drawNext 35 = .ok (.aload_n 0, 1) := by decide +kernel
theorem dX2_drawNext_36 : decode cX2_drawNext 36 = .ok (.getfield 28, 3) := by decide +kernel
theorem dX2_drawNext_39 : decode cX2_drawNext 39 = .ok (.getfield 142, 3) := by decide +kernel
theorem dX2_drawNext_42 : decode cX2_drawNext 42 = .ok (.iload_n 1, 1) := by decide +kernel
theorem dX2_drawNext_43 : decode cX2_drawNext 43 = .ok (.iaload, 1) := by decide +kernel
theorem dX2_drawNext_44 : decode cX2_drawNext 44 = .ok (.iconst 0, 1) := by decide +kernel
theorem dX2_drawNext_45 : decode cX2_drawNext 45 = .ok (.invokevirtual 145, 3) := by decide +kernel
theorem dX2_drawNext_48 : decode cX2_drawNext 48 = .ok (.iconst (-1), 1) := by decide +kernel
theorem dX2_drawNext_49 : decode cX2_drawNext 49 = .ok (.if_icmp .ne 16, 3) := by decide +kernel
theorem dX2_drawNext_52 : decode cX2_drawNext 52 = .ok (.aload_n 0, 1) := by decide +kernel
theorem dX2_drawNext_53 : decode cX2_drawNext 53 = .ok (.dup, 1) := by decide +kernel
theorem dX2_drawNext_54 : decode cX2_drawNext 54 = .ok (.getfield 62, 3) := by decide +kernel
theorem dX2_drawNext_57 : decode cX2_drawNext 57 = .ok (.iconst 1, 1) := by decide +kernel
theorem dX2_drawNext_58 : decode cX2_drawNext 58 = .ok (.iadd, 1) := by decide +kernel
theorem dX2_drawNext_59 : decode cX2_drawNext 59 = .ok (.putfield 62, 3) := by decide +kernel
theorem dX2_drawNext_62 : decode cX2_drawNext 62 = .ok (.goto 16, 3) := by decide +kernel
theorem dX2_drawNext_65 : decode cX2_drawNext 65 = .ok (.aload_n 0, 1) := by decide +kernel
theorem dX2_drawNext_66 : decode cX2_drawNext 66 = .ok (.aload_n 0, 1) := by decide +kernel
theorem dX2_drawNext_67 : decode cX2_drawNext 67 = .ok (.getfield 28, 3) := by decide +kernel
theorem dX2_drawNext_70 : decode cX2_drawNext 70 = .ok (.getfield 142, 3) := by decide +kernel
theorem dX2_drawNext_73 : decode cX2_drawNext 73 = .ok (.iload_n 1, 1) := by decide +kernel
theorem dX2_drawNext_74 : decode cX2_drawNext 74 = .ok (.iaload, 1) := by decide +kernel
theorem dX2_drawNext_75 : decode cX2_drawNext 75 = .ok (.putfield 9, 3) := by decide +kernel
theorem dX2_drawNext_78 : decode cX2_drawNext 78 = .ok (.iinc 1 1, 3) := by decide +kernel
theorem dX2_drawNext_81 : decode cX2_drawNext 81 = .ok (.goto (-76), 3) := by decide +kernel
theorem dX2_drawNext_84 : decode cX2_drawNext 84 = .ok (.return_, 1) := by decide +kernel
theorem dX2_begin_0 : decode cX2_begin 0 = .ok (.aload_n 0, 1) := by decide +kernel
theorem dX2_begin_1 : decode cX2_begin 1 = .ok (.invokevirtual 36, 3) := by decide +kernel
theorem dX2_begin_4 : decode cX2_begin 4 = .ok (.aload_n 0, 1) := by decide +kernel
theorem dX2_begin_5 : decode cX2_begin 5 = .ok (.iconst 1, 1) := by decide +kernel
theorem dX2_begin_6 : decode cX2_begin 6 = .ok (.putfield 39, 3) := by decide +kernel
theorem dX2_begin_9 : decode cX2_begin 9 = .ok (.aload_n 0, 1) := by decide +kernel
theorem dX2_begin_10 : decode cX2_begin 10 = .ok (.iload_n 1, 1) := by decide +kernel
theorem dX2_begin_11 : decode cX2_begin 11 = .ok (.putfield 43, 3) := by decide +kernel
theorem dX2_begin_14 : decode cX2_begin 14 = .ok (.aload_n 0, 1) := by decide +kernel
theorem dX2_begin_15 : decode cX2_begin 15 = .ok (.invokevirtual 46, 3) := by decide +kernel
theorem dX2_begin_18 : decode cX2_begin 18 = .ok (.return_, 1) := by decide +kernel
theorem dX6_start_0 : decode cX6_start 0 = .ok (.iload_n 1, 1) := by decide +kernel
theorem dX6_start_1 : decode cX6_start 1 = .ok (.iconst 2, 1) := by decide +kernel
theorem dX6_start_2 : decode cX6_start 2 = .ok (.if_icmp .lt 18, 3) := by decide +kernel
theorem dX6_start_5 : decode cX6_start 5 = .ok (.iload_n 1, 1) := by decide +kernel
theorem dX6_start_6 : decode cX6_start 6 = .ok (.iconst 3, 1) := by decide +kernel
theorem dX6_start_7 : decode cX6_start 7 = .ok (.if_icmp .gt 13, 3) := by decide +kernel
theorem dX6_start_10 : decode cX6_start 10 = .ok (.aload_n 0, 1) := by decide +kernel
theorem dX6_start_11 : decode cX6_start 11 = .ok (.getfield 12, 3) := by decide +kernel
theorem dX6_start_14 : decode cX6_start 14 = .ok (.getfield 59, 3) := by decide +kernel
theorem dX6_start_17 : decode cX6_start 17 = .ok (.ifCond .ne 5, 3) := by decide +kernel
theorem dX6_start_20 : decode cX6_start 20 = .ok (.iconst 0, 1) := by decide +kernel
theorem dX6_start_21 : decode cX6_start 21 = .ok (.ireturn, 1) := by decide +kernel
theorem dX6_start_22 : decode cX6_start 22 = .ok (.aload_n 0, 1) := by decide +kernel
theorem dX6_start_23 : decode cX6_start 23 = .ok (.getfield 39, 3) := by decide +kernel
theorem dX6_start_26 : decode cX6_start 26 = .ok (.invokevirtual 66, 3) := by decide +kernel
theorem dX6_start_29 : decode cX6_start 29 = .ok (.aload_n 0, 1) := by decide +kernel
theorem dX6_start_30 : decode cX6_start 30 = .ok (.getfield 30, 3) := by decide +kernel
theorem dX6_start_33 : decode cX6_start 33 = .ok (.iload_n 1, 1) := by decide +kernel
theorem dX6_start_34 : decode cX6_start 34 = .ok (.invokevirtual 69, 3) := by decide +kernel
theorem dX6_start_37 : decode cX6_start 37 = .ok (.iconst 1, 1) := by decide +kernel
theorem dX6_start_38 : decode cX6_start 38 = .ok (.ireturn, 1) := by decide +kernel
theorem dX0_forget_0 : decode cX0_forget 0 = .ok (.aload_n 0, 1) := by decide +kernel
theorem dX0_forget_1 : decode cX0_forget 1 = .ok (.iconst 0, 1) := by decide +kernel
theorem dX0_forget_2 : decode cX0_forget 2 = .ok (.putfield 64, 3) := by decide +kernel
theorem dX0_forget_5 : decode cX0_forget 5 = .ok (.aload_n 0, 1) := by decide +kernel
theorem dX0_forget_6 : decode cX0_forget 6 = .ok (.iconst 0, 1) := by decide +kernel
theorem dX0_forget_7 : decode cX0_forget 7 = .ok (.putfield 68, 3) := by decide +kernel
theorem dX0_forget_10 : decode cX0_forget 10 = .ok (.return_, 1) := by decide +kernel
theorem dX6_clear_0 : decode cX6_clear 0 = .ok (.aload_n 0, 1) := by decide +kernel
theorem dX6_clear_1 : decode cX6_clear 1 = .ok (.getfield 39, 3) := by decide +kernel
theorem dX6_clear_4 : decode cX6_clear 4 = .ok (.invokevirtual 66, 3) := by decide +kernel
theorem dX6_clear_7 : decode cX6_clear 7 = .ok (.aload_n 0, 1) := by decide +kernel
theorem dX6_clear_8 : decode cX6_clear 8 = .ok (.getfield 30, 3) := by decide +kernel
theorem dX6_clear_11 : decode cX6_clear 11 = .ok (.invokevirtual 73, 3) := by decide +kernel
theorem dX6_clear_14 : decode cX6_clear 14 = .ok (.aload_n 0, 1) := by decide +kernel
theorem dX6_clear_15 : decode cX6_clear 15 = .ok (.getfield 12, 3) := by decide +kernel
theorem dX6_clear_18 : decode cX6_clear 18 = .ok (.invokevirtual 76, 3) := by decide +kernel
theorem dX6_clear_21 : decode cX6_clear 21 = .ok (.return_, 1) := by decide +kernel
theorem dX6_drawn_0 : decode cX6_drawn 0 = .ok (.aload_n 0, 1) := by decide +kernel
theorem dX6_drawn_1 : decode cX6_drawn 1 = .ok (.getfield 30, 3) := by decide +kernel
theorem dX6_drawn_4 : decode cX6_drawn 4 = .ok (.getfield 77, 3) := by decide +kernel
theorem dX6_drawn_7 : decode cX6_drawn 7 = .ok (.ireturn, 1) := by decide +kernel
theorem dX2_toMove_0 : decode cX2_toMove 0 = .ok (.aload_n 0, 1) := by decide +kernel
theorem dX2_toMove_1 : decode cX2_toMove 1 = .ok (.getfield 9, 3) := by decide +kernel
theorem dX2_toMove_4 : decode cX2_toMove 4 = .ok (.iconst (-1), 1) := by decide +kernel
theorem dX2_toMove_5 : decode cX2_toMove 5 = .ok (.if_icmp .ne 14, 3) := by decide +kernel
theorem dX2_toMove_8 : decode cX2_toMove 8 = .ok (.aload_n 0, 1) := by decide +kernel
theorem dX2_toMove_9 : decode cX2_toMove 9 = .ok (.getfield 71, 3) := by decide +kernel
theorem dX2_toMove_12 : decode cX2_toMove 12 = .ok (.ifCond .ne 7, 3) := by decide +kernel
theorem dX2_toMove_15 : decode cX2_toMove 15 = .ok (.iconst (-1), 1) := by decide +kernel
theorem dX2_toMove_16 : decode cX2_toMove 16 = .ok (.goto 7, 3) := by decide +kernel
theorem dX2_toMove_19 : decode cX2_toMove 19 = .ok (.aload_n 0, 1) := by decide +kernel
theorem dX2_toMove_20 : decode cX2_toMove 20 = .ok (.getfield 56, 3) := by decide +kernel
theorem dX2_toMove_23 : decode cX2_toMove 23 = .ok (.ireturn, 1) := by decide +kernel
theorem dX6_game_0 : decode cX6_game 0 = .ok (.iload_n 1, 1) := by decide +kernel
theorem dX6_game_1 : decode cX6_game 1 = .ok (.tableswitch 103 0 5 #[39, 47, 55, 63, 71, 87], 39) := by decide +kernel
theorem dX6_game_40 : decode cX6_game 40 = .ok (.aload_n 0, 1) := by decide +kernel
theorem dX6_game_41 : decode cX6_game 41 = .ok (.getfield 30, 3) := by decide +kernel
theorem dX6_game_44 : decode cX6_game 44 = .ok (.invokevirtual 80, 3) := by decide +kernel
theorem dX6_game_47 : decode cX6_game 47 = .ok (.ireturn, 1) := by decide +kernel
theorem dX6_game_48 : decode cX6_game 48 = .ok (.aload_n 0, 1) := by decide +kernel
theorem dX6_game_49 : decode cX6_game 49 = .ok (.getfield 21, 3) := by decide +kernel
theorem dX6_game_52 : decode cX6_game 52 = .ok (.getfield 84, 3) := by decide +kernel
theorem dX6_game_55 : decode cX6_game 55 = .ok (.ireturn, 1) := by decide +kernel
theorem dX6_game_56 : decode cX6_game 56 = .ok (.aload_n 0, 1) := by decide +kernel
theorem dX6_game_57 : decode cX6_game 57 = .ok (.getfield 30, 3) := by decide +kernel
theorem dX6_game_60 : decode cX6_game 60 = .ok (.getfield 87, 3) := by decide +kernel
theorem dX6_game_63 : decode cX6_game 63 = .ok (.ireturn, 1) := by decide +kernel
theorem dX6_game_64 : decode cX6_game 64 = .ok (.aload_n 0, 1) := by decide +kernel
theorem dX6_game_65 : decode cX6_game 65 = .ok (.getfield 30, 3) := by decide +kernel
theorem dX6_game_68 : decode cX6_game 68 = .ok (.invokevirtual 90, 3) := by decide +kernel
theorem dX6_game_71 : decode cX6_game 71 = .ok (.ireturn, 1) := by decide +kernel
theorem dX6_game_72 : decode cX6_game 72 = .ok (.aload_n 0, 1) := by decide +kernel
theorem dX6_game_73 : decode cX6_game 73 = .ok (.getfield 30, 3) := by decide +kernel
theorem dX6_game_76 : decode cX6_game 76 = .ok (.getfield 93, 3) := by decide +kernel
theorem dX6_game_79 : decode cX6_game 79 = .ok (.ifCond .eq 7, 3) := by decide +kernel
theorem dX6_game_82 : decode cX6_game 82 = .ok (.iconst 1, 1) := by decide +kernel
theorem dX6_game_83 : decode cX6_game 83 = .ok (.goto 4, 3) := by decide +kernel
theorem dX6_game_86 : decode cX6_game 86 = .ok (.iconst 0, 1) := by decide +kernel
theorem dX6_game_87 : decode cX6_game 87 = .ok (.ireturn, 1) := by decide +kernel
theorem dX6_game_88 : decode cX6_game 88 = .ok (.aload_n 0, 1) := by decide +kernel
theorem dX6_game_89 : decode cX6_game 89 = .ok (.getfield 12, 3) := by decide +kernel
theorem dX6_game_92 : decode cX6_game 92 = .ok (.getfield 59, 3) := by decide +kernel
theorem dX6_game_95 : decode cX6_game 95 = .ok (.aload_n 0, 1) := by decide +kernel
theorem dX6_game_96 : decode cX6_game 96 = .ok (.getfield 30, 3) := by decide +kernel
theorem dX6_game_99 : decode cX6_game 99 = .ok (.getfield 96, 3) := by decide +kernel
theorem dX6_game_102 : decode cX6_game 102 = .ok (.isub, 1) := by decide +kernel
theorem dX6_game_103 : decode cX6_game 103 = .ok (.ireturn, 1) := by decide +kernel
theorem dX6_game_104 : decode cX6_game 104 = .ok (.bipush (-2), 2) := by decide +kernel
theorem dX6_game_106 : decode cX6_game 106 = .ok (.ireturn, 1) := by decide +kernel
theorem dX5_fitNumber_0 : decode cX5_fitNumber 0 = .ok (.iconst (-1), 1) := by decide +kernel
theorem dX5_fitNumber_1 : decode cX5_fitNumber 1 = .ok (.istore_n 3, 1) := by decide +kernel
theorem dX5_fitNumber_2 : decode cX5_fitNumber 2 = .ok (.iconst 0, 1) := by decide +kernel
theorem dX5_fitNumber_3 : decode cX5_fitNumber 3 = .ok (.istore 4, 2) := by decide +kernel
theorem dX5_fitNumber_5 : decode cX5_fitNumber 5 = .ok (.iload 4, 2) := by decide +kernel
theorem dX5_fitNumber_7 : decode cX5_fitNumber 7 = .ok (.iload_n 2, 1) := by decide +kernel
theorem dX5_fitNumber_8 : decode cX5_fitNumber 8 = .ok (.if_icmp .gt 25, 3) := by decide +kernel
theorem dX5_fitNumber_11 : decode cX5_fitNumber 11 = .ok (.aload_n 0, 1) := by decide +kernel
theorem dX5_fitNumber_12 : decode cX5_fitNumber 12 = .ok (.iload_n 1, 1) := by decide +kernel
theorem dX5_fitNumber_13 : decode cX5_fitNumber 13 = .ok (.iload_n 3, 1) := by decide +kernel
theorem dX5_fitNumber_14 : decode cX5_fitNumber 14 = .ok (.iconst 1, 1) := by decide +kernel
theorem dX5_fitNumber_15 : decode cX5_fitNumber 15 = .ok (.iadd, 1) := by decide +kernel
theorem dX5_fitNumber_16 : decode cX5_fitNumber 16 = .ok (.invokevirtual 65, 3) := by decide +kernel
theorem dX5_fitNumber_19 : decode cX5_fitNumber 19 = .ok (.istore_n 3, 1) := by decide +kernel
theorem dX5_fitNumber_20 : decode cX5_fitNumber 20 = .ok (.iload_n 3, 1) := by decide +kernel
theorem dX5_fitNumber_21 : decode cX5_fitNumber 21 = .ok (.iconst (-1), 1) := by decide +kernel
theorem dX5_fitNumber_22 : decode cX5_fitNumber 22 = .ok (.if_icmp .ne 5, 3) := by decide +kernel
theorem dX5_fitNumber_25 : decode cX5_fitNumber 25 = .ok (.iconst (-1), 1) := by decide +kernel
theorem dX5_fitNumber_26 : decode cX5_fitNumber 26 = .ok (.ireturn, 1) := by decide +kernel
theorem dX5_fitNumber_27 : decode cX5_fitNumber 27 = .ok (.iinc 4 1, 3) := by decide +kernel
theorem dX5_fitNumber_30 : decode cX5_fitNumber 30 = .ok (.goto (-25), 3) := by decide +kernel
theorem dX5_fitNumber_33 : decode cX5_fitNumber 33 = .ok (.iload_n 3, 1) := by decide +kernel
theorem dX5_fitNumber_34 : decode cX5_fitNumber 34 = .ok (.ireturn, 1) := by decide +kernel
theorem dX6_tellSpot_0 : decode cX6_tellSpot 0 = .ok (.iload_n 0, 1) := by decide +kernel
theorem dX6_tellSpot_1 : decode cX6_tellSpot 1 = .ok (.iconst (-1), 1) := by decide +kernel
theorem dX6_tellSpot_2 : decode cX6_tellSpot 2 = .ok (.if_icmp .ne 6, 3) := by decide +kernel
theorem dX6_tellSpot_5 : decode cX6_tellSpot 5 = .ok (.bipush (-100), 2) := by decide +kernel
theorem dX6_tellSpot_7 : decode cX6_tellSpot 7 = .ok (.ireturn, 1) := by decide +kernel
theorem dX6_tellSpot_8 : decode cX6_tellSpot 8 = .ok (.iload_n 1, 1) := by decide +kernel
theorem dX6_tellSpot_9 : decode cX6_tellSpot 9 = .ok (.tableswitch 51 0 2 #[27, 37, 47], 27) := by decide +kernel
theorem dX6_tellSpot_36 : decode cX6_tellSpot 36 = .ok (.iload_n 0, 1) := by decide +kernel
theorem dX6_tellSpot_37 : decode cX6_tellSpot 37 = .ok (.iconst 4, 1) := by decide +kernel
theorem dX6_tellSpot_38 : decode cX6_tellSpot 38 = .ok (.idiv, 1) := by decide +kernel
theorem dX6_tellSpot_39 : decode cX6_tellSpot 39 = .ok (.bipush 21, 2) := by decide +kernel
theorem dX6_tellSpot_41 : decode cX6_tellSpot 41 = .ok (.irem, 1) := by decide +kernel
theorem dX6_tellSpot_42 : decode cX6_tellSpot 42 = .ok (.bipush 10, 2) := by decide +kernel
theorem dX6_tellSpot_44 : decode cX6_tellSpot 44 = .ok (.isub, 1) := by decide +kernel
theorem dX6_tellSpot_45 : decode cX6_tellSpot 45 = .ok (.ireturn, 1) := by decide +kernel
theorem dX6_tellSpot_46 : decode cX6_tellSpot 46 = .ok (.iload_n 0, 1) := by decide +kernel
theorem dX6_tellSpot_47 : decode cX6_tellSpot 47 = .ok (.iconst 4, 1) := by decide +kernel
theorem dX6_tellSpot_48 : decode cX6_tellSpot 48 = .ok (.idiv, 1) := by decide +kernel
theorem dX6_tellSpot_49 : decode cX6_tellSpot 49 = .ok (.bipush 21, 2) := by decide +kernel
theorem dX6_tellSpot_51 : decode cX6_tellSpot 51 = .ok (.idiv, 1) := by decide +kernel
theorem dX6_tellSpot_52 : decode cX6_tellSpot 52 = .ok (.bipush 10, 2) := by decide +kernel
theorem dX6_tellSpot_54 : decode cX6_tellSpot 54 = .ok (.isub, 1) := by decide +kernel
theorem dX6_tellSpot_55 : decode cX6_tellSpot 55 = .ok (.ireturn, 1) := by decide +kernel
theorem dX6_tellSpot_56 : decode cX6_tellSpot 56 = .ok (.iload_n 0, 1) := by decide +kernel
theorem dX6_tellSpot_57 : decode cX6_tellSpot 57 = .ok (.iconst 4, 1) := by decide +kernel
theorem dX6_tellSpot_58 : decode cX6_tellSpot 58 = .ok (.irem, 1) := by decide +kernel
theorem dX6_tellSpot_59 : decode cX6_tellSpot 59 = .ok (.ireturn, 1) := by decide +kernel
theorem dX6_tellSpot_60 : decode cX6_tellSpot 60 = .ok (.bipush (-100), 2) := by decide +kernel
theorem dX6_tellSpot_62 : decode cX6_tellSpot 62 = .ok (.ireturn, 1) := by decide +kernel
theorem dX6_fits_0 : decode cX6_fits 0 = .ok (.iload_n 1, 1) := by decide +kernel
theorem dX6_fits_1 : decode cX6_fits 1 = .ok (.ifCond .lt 21, 3) := by decide +kernel
theorem dX6_fits_4 : decode cX6_fits 4 = .ok (.iload_n 1, 1) := by decide +kernel
theorem dX6_fits_5 : decode cX6_fits 5 = .ok (.sipush 1764, 3) := by decide +kernel
theorem dX6_fits_8 : decode cX6_fits 8 = .ok (.if_icmp .ge 14, 3) := by decide +kernel
theorem dX6_fits_11 : decode cX6_fits 11 = .ok (.aload_n 0, 1) := by decide +kernel
theorem dX6_fits_12 : decode cX6_fits 12 = .ok (.getfield 30, 3) := by decide +kernel
theorem dX6_fits_15 : decode cX6_fits 15 = .ok (.getfield 77, 3) := by decide +kernel
theorem dX6_fits_18 : decode cX6_fits 18 = .ok (.iconst (-1), 1) := by decide +kernel
theorem dX6_fits_19 : decode cX6_fits 19 = .ok (.if_icmp .ne 6, 3) := by decide +kernel
theorem dX6_fits_22 : decode cX6_fits 22 = .ok (.bipush (-100), 2) := by decide +kernel
theorem dX6_fits_24 : decode cX6_fits 24 = .ok (.ireturn, 1) := by decide +kernel
theorem dX6_fits_25 : decode cX6_fits 25 = .ok (.aload_n 0, 1) := by decide +kernel
theorem dX6_fits_26 : decode cX6_fits 26 = .ok (.getfield 21, 3) := by decide +kernel
theorem dX6_fits_29 : decode cX6_fits 29 = .ok (.aload_n 0, 1) := by decide +kernel
theorem dX6_fits_30 : decode cX6_fits 30 = .ok (.getfield 30, 3) := by decide +kernel
theorem dX6_fits_33 : decode cX6_fits 33 = .ok (.getfield 77, 3) := by decide +kernel
theorem dX6_fits_36 : decode cX6_fits 36 = .ok (.iload_n 1, 1) := by decide +kernel
theorem dX6_fits_37 : decode cX6_fits 37 = .ok (.invokevirtual 99, 3) := by decide +kernel
theorem dX6_fits_40 : decode cX6_fits 40 = .ok (.iload_n 2, 1) := by decide +kernel
theorem dX6_fits_41 : decode cX6_fits 41 = .ok (.invokestatic 103, 3) := by decide +kernel
theorem dX6_fits_44 : decode cX6_fits 44 = .ok (.ireturn, 1) := by decide +kernel
theorem dX6_isPlace_0 : decode cX6_isPlace 0 = .ok (.iload_n 0, 1) := by decide +kernel
theorem dX6_isPlace_1 : decode cX6_isPlace 1 = .ok (.bipush (-9), 2) := by decide +kernel
theorem dX6_isPlace_3 : decode cX6_isPlace 3 = .ok (.if_icmp .lt 25, 3) := by decide +kernel
theorem dX6_isPlace_6 : decode cX6_isPlace 6 = .ok (.iload_n 0, 1) := by decide +kernel
theorem dX6_isPlace_7 : decode cX6_isPlace 7 = .ok (.bipush 9, 2) := by decide +kernel
theorem dX6_isPlace_9 : decode cX6_isPlace 9 = .ok (.if_icmp .gt 19, 3) := by decide +kernel
theorem dX6_isPlace_12 : decode cX6_isPlace 12 = .ok (.iload_n 1, 1) := by decide +kernel
theorem dX6_isPlace_13 : decode cX6_isPlace 13 = .ok (.bipush (-9), 2) := by decide +kernel
theorem dX6_isPlace_15 : decode cX6_isPlace 15 = .ok (.if_icmp .lt 13, 3) := by decide +kernel
theorem dX6_isPlace_18 : decode cX6_isPlace 18 = .ok (.iload_n 1, 1) := by decide +kernel
theorem dX6_isPlace_19 : decode cX6_isPlace 19 = .ok (.bipush 9, 2) := by decide +kernel
theorem dX6_isPlace_21 : decode cX6_isPlace 21 = .ok (.if_icmp .gt 7, 3) := by decide +kernel
theorem dX6_isPlace_24 : decode cX6_isPlace 24 = .ok (.iconst 1, 1) := by decide +kernel
theorem dX6_isPlace_25 : decode cX6_isPlace 25 = .ok (.goto 4, 3) := by decide +kernel
theorem dX6_isPlace_28 : decode cX6_isPlace 28 = .ok (.iconst 0, 1) := by decide +kernel
theorem dX6_isPlace_29 : decode cX6_isPlace 29 = .ok (.ireturn, 1) := by decide +kernel
theorem dX6_cellAt_0 : decode cX6_cellAt 0 = .ok (.iload_n 1, 1) := by decide +kernel
theorem dX6_cellAt_1 : decode cX6_cellAt 1 = .ok (.bipush 10, 2) := by decide +kernel
theorem dX6_cellAt_3 : decode cX6_cellAt 3 = .ok (.iadd, 1) := by decide +kernel
theorem dX6_cellAt_4 : decode cX6_cellAt 4 = .ok (.bipush 21, 2) := by decide +kernel
theorem dX6_cellAt_6 : decode cX6_cellAt 6 = .ok (.imul, 1) := by decide +kernel
theorem dX6_cellAt_7 : decode cX6_cellAt 7 = .ok (.iload_n 0, 1) := by decide +kernel
theorem dX6_cellAt_8 : decode cX6_cellAt 8 = .ok (.iadd, 1) := by decide +kernel
theorem dX6_cellAt_9 : decode cX6_cellAt 9 = .ok (.bipush 10, 2) := by decide +kernel
theorem dX6_cellAt_11 : decode cX6_cellAt 11 = .ok (.iadd, 1) := by decide +kernel
theorem dX6_cellAt_12 : decode cX6_cellAt 12 = .ok (.ireturn, 1) := by decide +kernel
theorem dX3_found_0 : decode cX3_found 0 = .ok (.aload_n 0, 1) := by decide +kernel
theorem dX3_found_1 : decode cX3_found 1 = .ok (.getfield 9, 3) := by decide +kernel
theorem dX3_found_4 : decode cX3_found 4 = .ok (.iload_n 1, 1) := by decide +kernel
theorem dX3_found_5 : decode cX3_found 5 = .ok (.iload_n 1, 1) := by decide +kernel
theorem dX3_found_6 : decode cX3_found 6 = .ok (.iastore, 1) := by decide +kernel
theorem dX3_found_7 : decode cX3_found 7 = .ok (.aload_n 0, 1) := by decide +kernel
theorem dX3_found_8 : decode cX3_found 8 = .ok (.getfield 15, 3) := by decide +kernel
theorem dX3_found_11 : decode cX3_found 11 = .ok (.iload_n 1, 1) := by decide +kernel
theorem dX3_found_12 : decode cX3_found 12 = .ok (.iconst 1, 1) := by decide +kernel
theorem dX3_found_13 : decode cX3_found 13 = .ok (.iload_n 1, 1) := by decide +kernel
theorem dX3_found_14 : decode cX3_found 14 = .ok (.bipush 8, 2) := by decide +kernel
theorem dX3_found_16 : decode cX3_found 16 = .ok (.idiv, 1) := by decide +kernel
theorem dX3_found_17 : decode cX3_found 17 = .ok (.ishl, 1) := by decide +kernel
theorem dX3_found_18 : decode cX3_found 18 = .ok (.iastore, 1) := by decide +kernel
theorem dX3_found_19 : decode cX3_found 19 = .ok (.aload_n 0, 1) := by decide +kernel
theorem dX3_found_20 : decode cX3_found 20 = .ok (.getfield 18, 3) := by decide +kernel
theorem dX3_found_23 : decode cX3_found 23 = .ok (.iload_n 1, 1) := by decide +kernel
theorem dX3_found_24 : decode cX3_found 24 = .ok (.iload_n 2, 1) := by decide +kernel
theorem dX3_found_25 : decode cX3_found 25 = .ok (.iastore, 1) := by decide +kernel
theorem dX3_found_26 : decode cX3_found 26 = .ok (.aload_n 0, 1) := by decide +kernel
theorem dX3_found_27 : decode cX3_found 27 = .ok (.getfield 21, 3) := by decide +kernel
theorem dX3_found_30 : decode cX3_found 30 = .ok (.iload_n 1, 1) := by decide +kernel
theorem dX3_found_31 : decode cX3_found 31 = .ok (.iload_n 3, 1) := by decide +kernel
theorem dX3_found_32 : decode cX3_found 32 = .ok (.iastore, 1) := by decide +kernel
theorem dX3_found_33 : decode cX3_found 33 = .ok (.aload_n 0, 1) := by decide +kernel
theorem dX3_found_34 : decode cX3_found 34 = .ok (.getfield 24, 3) := by decide +kernel
theorem dX3_found_37 : decode cX3_found 37 = .ok (.iload_n 1, 1) := by decide +kernel
theorem dX3_found_38 : decode cX3_found 38 = .ok (.iconst 0, 1) := by decide +kernel
theorem dX3_found_39 : decode cX3_found 39 = .ok (.iastore, 1) := by decide +kernel
theorem dX3_found_40 : decode cX3_found 40 = .ok (.return_, 1) := by decide +kernel
theorem dX3_join_0 : decode cX3_join 0 = .ok (.iload_n 1, 1) := by decide +kernel
theorem dX3_join_1 : decode cX3_join 1 = .ok (.iload_n 2, 1) := by decide +kernel
theorem dX3_join_2 : decode cX3_join 2 = .ok (.if_icmp .ne 4, 3) := by decide +kernel
theorem dX3_join_5 : decode cX3_join 5 = .ok (.return_, 1) := by decide +kernel
theorem dX3_join_6 : decode cX3_join 6 = .ok (.iload_n 1, 1) := by decide +kernel
theorem dX3_join_7 : decode cX3_join 7 = .ok (.iload_n 2, 1) := by decide +kernel
theorem dX3_join_8 : decode cX3_join 8 = .ok (.invokestatic 39, 3) := by decide +kernel
theorem dX3_join_11 : decode cX3_join 11 = .ok (.istore_n 3, 1) := by decide +kernel
theorem dX3_join_12 : decode cX3_join 12 = .ok (.iload_n 1, 1) := by decide +kernel
theorem dX3_join_13 : decode cX3_join 13 = .ok (.iload_n 2, 1) := by decide +kernel
theorem dX3_join_14 : decode cX3_join 14 = .ok (.invokestatic 45, 3) := by decide +kernel
theorem dX3_join_17 : decode cX3_join 17 = .ok (.istore 4, 2) := by decide +kernel
theorem dX3_join_19 : decode cX3_join 19 = .ok (.aload_n 0, 1) := by decide +kernel
theorem dX3_join_20 : decode cX3_join 20 = .ok (.getfield 27, 3) := by decide +kernel
theorem dX3_join_23 : decode cX3_join 23 = .ok (.aload_n 0, 1) := by decide +kernel
theorem dX3_join_24 : decode cX3_join 24 = .ok (.getfield 48, 3) := by decide +kernel
theorem dX3_join_27 : decode cX3_join 27 = .ok (.iload 4, 2) := by decide +kernel
theorem dX3_join_29 : decode cX3_join 29 = .ok (.iastore, 1) := by decide +kernel
theorem dX3_join_30 : decode cX3_join 30 = .ok (.aload_n 0, 1) := by decide +kernel
theorem dX3_join_31 : decode cX3_join 31 = .ok (.getfield 30, 3) := by decide +kernel
theorem dX3_join_34 : decode cX3_join 34 = .ok (.aload_n 0, 1) := by decide +kernel
theorem dX3_join_35 : decode cX3_join 35 = .ok (.getfield 48, 3) := by decide +kernel
theorem dX3_join_38 : decode cX3_join 38 = .ok (.aload_n 0, 1) := by decide +kernel
theorem dX3_join_39 : decode cX3_join 39 = .ok (.getfield 15, 3) := by decide +kernel
theorem dX3_join_42 : decode cX3_join 42 = .ok (.iload_n 3, 1) := by decide +kernel
theorem dX3_join_43 : decode cX3_join 43 = .ok (.iaload, 1) := by decide +kernel
theorem dX3_join_44 : decode cX3_join 44 = .ok (.iastore, 1) := by decide +kernel
theorem dX3_join_45 : decode cX3_join 45 = .ok (.aload_n 0, 1) := by decide +kernel
theorem dX3_join_46 : decode cX3_join 46 = .ok (.dup, 1) := by decide +kernel
theorem dX3_join_47 : decode cX3_join 47 = .ok (.getfield 48, 3) := by decide +kernel
theorem dX3_join_50 : decode cX3_join 50 = .ok (.iconst 1, 1) := by decide +kernel
theorem dX3_join_51 : decode cX3_join 51 = .ok (.iadd, 1) := by decide +kernel
theorem dX3_join_52 : decode cX3_join 52 = .ok (.putfield 48, 3) := by decide +kernel
theorem dX3_join_55 : decode cX3_join 55 = .ok (.aload_n 0, 1) := by decide +kernel
theorem dX3_join_56 : decode cX3_join 56 = .ok (.getfield 9, 3) := by decide +kernel
theorem dX3_join_59 : decode cX3_join 59 = .ok (.iload 4, 2) := by decide +kernel
theorem dX3_join_61 : decode cX3_join 61 = .ok (.iload_n 3, 1) := by decide +kernel
theorem dX3_join_62 : decode cX3_join 62 = .ok (.iastore, 1) := by decide +kernel
theorem dX3_join_63 : decode cX3_join 63 = .ok (.aload_n 0, 1) := by decide +kernel
theorem dX3_join_64 : decode cX3_join 64 = .ok (.getfield 15, 3) := by decide +kernel
theorem dX3_join_67 : decode cX3_join 67 = .ok (.iload_n 3, 1) := by decide +kernel
theorem dX3_join_68 : decode cX3_join 68 = .ok (.dup2, 1) := by decide +kernel
theorem dX3_join_69 : decode cX3_join 69 = .ok (.iaload, 1) := by decide +kernel
theorem dX3_join_70 : decode cX3_join 70 = .ok (.aload_n 0, 1) := by decide +kernel
theorem dX3_join_71 : decode cX3_join 71 = .ok (.getfield 15, 3) := by decide +kernel
theorem dX3_join_74 : decode cX3_join 74 = .ok (.iload 4, 2) := by decide +kernel
theorem dX3_join_76 : decode cX3_join 76 = .ok (.iaload, 1) := by decide +kernel
theorem dX3_join_77 : decode cX3_join 77 = .ok (.ior, 1) := by decide +kernel
theorem dX3_join_78 : decode cX3_join 78 = .ok (.iastore, 1) := by decide +kernel
theorem dX3_join_79 : decode cX3_join 79 = .ok (.aload_n 0, 1) := by decide +kernel
theorem dX3_join_80 : decode cX3_join 80 = .ok (.getfield 18, 3) := by decide +kernel
theorem dX3_join_83 : decode cX3_join 83 = .ok (.iload_n 3, 1) := by decide +kernel
theorem dX3_join_84 : decode cX3_join 84 = .ok (.dup2, 1) := by decide +kernel
theorem dX3_join_85 : decode cX3_join 85 = .ok (.iaload, 1) := by decide +kernel
theorem dX3_join_86 : decode cX3_join 86 = .ok (.aload_n 0, 1) := by decide +kernel
theorem dX3_join_87 : decode cX3_join 87 = .ok (.getfield 18, 3) := by decide +kernel
theorem dX3_join_90 : decode cX3_join 90 = .ok (.iload 4, 2) := by decide +kernel
theorem dX3_join_92 : decode cX3_join 92 = .ok (.iaload, 1) := by decide +kernel
theorem dX3_join_93 : decode cX3_join 93 = .ok (.iadd, 1) := by decide +kernel
theorem dX3_join_94 : decode cX3_join 94 = .ok (.iastore, 1) := by decide +kernel
theorem dX3_join_95 : decode cX3_join 95 = .ok (.aload_n 0, 1) := by decide +kernel
theorem dX3_join_96 : decode cX3_join 96 = .ok (.getfield 21, 3) := by decide +kernel
theorem dX3_join_99 : decode cX3_join 99 = .ok (.iload_n 3, 1) := by decide +kernel
theorem dX3_join_100 : decode cX3_join 100 = .ok (.dup2, 1) := by decide +kernel
theorem dX3_join_101 : decode cX3_join 101 = .ok (.iaload, 1) := by decide +kernel
theorem dX3_join_102 : decode cX3_join 102 = .ok (.aload_n 0, 1) := by decide +kernel
theorem dX3_join_103 : decode cX3_join 103 = .ok (.getfield 21, 3) := by decide +kernel
theorem dX3_join_106 : decode cX3_join 106 = .ok (.iload 4, 2) := by decide +kernel
theorem dX3_join_108 : decode cX3_join 108 = .ok (.iaload, 1) := by decide +kernel
theorem dX3_join_109 : decode cX3_join 109 = .ok (.iadd, 1) := by decide +kernel
theorem dX3_join_110 : decode cX3_join 110 = .ok (.iastore, 1) := by decide +kernel
theorem dX3_join_111 : decode cX3_join 111 = .ok (.aload_n 0, 1) := by decide +kernel
theorem dX3_join_112 : decode cX3_join 112 = .ok (.getfield 24, 3) := by decide +kernel
theorem dX3_join_115 : decode cX3_join 115 = .ok (.iload_n 3, 1) := by decide +kernel
theorem dX3_join_116 : decode cX3_join 116 = .ok (.dup2, 1) := by decide +kernel
theorem dX3_join_117 : decode cX3_join 117 = .ok (.iaload, 1) := by decide +kernel
theorem dX3_join_118 : decode cX3_join 118 = .ok (.aload_n 0, 1) := by decide +kernel
theorem dX3_join_119 : decode cX3_join 119 = .ok (.getfield 24, 3) := by decide +kernel
theorem dX3_join_122 : decode cX3_join 122 = .ok (.iload 4, 2) := by decide +kernel
theorem dX3_join_124 : decode cX3_join 124 = .ok (.iaload, 1) := by decide +kernel
theorem dX3_join_125 : decode cX3_join 125 = .ok (.iadd, 1) := by decide +kernel
theorem dX3_join_126 : decode cX3_join 126 = .ok (.iastore, 1) := by decide +kernel
theorem dX3_join_127 : decode cX3_join 127 = .ok (.return_, 1) := by decide +kernel
theorem dX5_joinSide_0 : decode cX5_joinSide 0 = .ok (.aload_n 0, 1) := by decide +kernel
theorem dX5_joinSide_1 : decode cX5_joinSide 1 = .ok (.getfield 9, 3) := by decide +kernel
theorem dX5_joinSide_4 : decode cX5_joinSide 4 = .ok (.aload_n 0, 1) := by decide +kernel
theorem dX5_joinSide_5 : decode cX5_joinSide 5 = .ok (.getfield 21, 3) := by decide +kernel
theorem dX5_joinSide_8 : decode cX5_joinSide 8 = .ok (.iload_n 1, 1) := by decide +kernel
theorem dX5_joinSide_9 : decode cX5_joinSide 9 = .ok (.iaload, 1) := by decide +kernel
theorem dX5_joinSide_10 : decode cX5_joinSide 10 = .ok (.getstatic 57, 3) := by decide +kernel
theorem dX5_joinSide_13 : decode cX5_joinSide 13 = .ok (.iload_n 2, 1) := by decide +kernel
theorem dX5_joinSide_14 : decode cX5_joinSide 14 = .ok (.iaload, 1) := by decide +kernel
theorem dX5_joinSide_15 : decode cX5_joinSide 15 = .ok (.iadd, 1) := by decide +kernel
theorem dX5_joinSide_16 : decode cX5_joinSide 16 = .ok (.iaload, 1) := by decide +kernel
theorem dX5_joinSide_17 : decode cX5_joinSide 17 = .ok (.istore_n 3, 1) := by decide +kernel
theorem dX5_joinSide_18 : decode cX5_joinSide 18 = .ok (.iload_n 3, 1) := by decide +kernel
theorem dX5_joinSide_19 : decode cX5_joinSide 19 = .ok (.iconst (-1), 1) := by decide +kernel
theorem dX5_joinSide_20 : decode cX5_joinSide 20 = .ok (.if_icmp .ne 4, 3) := by decide +kernel
theorem dX5_joinSide_23 : decode cX5_joinSide 23 = .ok (.return_, 1) := by decide +kernel
theorem dX5_joinSide_24 : decode cX5_joinSide 24 = .ok (.iconst 0, 1) := by decide +kernel
theorem dX5_joinSide_25 : decode cX5_joinSide 25 = .ok (.istore 4, 2) := by decide +kernel
theorem dX5_joinSide_27 : decode cX5_joinSide 27 = .ok (.iload 4, 2) := by decide +kernel
theorem dX5_joinSide_29 : decode cX5_joinSide 29 = .ok (.iconst 3, 1) := by decide +kernel
theorem dX5_joinSide_30 : decode cX5_joinSide 30 = .ok (.if_icmp .ge 63, 3) := by decide +kernel
theorem dX5_joinSide_33 : decode cX5_joinSide 33 = .ok (.iload_n 2, 1) := by decide +kernel
theorem dX5_joinSide_34 : decode cX5_joinSide 34 = .ok (.iconst 3, 1) := by decide +kernel
theorem dX5_joinSide_35 : decode cX5_joinSide 35 = .ok (.imul, 1) := by decide +kernel
theorem dX5_joinSide_36 : decode cX5_joinSide 36 = .ok (.iload 4, 2) := by decide +kernel
theorem dX5_joinSide_38 : decode cX5_joinSide 38 = .ok (.iadd, 1) := by decide +kernel
theorem dX5_joinSide_39 : decode cX5_joinSide 39 = .ok (.istore 5, 2) := by decide +kernel
theorem dX5_joinSide_41 : decode cX5_joinSide 41 = .ok (.aload_n 0, 1) := by decide +kernel
theorem dX5_joinSide_42 : decode cX5_joinSide 42 = .ok (.iload_n 1, 1) := by decide +kernel
theorem dX5_joinSide_43 : decode cX5_joinSide 43 = .ok (.iload 5, 2) := by decide +kernel
theorem dX5_joinSide_45 : decode cX5_joinSide 45 = .ok (.invokevirtual 103, 3) := by decide +kernel
theorem dX5_joinSide_48 : decode cX5_joinSide 48 = .ok (.istore 6, 2) := by decide +kernel
theorem dX5_joinSide_50 : decode cX5_joinSide 50 = .ok (.aload_n 0, 1) := by decide +kernel
theorem dX5_joinSide_51 : decode cX5_joinSide 51 = .ok (.iload_n 3, 1) := by decide +kernel
theorem dX5_joinSide_52 : decode cX5_joinSide 52 = .ok (.iload 5, 2) := by decide +kernel
theorem dX5_joinSide_54 : decode cX5_joinSide 54 = .ok (.invokestatic 106, 3) := by decide +kernel
theorem dX5_joinSide_57 : decode cX5_joinSide 57 = .ok (.invokevirtual 103, 3) := by decide +kernel
theorem dX5_joinSide_60 : decode cX5_joinSide 60 = .ok (.istore 7, 2) := by decide +kernel
theorem dX5_joinSide_62 : decode cX5_joinSide 62 = .ok (.aload_n 0, 1) := by decide +kernel
theorem dX5_joinSide_63 : decode cX5_joinSide 63 = .ok (.getfield 43, 3) := by decide +kernel
theorem dX5_joinSide_66 : decode cX5_joinSide 66 = .ok (.aload_n 0, 1) := by decide +kernel
theorem dX5_joinSide_67 : decode cX5_joinSide 67 = .ok (.getfield 43, 3) := by decide +kernel
theorem dX5_joinSide_70 : decode cX5_joinSide 70 = .ok (.iload 6, 2) := by decide +kernel
theorem dX5_joinSide_72 : decode cX5_joinSide 72 = .ok (.invokevirtual 110, 3) := by decide +kernel
theorem dX5_joinSide_75 : decode cX5_joinSide 75 = .ok (.aload_n 0, 1) := by decide +kernel
theorem dX5_joinSide_76 : decode cX5_joinSide 76 = .ok (.getfield 43, 3) := by decide +kernel
theorem dX5_joinSide_79 : decode cX5_joinSide 79 = .ok (.iload 7, 2) := by decide +kernel
theorem dX5_joinSide_81 : decode cX5_joinSide 81 = .ok (.invokevirtual 110, 3) := by decide +kernel
theorem dX5_joinSide_84 : decode cX5_joinSide 84 = .ok (.invokevirtual 113, 3) := by decide +kernel
theorem dX5_joinSide_87 : decode cX5_joinSide 87 = .ok (.iinc 4 1, 3) := by decide +kernel
theorem dX5_joinSide_90 : decode cX5_joinSide 90 = .ok (.goto (-63), 3) := by decide +kernel
theorem dX5_joinSide_93 : decode cX5_joinSide 93 = .ok (.return_, 1) := by decide +kernel
theorem dX5_addTile_0 : decode cX5_addTile 0 = .ok (.aload_n 0, 1) := by decide +kernel
theorem dX5_addTile_1 : decode cX5_addTile 1 = .ok (.getfield 69, 3) := by decide +kernel
theorem dX5_addTile_4 : decode cX5_addTile 4 = .ok (.istore_n 3, 1) := by decide +kernel
theorem dX5_addTile_5 : decode cX5_addTile 5 = .ok (.iload_n 2, 1) := by decide +kernel
theorem dX5_addTile_6 : decode cX5_addTile 6 = .ok (.iconst 4, 1) := by decide +kernel
theorem dX5_addTile_7 : decode cX5_addTile 7 = .ok (.idiv, 1) := by decide +kernel
theorem dX5_addTile_8 : decode cX5_addTile 8 = .ok (.istore 4, 2) := by decide +kernel
theorem dX5_addTile_10 : decode cX5_addTile 10 = .ok (.aload_n 0, 1) := by decide +kernel
theorem dX5_addTile_11 : decode cX5_addTile 11 = .ok (.dup, 1) := by decide +kernel
theorem dX5_addTile_12 : decode cX5_addTile 12 = .ok (.getfield 69, 3) := by decide +kernel
theorem dX5_addTile_15 : decode cX5_addTile 15 = .ok (.iconst 1, 1) := by decide +kernel
theorem dX5_addTile_16 : decode cX5_addTile 16 = .ok (.iadd, 1) := by decide +kernel
theorem dX5_addTile_17 : decode cX5_addTile 17 = .ok (.putfield 69, 3) := by decide +kernel
theorem dX5_addTile_20 : decode cX5_addTile 20 = .ok (.aload_n 0, 1) := by decide +kernel
theorem dX5_addTile_21 : decode cX5_addTile 21 = .ok (.getfield 9, 3) := by decide +kernel
theorem dX5_addTile_24 : decode cX5_addTile 24 = .ok (.iload 4, 2) := by decide +kernel
theorem dX5_addTile_26 : decode cX5_addTile 26 = .ok (.iload_n 3, 1) := by decide +kernel
theorem dX5_addTile_27 : decode cX5_addTile 27 = .ok (.iastore, 1) := by decide +kernel
theorem dX5_addTile_28 : decode cX5_addTile 28 = .ok (.aload_n 0, 1) := by decide +kernel
theorem dX5_addTile_29 : decode cX5_addTile 29 = .ok (.getfield 21, 3) := by decide +kernel
theorem dX5_addTile_32 : decode cX5_addTile 32 = .ok (.iload_n 3, 1) := by decide +kernel
theorem dX5_addTile_33 : decode cX5_addTile 33 = .ok (.iload 4, 2) := by decide +kernel
theorem dX5_addTile_35 : decode cX5_addTile 35 = .ok (.iastore, 1) := by decide +kernel
theorem dX5_addTile_36 : decode cX5_addTile 36 = .ok (.aload_n 0, 1) := by decide +kernel
theorem dX5_addTile_37 : decode cX5_addTile 37 = .ok (.getfield 24, 3) := by decide +kernel
theorem dX5_addTile_40 : decode cX5_addTile 40 = .ok (.iload_n 3, 1) := by decide +kernel
theorem dX5_addTile_41 : decode cX5_addTile 41 = .ok (.iload_n 1, 1) := by decide +kernel
theorem dX5_addTile_42 : decode cX5_addTile 42 = .ok (.iastore, 1) := by decide +kernel
theorem dX5_addTile_43 : decode cX5_addTile 43 = .ok (.aload_n 0, 1) := by decide +kernel
theorem dX5_addTile_44 : decode cX5_addTile 44 = .ok (.getfield 27, 3) := by decide +kernel
theorem dX5_addTile_47 : decode cX5_addTile 47 = .ok (.iload_n 3, 1) := by decide +kernel
theorem dX5_addTile_48 : decode cX5_addTile 48 = .ok (.iload_n 2, 1) := by decide +kernel
theorem dX5_addTile_49 : decode cX5_addTile 49 = .ok (.iconst 4, 1) := by decide +kernel
theorem dX5_addTile_50 : decode cX5_addTile 50 = .ok (.irem, 1) := by decide +kernel
theorem dX5_addTile_51 : decode cX5_addTile 51 = .ok (.iastore, 1) := by decide +kernel
theorem dX5_addTile_52 : decode cX5_addTile 52 = .ok (.aload_n 0, 1) := by decide +kernel
theorem dX5_addTile_53 : decode cX5_addTile 53 = .ok (.getfield 30, 3) := by decide +kernel
theorem dX5_addTile_56 : decode cX5_addTile 56 = .ok (.iload_n 3, 1) := by decide +kernel
theorem dX5_addTile_57 : decode cX5_addTile 57 = .ok (.aload_n 0, 1) := by decide +kernel
theorem dX5_addTile_58 : decode cX5_addTile 58 = .ok (.getfield 43, 3) := by decide +kernel
theorem dX5_addTile_61 : decode cX5_addTile 61 = .ok (.getfield 73, 3) := by decide +kernel
theorem dX5_addTile_64 : decode cX5_addTile 64 = .ok (.iastore, 1) := by decide +kernel
theorem dX5_addTile_65 : decode cX5_addTile 65 = .ok (.iconst 0, 1) := by decide +kernel
theorem dX5_addTile_66 : decode cX5_addTile 66 = .ok (.istore 5, 2) := by decide +kernel
theorem dX5_addTile_68 : decode cX5_addTile 68 = .ok (.iload 5, 2) := by decide +kernel
theorem dX5_addTile_70 : decode cX5_addTile 70 = .ok (.bipush 8, 2) := by decide +kernel
theorem dX5_addTile_72 : decode cX5_addTile 72 = .ok (.if_icmp .ge 52, 3) := by decide +kernel
theorem dX5_addTile_75 : decode cX5_addTile 75 = .ok (.iload_n 1, 1) := by decide +kernel
