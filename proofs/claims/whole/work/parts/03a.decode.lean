theorem dX0_init_0 : decode cX0_init 0 = .ok (.aload_n 0, 1) := by decide +kernel
theorem dX0_init_1 : decode cX0_init 1 = .ok (.invokespecial 3, 3) := by decide +kernel
theorem dX0_init_4 : decode cX0_init 4 = .ok (.aload_n 0, 1) := by decide +kernel
theorem dX0_init_5 : decode cX0_init 5 = .ok (.bipush 8, 2) := by decide +kernel
theorem dX0_init_7 : decode cX0_init 7 = .ok (.newarray .int, 2) := by decide +kernel
theorem dX0_init_9 : decode cX0_init 9 = .ok (.putfield 9, 3) := by decide +kernel
theorem dX0_init_12 : decode cX0_init 12 = .ok (.aload_n 0, 1) := by decide +kernel
theorem dX0_init_13 : decode cX0_init 13 = .ok (.bipush 8, 2) := by decide +kernel
theorem dX0_init_15 : decode cX0_init 15 = .ok (.newarray .int, 2) := by decide +kernel
theorem dX0_init_17 : decode cX0_init 17 = .ok (.putfield 15, 3) := by decide +kernel
theorem dX0_init_20 : decode cX0_init 20 = .ok (.aload_n 0, 1) := by decide +kernel
theorem dX0_init_21 : decode cX0_init 21 = .ok (.aload_n 1, 1) := by decide +kernel
theorem dX0_init_22 : decode cX0_init 22 = .ok (.putfield 18, 3) := by decide +kernel
theorem dX0_init_25 : decode cX0_init 25 = .ok (.return_, 1) := by decide +kernel
theorem dX0_asItIs_0 : decode cX0_asItIs 0 = .ok (.aload_n 0, 1) := by decide +kernel
theorem dX0_asItIs_1 : decode cX0_asItIs 1 = .ok (.aload_n 0, 1) := by decide +kernel
theorem dX0_asItIs_2 : decode cX0_asItIs 2 = .ok (.getfield 18, 3) := by decide +kernel
theorem dX0_asItIs_5 : decode cX0_asItIs 5 = .ok (.getfield 22, 3) := by decide +kernel
theorem dX0_asItIs_8 : decode cX0_asItIs 8 = .ok (.iconst 0, 1) := by decide +kernel
theorem dX0_asItIs_9 : decode cX0_asItIs 9 = .ok (.iaload, 1) := by decide +kernel
theorem dX0_asItIs_10 : decode cX0_asItIs 10 = .ok (.putfield 27, 3) := by decide +kernel
theorem dX0_asItIs_13 : decode cX0_asItIs 13 = .ok (.aload_n 0, 1) := by decide +kernel
theorem dX0_asItIs_14 : decode cX0_asItIs 14 = .ok (.aload_n 0, 1) := by decide +kernel
theorem dX0_asItIs_15 : decode cX0_asItIs 15 = .ok (.getfield 18, 3) := by decide +kernel
theorem dX0_asItIs_18 : decode cX0_asItIs 18 = .ok (.getfield 22, 3) := by decide +kernel
theorem dX0_asItIs_21 : decode cX0_asItIs 21 = .ok (.iconst 1, 1) := by decide +kernel
theorem dX0_asItIs_22 : decode cX0_asItIs 22 = .ok (.iaload, 1) := by decide +kernel
theorem dX0_asItIs_23 : decode cX0_asItIs 23 = .ok (.putfield 31, 3) := by decide +kernel
theorem dX0_asItIs_26 : decode cX0_asItIs 26 = .ok (.aload_n 0, 1) := by decide +kernel
theorem dX0_asItIs_27 : decode cX0_asItIs 27 = .ok (.aload_n 0, 1) := by decide +kernel
theorem dX0_asItIs_28 : decode cX0_asItIs 28 = .ok (.getfield 18, 3) := by decide +kernel
theorem dX0_asItIs_31 : decode cX0_asItIs 31 = .ok (.getfield 34, 3) := by decide +kernel
theorem dX0_asItIs_34 : decode cX0_asItIs 34 = .ok (.putfield 37, 3) := by decide +kernel
theorem dX0_asItIs_37 : decode cX0_asItIs 37 = .ok (.aload_n 0, 1) := by decide +kernel
theorem dX0_asItIs_38 : decode cX0_asItIs 38 = .ok (.aload_n 0, 1) := by decide +kernel
theorem dX0_asItIs_39 : decode cX0_asItIs 39 = .ok (.getfield 18, 3) := by decide +kernel
theorem dX0_asItIs_42 : decode cX0_asItIs 42 = .ok (.getfield 38, 3) := by decide +kernel
theorem dX0_asItIs_45 : decode cX0_asItIs 45 = .ok (.putfield 41, 3) := by decide +kernel
theorem dX0_asItIs_48 : decode cX0_asItIs 48 = .ok (.return_, 1) := by decide +kernel
theorem dX0_isHere_0 : decode cX0_isHere 0 = .ok (.aload_n 0, 1) := by decide +kernel
theorem dX0_isHere_1 : decode cX0_isHere 1 = .ok (.getfield 41, 3) := by decide +kernel
theorem dX0_isHere_4 : decode cX0_isHere 4 = .ok (.iload_n 1, 1) := by decide +kernel
theorem dX0_isHere_5 : decode cX0_isHere 5 = .ok (.ishr, 1) := by decide +kernel
theorem dX0_isHere_6 : decode cX0_isHere 6 = .ok (.iconst 1, 1) := by decide +kernel
theorem dX0_isHere_7 : decode cX0_isHere 7 = .ok (.iand, 1) := by decide +kernel
theorem dX0_isHere_8 : decode cX0_isHere 8 = .ok (.iconst 1, 1) := by decide +kernel
theorem dX0_isHere_9 : decode cX0_isHere 9 = .ok (.if_icmp .ne 7, 3) := by decide +kernel
theorem dX0_isHere_12 : decode cX0_isHere 12 = .ok (.iconst 1, 1) := by decide +kernel
theorem dX0_isHere_13 : decode cX0_isHere 13 = .ok (.goto 4, 3) := by decide +kernel
theorem dX0_isHere_16 : decode cX0_isHere 16 = .ok (.iconst 0, 1) := by decide +kernel
theorem dX0_isHere_17 : decode cX0_isHere 17 = .ok (.ireturn, 1) := by decide +kernel
theorem dX0_good_0 : decode cX0_good 0 = .ok (.aload_n 0, 1) := by decide +kernel
theorem dX0_good_1 : decode cX0_good 1 = .ok (.iload_n 1, 1) := by decide +kernel
theorem dX0_good_2 : decode cX0_good 2 = .ok (.invokevirtual 44, 3) := by decide +kernel
theorem dX0_good_5 : decode cX0_good 5 = .ok (.ifCond .eq 31, 3) := by decide +kernel
theorem dX0_good_8 : decode cX0_good 8 = .ok (.aload_n 0, 1) := by decide +kernel
theorem dX0_good_9 : decode cX0_good 9 = .ok (.getfield 18, 3) := by decide +kernel
theorem dX0_good_12 : decode cX0_good 12 = .ok (.getfield 48, 3) := by decide +kernel
theorem dX0_good_15 : decode cX0_good 15 = .ok (.iload_n 1, 1) := by decide +kernel
theorem dX0_good_16 : decode cX0_good 16 = .ok (.iaload, 1) := by decide +kernel
theorem dX0_good_17 : decode cX0_good 17 = .ok (.bipush 100, 2) := by decide +kernel
theorem dX0_good_19 : decode cX0_good 19 = .ok (.aload_n 0, 1) := by decide +kernel
theorem dX0_good_20 : decode cX0_good 20 = .ok (.getfield 18, 3) := by decide +kernel
theorem dX0_good_23 : decode cX0_good 23 = .ok (.getfield 51, 3) := by decide +kernel
theorem dX0_good_26 : decode cX0_good 26 = .ok (.iload_n 1, 1) := by decide +kernel
theorem dX0_good_27 : decode cX0_good 27 = .ok (.iaload, 1) := by decide +kernel
theorem dX0_good_28 : decode cX0_good 28 = .ok (.isub, 1) := by decide +kernel
theorem dX0_good_29 : decode cX0_good 29 = .ok (.imul, 1) := by decide +kernel
theorem dX0_good_30 : decode cX0_good 30 = .ok (.bipush 100, 2) := by decide +kernel
theorem dX0_good_32 : decode cX0_good 32 = .ok (.idiv, 1) := by decide +kernel
theorem dX0_good_33 : decode cX0_good 33 = .ok (.goto 4, 3) := by decide +kernel
theorem dX0_good_36 : decode cX0_good 36 = .ok (.iconst 0, 1) := by decide +kernel
theorem dX0_good_37 : decode cX0_good 37 = .ok (.ireturn, 1) := by decide +kernel
theorem dX0_pushes_0 : decode cX0_pushes 0 = .ok (.aload_n 0, 1) := by decide +kernel
theorem dX0_pushes_1 : decode cX0_pushes 1 = .ok (.getfield 18, 3) := by decide +kernel
theorem dX0_pushes_4 : decode cX0_pushes 4 = .ok (.getfield 54, 3) := by decide +kernel
theorem dX0_pushes_7 : decode cX0_pushes 7 = .ok (.iload_n 1, 1) := by decide +kernel
theorem dX0_pushes_8 : decode cX0_pushes 8 = .ok (.iaload, 1) := by decide +kernel
theorem dX0_pushes_9 : decode cX0_pushes 9 = .ok (.lookupswitch 90 #[(1, 27), (5, 57)], 27) := by decide +kernel
theorem dX0_pushes_36 : decode cX0_pushes 36 = .ok (.aload_n 0, 1) := by decide +kernel
theorem dX0_pushes_37 : decode cX0_pushes 37 = .ok (.iload_n 1, 1) := by decide +kernel
theorem dX0_pushes_38 : decode cX0_pushes 38 = .ok (.invokevirtual 57, 3) := by decide +kernel
theorem dX0_pushes_41 : decode cX0_pushes 41 = .ok (.ifCond .le 23, 3) := by decide +kernel
theorem dX0_pushes_44 : decode cX0_pushes 44 = .ok (.aload_n 0, 1) := by decide +kernel
theorem dX0_pushes_45 : decode cX0_pushes 45 = .ok (.iload_n 1, 1) := by decide +kernel
theorem dX0_pushes_46 : decode cX0_pushes 46 = .ok (.invokevirtual 57, 3) := by decide +kernel
theorem dX0_pushes_49 : decode cX0_pushes 49 = .ok (.aload_n 0, 1) := by decide +kernel
theorem dX0_pushes_50 : decode cX0_pushes 50 = .ok (.getfield 18, 3) := by decide +kernel
theorem dX0_pushes_53 : decode cX0_pushes 53 = .ok (.getfield 22, 3) := by decide +kernel
theorem dX0_pushes_56 : decode cX0_pushes 56 = .ok (.iconst 3, 1) := by decide +kernel
theorem dX0_pushes_57 : decode cX0_pushes 57 = .ok (.iaload, 1) := by decide +kernel
theorem dX0_pushes_58 : decode cX0_pushes 58 = .ok (.iconst 4, 1) := by decide +kernel
theorem dX0_pushes_59 : decode cX0_pushes 59 = .ok (.idiv, 1) := by decide +kernel
theorem dX0_pushes_60 : decode cX0_pushes 60 = .ok (.iadd, 1) := by decide +kernel
theorem dX0_pushes_61 : decode cX0_pushes 61 = .ok (.goto 4, 3) := by decide +kernel
theorem dX0_pushes_64 : decode cX0_pushes 64 = .ok (.iconst 0, 1) := by decide +kernel
theorem dX0_pushes_65 : decode cX0_pushes 65 = .ok (.ireturn, 1) := by decide +kernel
theorem dX0_pushes_66 : decode cX0_pushes 66 = .ok (.aload_n 0, 1) := by decide +kernel
theorem dX0_pushes_67 : decode cX0_pushes 67 = .ok (.iload_n 1, 1) := by decide +kernel
theorem dX0_pushes_68 : decode cX0_pushes 68 = .ok (.invokevirtual 44, 3) := by decide +kernel
theorem dX0_pushes_71 : decode cX0_pushes 71 = .ok (.ifCond .eq 26, 3) := by decide +kernel
theorem dX0_pushes_74 : decode cX0_pushes 74 = .ok (.aload_n 0, 1) := by decide +kernel
theorem dX0_pushes_75 : decode cX0_pushes 75 = .ok (.getfield 18, 3) := by decide +kernel
theorem dX0_pushes_78 : decode cX0_pushes 78 = .ok (.getfield 61, 3) := by decide +kernel
theorem dX0_pushes_81 : decode cX0_pushes 81 = .ok (.iload_n 1, 1) := by decide +kernel
theorem dX0_pushes_82 : decode cX0_pushes 82 = .ok (.iaload, 1) := by decide +kernel
theorem dX0_pushes_83 : decode cX0_pushes 83 = .ok (.aload_n 0, 1) := by decide +kernel
theorem dX0_pushes_84 : decode cX0_pushes 84 = .ok (.getfield 31, 3) := by decide +kernel
theorem dX0_pushes_87 : decode cX0_pushes 87 = .ok (.if_icmp .ne 10, 3) := by decide +kernel
theorem dX0_pushes_90 : decode cX0_pushes 90 = .ok (.aload_n 0, 1) := by decide +kernel
theorem dX0_pushes_91 : decode cX0_pushes 91 = .ok (.getfield 27, 3) := by decide +kernel
theorem dX0_pushes_94 : decode cX0_pushes 94 = .ok (.goto 4, 3) := by decide +kernel
theorem dX0_pushes_97 : decode cX0_pushes 97 = .ok (.iconst 0, 1) := by decide +kernel
theorem dX0_pushes_98 : decode cX0_pushes 98 = .ok (.ireturn, 1) := by decide +kernel
theorem dX0_pushes_99 : decode cX0_pushes 99 = .ok (.iconst 0, 1) := by decide +kernel
theorem dX0_pushes_100 : decode cX0_pushes 100 = .ok (.ireturn, 1) := by decide +kernel
theorem dX0_holds_0 : decode cX0_holds 0 = .ok (.aload_n 0, 1) := by decide +kernel
theorem dX0_holds_1 : decode cX0_holds 1 = .ok (.getfield 18, 3) := by decide +kernel
theorem dX0_holds_4 : decode cX0_holds 4 = .ok (.getfield 54, 3) := by decide +kernel
theorem dX0_holds_7 : decode cX0_holds 7 = .ok (.iload_n 1, 1) := by decide +kernel
theorem dX0_holds_8 : decode cX0_holds 8 = .ok (.iaload, 1) := by decide +kernel
theorem dX0_holds_9 : decode cX0_holds 9 = .ok (.tableswitch 97 2 6 #[35, 66, 88, 88, 41], 35) := by decide +kernel
theorem dX0_holds_44 : decode cX0_holds 44 = .ok (.aload_n 0, 1) := by decide +kernel
theorem dX0_holds_45 : decode cX0_holds 45 = .ok (.iload_n 1, 1) := by decide +kernel
theorem dX0_holds_46 : decode cX0_holds 46 = .ok (.invokevirtual 64, 3) := by decide +kernel
theorem dX0_holds_49 : decode cX0_holds 49 = .ok (.ireturn, 1) := by decide +kernel
theorem dX0_holds_50 : decode cX0_holds 50 = .ok (.aload_n 0, 1) := by decide +kernel
theorem dX0_holds_51 : decode cX0_holds 51 = .ok (.iload_n 1, 1) := by decide +kernel
theorem dX0_holds_52 : decode cX0_holds 52 = .ok (.invokevirtual 64, 3) := by decide +kernel
theorem dX0_holds_55 : decode cX0_holds 55 = .ok (.aload_n 0, 1) := by decide +kernel
theorem dX0_holds_56 : decode cX0_holds 56 = .ok (.getfield 18, 3) := by decide +kernel
theorem dX0_holds_59 : decode cX0_holds 59 = .ok (.getfield 22, 3) := by decide +kernel
theorem dX0_holds_62 : decode cX0_holds 62 = .ok (.iconst 2, 1) := by decide +kernel
theorem dX0_holds_63 : decode cX0_holds 63 = .ok (.iaload, 1) := by decide +kernel
theorem dX0_holds_64 : decode cX0_holds 64 = .ok (.aload_n 0, 1) := by decide +kernel
theorem dX0_holds_65 : decode cX0_holds 65 = .ok (.iload_n 1, 1) := by decide +kernel
theorem dX0_holds_66 : decode cX0_holds 66 = .ok (.invokevirtual 64, 3) := by decide +kernel
theorem dX0_holds_69 : decode cX0_holds 69 = .ok (.imul, 1) := by decide +kernel
theorem dX0_holds_70 : decode cX0_holds 70 = .ok (.bipush 10, 2) := by decide +kernel
theorem dX0_holds_72 : decode cX0_holds 72 = .ok (.idiv, 1) := by decide +kernel
theorem dX0_holds_73 : decode cX0_holds 73 = .ok (.isub, 1) := by decide +kernel
theorem dX0_holds_74 : decode cX0_holds 74 = .ok (.ireturn, 1) := by decide +kernel
theorem dX0_holds_75 : decode cX0_holds 75 = .ok (.aload_n 0, 1) := by decide +kernel
theorem dX0_holds_76 : decode cX0_holds 76 = .ok (.iload_n 1, 1) := by decide +kernel
theorem dX0_holds_77 : decode cX0_holds 77 = .ok (.invokevirtual 57, 3) := by decide +kernel
theorem dX0_holds_80 : decode cX0_holds 80 = .ok (.ifCond .le 15, 3) := by decide +kernel
theorem dX0_holds_83 : decode cX0_holds 83 = .ok (.aload_n 0, 1) := by decide +kernel
theorem dX0_holds_84 : decode cX0_holds 84 = .ok (.getfield 18, 3) := by decide +kernel
theorem dX0_holds_87 : decode cX0_holds 87 = .ok (.getfield 67, 3) := by decide +kernel
theorem dX0_holds_90 : decode cX0_holds 90 = .ok (.iload_n 1, 1) := by decide +kernel
theorem dX0_holds_91 : decode cX0_holds 91 = .ok (.iaload, 1) := by decide +kernel
theorem dX0_holds_92 : decode cX0_holds 92 = .ok (.goto 4, 3) := by decide +kernel
theorem dX0_holds_95 : decode cX0_holds 95 = .ok (.iconst 0, 1) := by decide +kernel
theorem dX0_holds_96 : decode cX0_holds 96 = .ok (.ireturn, 1) := by decide +kernel
theorem dX0_holds_97 : decode cX0_holds 97 = .ok (.aload_n 0, 1) := by decide +kernel
theorem dX0_holds_98 : decode cX0_holds 98 = .ok (.iload_n 1, 1) := by decide +kernel
theorem dX0_holds_99 : decode cX0_holds 99 = .ok (.invokevirtual 57, 3) := by decide +kernel
theorem dX0_holds_102 : decode cX0_holds 102 = .ok (.bipush 10, 2) := by decide +kernel
theorem dX0_holds_104 : decode cX0_holds 104 = .ok (.idiv, 1) := by decide +kernel
theorem dX0_holds_105 : decode cX0_holds 105 = .ok (.ireturn, 1) := by decide +kernel
theorem dX0_holds_106 : decode cX0_holds 106 = .ok (.iconst 0, 1) := by decide +kernel
theorem dX0_holds_107 : decode cX0_holds 107 = .ok (.ireturn, 1) := by decide +kernel
theorem dX0_drawnHold_0 : decode cX0_drawnHold 0 = .ok (.aload_n 0, 1) := by decide +kernel
theorem dX0_drawnHold_1 : decode cX0_drawnHold 1 = .ok (.iload_n 1, 1) := by decide +kernel
theorem dX0_drawnHold_2 : decode cX0_drawnHold 2 = .ok (.invokevirtual 57, 3) := by decide +kernel
theorem dX0_drawnHold_5 : decode cX0_drawnHold 5 = .ok (.aload_n 0, 1) := by decide +kernel
theorem dX0_drawnHold_6 : decode cX0_drawnHold 6 = .ok (.getfield 37, 3) := by decide +kernel
theorem dX0_drawnHold_9 : decode cX0_drawnHold 9 = .ok (.imul, 1) := by decide +kernel
theorem dX0_drawnHold_10 : decode cX0_drawnHold 10 = .ok (.bipush 20, 2) := by decide +kernel
theorem dX0_drawnHold_12 : decode cX0_drawnHold 12 = .ok (.idiv, 1) := by decide +kernel
theorem dX0_drawnHold_13 : decode cX0_drawnHold 13 = .ok (.ireturn, 1) := by decide +kernel
theorem dX0_warms_0 : decode cX0_warms 0 = .ok (.aload_n 0, 1) := by decide +kernel
theorem dX0_warms_1 : decode cX0_warms 1 = .ok (.getfield 18, 3) := by decide +kernel
theorem dX0_warms_4 : decode cX0_warms 4 = .ok (.getfield 54, 3) := by decide +kernel
theorem dX0_warms_7 : decode cX0_warms 7 = .ok (.iload_n 1, 1) := by decide +kernel
theorem dX0_warms_8 : decode cX0_warms 8 = .ok (.iaload, 1) := by decide +kernel
theorem dX0_warms_9 : decode cX0_warms 9 = .ok (.lookupswitch 51 #[(4, 27), (5, 33)], 27) := by decide +kernel
theorem dX0_warms_36 : decode cX0_warms 36 = .ok (.aload_n 0, 1) := by decide +kernel
theorem dX0_warms_37 : decode cX0_warms 37 = .ok (.iload_n 1, 1) := by decide +kernel
theorem dX0_warms_38 : decode cX0_warms 38 = .ok (.invokevirtual 70, 3) := by decide +kernel
theorem dX0_warms_41 : decode cX0_warms 41 = .ok (.ireturn, 1) := by decide +kernel
theorem dX0_warms_42 : decode cX0_warms 42 = .ok (.iconst 0, 1) := by decide +kernel
theorem dX0_warms_43 : decode cX0_warms 43 = .ok (.aload_n 0, 1) := by decide +kernel
theorem dX0_warms_44 : decode cX0_warms 44 = .ok (.iload_n 1, 1) := by decide +kernel
theorem dX0_warms_45 : decode cX0_warms 45 = .ok (.invokevirtual 70, 3) := by decide +kernel
theorem dX0_warms_48 : decode cX0_warms 48 = .ok (.aload_n 0, 1) := by decide +kernel
theorem dX0_warms_49 : decode cX0_warms 49 = .ok (.getfield 27, 3) := by decide +kernel
theorem dX0_warms_52 : decode cX0_warms 52 = .ok (.bipush 10, 2) := by decide +kernel
theorem dX0_warms_54 : decode cX0_warms 54 = .ok (.idiv, 1) := by decide +kernel
theorem dX0_warms_55 : decode cX0_warms 55 = .ok (.isub, 1) := by decide +kernel
theorem dX0_warms_56 : decode cX0_warms 56 = .ok (.invokestatic 73, 3) := by decide +kernel
theorem dX0_warms_59 : decode cX0_warms 59 = .ok (.ireturn, 1) := by decide +kernel
theorem dX0_warms_60 : decode cX0_warms 60 = .ok (.iconst 0, 1) := by decide +kernel
theorem dX0_warms_61 : decode cX0_warms 61 = .ok (.ireturn, 1) := by decide +kernel
theorem dX0_feltWarms_0 : decode cX0_feltWarms 0 = .ok (.aload_n 0, 1) := by decide +kernel
theorem dX0_feltWarms_1 : decode cX0_feltWarms 1 = .ok (.iload_n 1, 1) := by decide +kernel
theorem dX0_feltWarms_2 : decode cX0_feltWarms 2 = .ok (.invokevirtual 57, 3) := by decide +kernel
theorem dX0_feltWarms_5 : decode cX0_feltWarms 5 = .ok (.iconst 5, 1) := by decide +kernel
theorem dX0_feltWarms_6 : decode cX0_feltWarms 6 = .ok (.idiv, 1) := by decide +kernel
theorem dX0_feltWarms_7 : decode cX0_feltWarms 7 = .ok (.istore_n 2, 1) := by decide +kernel
theorem dX0_feltWarms_8 : decode cX0_feltWarms 8 = .ok (.aload_n 0, 1) := by decide +kernel
theorem dX0_feltWarms_9 : decode cX0_feltWarms 9 = .ok (.getfield 18, 3) := by decide +kernel
theorem dX0_feltWarms_12 : decode cX0_feltWarms 12 = .ok (.getfield 22, 3) := by decide +kernel
theorem dX0_feltWarms_15 : decode cX0_feltWarms 15 = .ok (.iconst 2, 1) := by decide +kernel
theorem dX0_feltWarms_16 : decode cX0_feltWarms 16 = .ok (.iaload, 1) := by decide +kernel
theorem dX0_feltWarms_17 : decode cX0_feltWarms 17 = .ok (.iconst 5, 1) := by decide +kernel
theorem dX0_feltWarms_18 : decode cX0_feltWarms 18 = .ok (.if_icmp .lt 9, 3) := by decide +kernel
theorem dX0_feltWarms_21 : decode cX0_feltWarms 21 = .ok (.iload_n 2, 1) := by decide +kernel
theorem dX0_feltWarms_22 : decode cX0_feltWarms 22 = .ok (.iconst 2, 1) := by decide +kernel
theorem dX0_feltWarms_23 : decode cX0_feltWarms 23 = .ok (.idiv, 1) := by decide +kernel
theorem dX0_feltWarms_24 : decode cX0_feltWarms 24 = .ok (.goto 4, 3) := by decide +kernel
theorem dX0_feltWarms_27 : decode cX0_feltWarms 27 = .ok (.iload_n 2, 1) := by decide +kernel
theorem dX0_feltWarms_28 : decode cX0_feltWarms 28 = .ok (.ireturn, 1) := by decide +kernel
theorem dX0_gather_0 : decode cX0_gather 0 = .ok (.aload_n 0, 1) := by decide +kernel
theorem dX0_gather_1 : decode cX0_gather 1 = .ok (.getfield 9, 3) := by decide +kernel
theorem dX0_gather_4 : decode cX0_gather 4 = .ok (.iconst 0, 1) := by decide +kernel
theorem dX0_gather_5 : decode cX0_gather 5 = .ok (.invokestatic 79, 3) := by decide +kernel
theorem dX0_gather_8 : decode cX0_gather 8 = .ok (.aload_n 0, 1) := by decide +kernel
theorem dX0_gather_9 : decode cX0_gather 9 = .ok (.getfield 15, 3) := by decide +kernel
theorem dX0_gather_12 : decode cX0_gather 12 = .ok (.iconst 0, 1) := by decide +kernel
theorem dX0_gather_13 : decode cX0_gather 13 = .ok (.invokestatic 79, 3) := by decide +kernel
theorem dX0_gather_16 : decode cX0_gather 16 = .ok (.iconst 0, 1) := by decide +kernel
theorem dX0_gather_17 : decode cX0_gather 17 = .ok (.istore_n 1, 1) := by decide +kernel
theorem dX0_gather_18 : decode cX0_gather 18 = .ok (.iload_n 1, 1) := by decide +kernel
theorem dX0_gather_19 : decode cX0_gather 19 = .ok (.aload_n 0, 1) := by decide +kernel
theorem dX0_gather_20 : decode cX0_gather 20 = .ok (.getfield 18, 3) := by decide +kernel
theorem dX0_gather_23 : decode cX0_gather 23 = .ok (.getfield 85, 3) := by decide +kernel
theorem dX0_gather_26 : decode cX0_gather 26 = .ok (.if_icmp .ge 53, 3) := by decide +kernel
theorem dX0_gather_29 : decode cX0_gather 29 = .ok (.aload_n 0, 1) := by decide +kernel
theorem dX0_gather_30 : decode cX0_gather 30 = .ok (.getfield 9, 3) := by decide +kernel
theorem dX0_gather_33 : decode cX0_gather 33 = .ok (.aload_n 0, 1) := by decide +kernel
theorem dX0_gather_34 : decode cX0_gather 34 = .ok (.getfield 18, 3) := by decide +kernel
theorem dX0_gather_37 : decode cX0_gather 37 = .ok (.getfield 61, 3) := by decide +kernel
theorem dX0_gather_40 : decode cX0_gather 40 = .ok (.iload_n 1, 1) := by decide +kernel
theorem dX0_gather_41 : decode cX0_gather 41 = .ok (.iaload, 1) := by decide +kernel
theorem dX0_gather_42 : decode cX0_gather 42 = .ok (.dup2, 1) := by decide +kernel
theorem dX0_gather_43 : decode cX0_gather 43 = .ok (.iaload, 1) := by decide +kernel
theorem dX0_gather_44 : decode cX0_gather 44 = .ok (.aload_n 0, 1) := by decide +kernel
theorem dX0_gather_45 : decode cX0_gather 45 = .ok (.iload_n 1, 1) := by decide +kernel
theorem dX0_gather_46 : decode cX0_gather 46 = .ok (.invokevirtual 88, 3) := by decide +kernel
theorem dX0_gather_49 : decode cX0_gather 49 = .ok (.iadd, 1) := by decide +kernel
theorem dX0_gather_50 : decode cX0_gather 50 = .ok (.iastore, 1) := by decide +kernel
theorem dX0_gather_51 : decode cX0_gather 51 = .ok (.aload_n 0, 1) := by decide +kernel
theorem dX0_gather_52 : decode cX0_gather 52 = .ok (.getfield 15, 3) := by decide +kernel
theorem dX0_gather_55 : decode cX0_gather 55 = .ok (.aload_n 0, 1) := by decide +kernel
theorem dX0_gather_56 : decode cX0_gather 56 = .ok (.getfield 18, 3) := by decide +kernel
theorem dX0_gather_59 : decode cX0_gather 59 = .ok (.getfield 61, 3) := by decide +kernel
theorem dX0_gather_62 : decode cX0_gather 62 = .ok (.iload_n 1, 1) := by decide +kernel
theorem dX0_gather_63 : decode cX0_gather 63 = .ok (.iaload, 1) := by decide +kernel
theorem dX0_gather_64 : decode cX0_gather 64 = .ok (.dup2, 1) := by decide +kernel
theorem dX0_gather_65 : decode cX0_gather 65 = .ok (.iaload, 1) := by decide +kernel
theorem dX0_gather_66 : decode cX0_gather 66 = .ok (.aload_n 0, 1) := by decide +kernel
theorem dX0_gather_67 : decode cX0_gather 67 = .ok (.iload_n 1, 1) := by decide +kernel
theorem dX0_gather_68 : decode cX0_gather 68 = .ok (.invokevirtual 91, 3) := by decide +kernel
theorem dX0_gather_71 : decode cX0_gather 71 = .ok (.iadd, 1) := by decide +kernel
theorem dX0_gather_72 : decode cX0_gather 72 = .ok (.iastore, 1) := by decide +kernel
theorem dX0_gather_73 : decode cX0_gather 73 = .ok (.iinc 1 1, 3) := by decide +kernel
theorem dX0_gather_76 : decode cX0_gather 76 = .ok (.goto (-58), 3) := by decide +kernel
theorem dX0_gather_79 : decode cX0_gather 79 = .ok (.return_, 1) := by decide +kernel
theorem dX0_strain_0 : decode cX0_strain 0 = .ok (.iload_n 1, 1) := by decide +kernel
theorem dX0_strain_1 : decode cX0_strain 1 = .ok (.aload_n 0, 1) := by decide +kernel
theorem dX0_strain_2 : decode cX0_strain 2 = .ok (.getfield 31, 3) := by decide +kernel
theorem dX0_strain_5 : decode cX0_strain 5 = .ok (.iconst 4, 1) := by decide +kernel
theorem dX0_strain_6 : decode cX0_strain 6 = .ok (.iadd, 1) := by decide +kernel
theorem dX0_strain_7 : decode cX0_strain 7 = .ok (.bipush 8, 2) := by decide +kernel
theorem dX0_strain_9 : decode cX0_strain 9 = .ok (.irem, 1) := by decide +kernel
theorem dX0_strain_10 : decode cX0_strain 10 = .ok (.if_icmp .ne 15, 3) := by decide +kernel
theorem dX0_strain_13 : decode cX0_strain 13 = .ok (.aload_n 0, 1) := by decide +kernel
theorem dX0_strain_14 : decode cX0_strain 14 = .ok (.getfield 9, 3) := by decide +kernel
theorem dX0_strain_17 : decode cX0_strain 17 = .ok (.iload_n 1, 1) := by decide +kernel
theorem dX0_strain_18 : decode cX0_strain 18 = .ok (.iaload, 1) := by decide +kernel
theorem dX0_strain_19 : decode cX0_strain 19 = .ok (.aload_n 0, 1) := by decide +kernel
theorem dX0_strain_20 : decode cX0_strain 20 = .ok (.getfield 27, 3) := by decide +kernel
theorem dX0_strain_23 : decode cX0_strain 23 = .ok (.iadd, 1) := by decide +kernel
theorem dX0_strain_24 : decode cX0_strain 24 = .ok (.ireturn, 1) := by decide +kernel
theorem dX0_strain_25 : decode cX0_strain 25 = .ok (.aload_n 0, 1) := by decide +kernel
theorem dX0_strain_26 : decode cX0_strain 26 = .ok (.getfield 9, 3) := by decide +kernel
theorem dX0_strain_29 : decode cX0_strain 29 = .ok (.iload_n 1, 1) := by decide +kernel
theorem dX0_strain_30 : decode cX0_strain 30 = .ok (.iaload, 1) := by decide +kernel
theorem dX0_strain_31 : decode cX0_strain 31 = .ok (.iload_n 1, 1) := by decide +kernel
theorem dX0_strain_32 : decode cX0_strain 32 = .ok (.aload_n 0, 1) := by decide +kernel
theorem dX0_strain_33 : decode cX0_strain 33 = .ok (.getfield 31, 3) := by decide +kernel
theorem dX0_strain_36 : decode cX0_strain 36 = .ok (.if_icmp .ne 12, 3) := by decide +kernel
theorem dX0_strain_39 : decode cX0_strain 39 = .ok (.aload_n 0, 1) := by decide +kernel
theorem dX0_strain_40 : decode cX0_strain 40 = .ok (.getfield 27, 3) := by decide +kernel
theorem dX0_strain_43 : decode cX0_strain 43 = .ok (.iconst 2, 1) := by decide +kernel
theorem dX0_strain_44 : decode cX0_strain 44 = .ok (.idiv, 1) := by decide +kernel
theorem dX0_strain_45 : decode cX0_strain 45 = .ok (.goto 9, 3) := by decide +kernel
theorem dX0_strain_48 : decode cX0_strain 48 = .ok (.aload_n 0, 1) := by decide +kernel
theorem dX0_strain_49 : decode cX0_strain 49 = .ok (.getfield 27, 3) := by decide +kernel
theorem dX0_strain_52 : decode cX0_strain 52 = .ok (.iconst 4, 1) := by decide +kernel
theorem dX0_strain_53 : decode cX0_strain 53 = .ok (.idiv, 1) := by decide +kernel
theorem dX0_strain_54 : decode cX0_strain 54 = .ok (.iadd, 1) := by decide +kernel
theorem dX0_strain_55 : decode cX0_strain 55 = .ok (.ireturn, 1) := by decide +kernel
theorem dX0_hold_0 : decode cX0_hold 0 = .ok (.aload_n 0, 1) := by decide +kernel
theorem dX0_hold_1 : decode cX0_hold 1 = .ok (.getfield 15, 3) := by decide +kernel
theorem dX0_hold_4 : decode cX0_hold 4 = .ok (.iload_n 1, 1) := by decide +kernel
theorem dX0_hold_5 : decode cX0_hold 5 = .ok (.iconst 1, 1) := by decide +kernel
theorem dX0_hold_6 : decode cX0_hold 6 = .ok (.iadd, 1) := by decide +kernel
theorem dX0_hold_7 : decode cX0_hold 7 = .ok (.bipush 8, 2) := by decide +kernel
theorem dX0_hold_9 : decode cX0_hold 9 = .ok (.irem, 1) := by decide +kernel
theorem dX0_hold_10 : decode cX0_hold 10 = .ok (.iaload, 1) := by decide +kernel
theorem dX0_hold_11 : decode cX0_hold 11 = .ok (.aload_n 0, 1) := by decide +kernel
theorem dX0_hold_12 : decode cX0_hold 12 = .ok (.getfield 15, 3) := by decide +kernel
theorem dX0_hold_15 : decode cX0_hold 15 = .ok (.iload_n 1, 1) := by decide +kernel
theorem dX0_hold_16 : decode cX0_hold 16 = .ok (.bipush 8, 2) := by decide +kernel
theorem dX0_hold_18 : decode cX0_hold 18 = .ok (.iadd, 1) := by decide +kernel
theorem dX0_hold_19 : decode cX0_hold 19 = .ok (.iconst 1, 1) := by decide +kernel
theorem dX0_hold_20 : decode cX0_hold 20 = .ok (.isub, 1) := by decide +kernel
theorem dX0_hold_21 : decode cX0_hold 21 = .ok (.bipush 8, 2) := by decide +kernel
theorem dX0_hold_23 : decode cX0_hold 23 = .ok (.irem, 1) := by decide +kernel
theorem dX0_hold_24 : decode cX0_hold 24 = .ok (.iaload, 1) := by decide +kernel
theorem dX0_hold_25 : decode cX0_hold 25 = .ok (.iadd, 1) := by decide +kernel
theorem dX0_hold_26 : decode cX0_hold 26 = .ok (.istore_n 2, 1) := by decide +kernel
theorem dX0_hold_27 : decode cX0_hold 27 = .ok (.aload_n 0, 1) := by decide +kernel
theorem dX0_hold_28 : decode cX0_hold 28 = .ok (.getfield 15, 3) := by decide +kernel
theorem dX0_hold_31 : decode cX0_hold 31 = .ok (.iload_n 1, 1) := by decide +kernel
theorem dX0_hold_32 : decode cX0_hold 32 = .ok (.iaload, 1) := by decide +kernel
theorem dX0_hold_33 : decode cX0_hold 33 = .ok (.iload_n 2, 1) := by decide +kernel
theorem dX0_hold_34 : decode cX0_hold 34 = .ok (.iconst 2, 1) := by decide +kernel
theorem dX0_hold_35 : decode cX0_hold 35 = .ok (.idiv, 1) := by decide +kernel
theorem dX0_hold_36 : decode cX0_hold 36 = .ok (.iadd, 1) := by decide +kernel
theorem dX0_hold_37 : decode cX0_hold 37 = .ok (.ireturn, 1) := by decide +kernel
theorem dX0_spare_0 : decode cX0_spare 0 = .ok (.aload_n 0, 1) := by decide +kernel
theorem dX0_spare_1 : decode cX0_spare 1 = .ok (.iload_n 1, 1) := by decide +kernel
theorem dX0_spare_2 : decode cX0_spare 2 = .ok (.invokevirtual 94, 3) := by decide +kernel
theorem dX0_spare_5 : decode cX0_spare 5 = .ok (.aload_n 0, 1) := by decide +kernel
theorem dX0_spare_6 : decode cX0_spare 6 = .ok (.iload_n 1, 1) := by decide +kernel
theorem dX0_spare_7 : decode cX0_spare 7 = .ok (.invokevirtual 97, 3) := by decide +kernel
theorem dX0_spare_10 : decode cX0_spare 10 = .ok (.isub, 1) := by decide +kernel
theorem dX0_spare_11 : decode cX0_spare 11 = .ok (.ireturn, 1) := by decide +kernel
theorem dX0_weakestSide_0 : decode cX0_weakestSide 0 = .ok (.iconst 0, 1) := by decide +kernel
theorem dX0_weakestSide_1 : decode cX0_weakestSide 1 = .ok (.istore_n 1, 1) := by decide +kernel
theorem dX0_weakestSide_2 : decode cX0_weakestSide 2 = .ok (.iconst 1, 1) := by decide +kernel
theorem dX0_weakestSide_3 : decode cX0_weakestSide 3 = .ok (.istore_n 2, 1) := by decide +kernel
theorem dX0_weakestSide_4 : decode cX0_weakestSide 4 = .ok (.iload_n 2, 1) := by decide +kernel
theorem dX0_weakestSide_5 : decode cX0_weakestSide 5 = .ok (.bipush 8, 2) := by decide +kernel
theorem dX0_weakestSide_7 : decode cX0_weakestSide 7 = .ok (.if_icmp .ge 24, 3) := by decide +kernel
theorem dX0_weakestSide_10 : decode cX0_weakestSide 10 = .ok (.aload_n 0, 1) := by decide +kernel
theorem dX0_weakestSide_11 : decode cX0_weakestSide 11 = .ok (.iload_n 2, 1) := by decide +kernel
theorem dX0_weakestSide_12 : decode cX0_weakestSide 12 = .ok (.invokevirtual 100, 3) := by decide +kernel
theorem dX0_weakestSide_15 : decode cX0_weakestSide 15 = .ok (.aload_n 0, 1) := by decide +kernel
theorem dX0_weakestSide_16 : decode cX0_weakestSide 16 = .ok (.iload_n 1, 1) := by decide +kernel
theorem dX0_weakestSide_17 : decode cX0_weakestSide 17 = .ok (.invokevirtual 100, 3) := by decide +kernel
theorem dX0_weakestSide_20 : decode cX0_weakestSide 20 = .ok (.if_icmp .ge 5, 3) := by decide +kernel
theorem dX0_weakestSide_23 : decode cX0_weakestSide 23 = .ok (.iload_n 2, 1) := by decide +kernel
theorem dX0_weakestSide_24 : decode cX0_weakestSide 24 = .ok (.istore_n 1, 1) := by decide +kernel
theorem dX0_weakestSide_25 : decode cX0_weakestSide 25 = .ok (.iinc 2 1, 3) := by decide +kernel
theorem dX0_weakestSide_28 : decode cX0_weakestSide 28 = .ok (.goto (-24), 3) := by decide +kernel
theorem dX0_weakestSide_31 : decode cX0_weakestSide 31 = .ok (.iload_n 1, 1) := by decide +kernel
theorem dX0_weakestSide_32 : decode cX0_weakestSide 32 = .ok (.ireturn, 1) := by decide +kernel
theorem dX0_isStanding_0 : decode cX0_isStanding 0 = .ok (.aload_n 0, 1) := by decide +kernel
theorem dX0_isStanding_1 : decode cX0_isStanding 1 = .ok (.invokevirtual 103, 3) := by decide +kernel
theorem dX0_isStanding_4 : decode cX0_isStanding 4 = .ok (.ifCond .eq 10, 3) := by decide +kernel
theorem dX0_isStanding_7 : decode cX0_isStanding 7 = .ok (.aload_n 0, 1) := by decide +kernel
theorem dX0_isStanding_8 : decode cX0_isStanding 8 = .ok (.invokevirtual 107, 3) := by decide +kernel
theorem dX0_isStanding_11 : decode cX0_isStanding 11 = .ok (.ifCond .eq 5, 3) := by decide +kernel
theorem dX0_isStanding_14 : decode cX0_isStanding 14 = .ok (.iconst 0, 1) := by decide +kernel
theorem dX0_isStanding_15 : decode cX0_isStanding 15 = .ok (.ireturn, 1) := by decide +kernel
theorem dX0_isStanding_16 : decode cX0_isStanding 16 = .ok (.aload_n 0, 1) := by decide +kernel
theorem dX0_isStanding_17 : decode cX0_isStanding 17 = .ok (.invokevirtual 110, 3) := by decide +kernel
theorem dX0_isStanding_20 : decode cX0_isStanding 20 = .ok (.iconst 0, 1) := by decide +kernel
theorem dX0_isStanding_21 : decode cX0_isStanding 21 = .ok (.istore_n 1, 1) := by decide +kernel
theorem dX0_isStanding_22 : decode cX0_isStanding 22 = .ok (.iload_n 1, 1) := by decide +kernel
theorem dX0_isStanding_23 : decode cX0_isStanding 23 = .ok (.bipush 8, 2) := by decide +kernel
theorem dX0_isStanding_25 : decode cX0_isStanding 25 = .ok (.if_icmp .ge 19, 3) := by decide +kernel
theorem dX0_isStanding_28 : decode cX0_isStanding 28 = .ok (.aload_n 0, 1) := by decide +kernel
theorem dX0_isStanding_29 : decode cX0_isStanding 29 = .ok (.iload_n 1, 1) := by decide +kernel
theorem dX0_isStanding_30 : decode cX0_isStanding 30 = .ok (.invokevirtual 100, 3) := by decide +kernel
theorem dX0_isStanding_33 : decode cX0_isStanding 33 = .ok (.ifCond .ge 5, 3) := by decide +kernel
theorem dX0_isStanding_36 : decode cX0_isStanding 36 = .ok (.iconst 0, 1) := by decide +kernel
theorem dX0_isStanding_37 : decode cX0_isStanding 37 = .ok (.ireturn, 1) := by decide +kernel
theorem dX0_isStanding_38 : decode cX0_isStanding 38 = .ok (.iinc 1 1, 3) := by decide +kernel
theorem dX0_isStanding_41 : decode cX0_isStanding 41 = .ok (.goto (-19), 3) := by decide +kernel
theorem dX0_isStanding_44 : decode cX0_isStanding 44 = .ok (.iconst 1, 1) := by decide +kernel
theorem dX0_isStanding_45 : decode cX0_isStanding 45 = .ok (.ireturn, 1) := by decide +kernel
theorem dX0_hasPoles_0 : decode cX0_hasPoles 0 = .ok (.iconst 0, 1) := by decide +kernel
theorem dX0_hasPoles_1 : decode cX0_hasPoles 1 = .ok (.istore_n 1, 1) := by decide +kernel
theorem dX0_hasPoles_2 : decode cX0_hasPoles 2 = .ok (.iconst 0, 1) := by decide +kernel
theorem dX0_hasPoles_3 : decode cX0_hasPoles 3 = .ok (.istore_n 2, 1) := by decide +kernel
theorem dX0_hasPoles_4 : decode cX0_hasPoles 4 = .ok (.iload_n 2, 1) := by decide +kernel
theorem dX0_hasPoles_5 : decode cX0_hasPoles 5 = .ok (.aload_n 0, 1) := by decide +kernel
theorem dX0_hasPoles_6 : decode cX0_hasPoles 6 = .ok (.getfield 18, 3) := by decide +kernel
theorem dX0_hasPoles_9 : decode cX0_hasPoles 9 = .ok (.getfield 85, 3) := by decide +kernel
theorem dX0_hasPoles_12 : decode cX0_hasPoles 12 = .ok (.if_icmp .ge 44, 3) := by decide +kernel
theorem dX0_hasPoles_15 : decode cX0_hasPoles 15 = .ok (.aload_n 0, 1) := by decide +kernel
theorem dX0_hasPoles_16 : decode cX0_hasPoles 16 = .ok (.getfield 18, 3) := by decide +kernel
theorem dX0_hasPoles_19 : decode cX0_hasPoles 19 = .ok (.getfield 54, 3) := by decide +kernel
theorem dX0_hasPoles_22 : decode cX0_hasPoles 22 = .ok (.iload_n 2, 1) := by decide +kernel
theorem dX0_hasPoles_23 : decode cX0_hasPoles 23 = .ok (.iaload, 1) := by decide +kernel
theorem dX0_hasPoles_24 : decode cX0_hasPoles 24 = .ok (.iconst 1, 1) := by decide +kernel
theorem dX0_hasPoles_25 : decode cX0_hasPoles 25 = .ok (.if_icmp .ne 25, 3) := by decide +kernel
theorem dX0_hasPoles_28 : decode cX0_hasPoles 28 = .ok (.aload_n 0, 1) := by decide +kernel
theorem dX0_hasPoles_29 : decode cX0_hasPoles 29 = .ok (.iload_n 2, 1) := by decide +kernel
theorem dX0_hasPoles_30 : decode cX0_hasPoles 30 = .ok (.invokevirtual 57, 3) := by decide +kernel
theorem dX0_hasPoles_33 : decode cX0_hasPoles 33 = .ok (.ifCond .le 17, 3) := by decide +kernel
theorem dX0_hasPoles_36 : decode cX0_hasPoles 36 = .ok (.iload_n 1, 1) := by decide +kernel
theorem dX0_hasPoles_37 : decode cX0_hasPoles 37 = .ok (.iconst 1, 1) := by decide +kernel
theorem dX0_hasPoles_38 : decode cX0_hasPoles 38 = .ok (.aload_n 0, 1) := by decide +kernel
theorem dX0_hasPoles_39 : decode cX0_hasPoles 39 = .ok (.getfield 18, 3) := by decide +kernel
theorem dX0_hasPoles_42 : decode cX0_hasPoles 42 = .ok (.getfield 61, 3) := by decide +kernel
theorem dX0_hasPoles_45 : decode cX0_hasPoles 45 = .ok (.iload_n 2, 1) := by decide +kernel
theorem dX0_hasPoles_46 : decode cX0_hasPoles 46 = .ok (.iaload, 1) := by decide +kernel
theorem dX0_hasPoles_47 : decode cX0_hasPoles 47 = .ok (.ishl, 1) := by decide +kernel
theorem dX0_hasPoles_48 : decode cX0_hasPoles 48 = .ok (.ior, 1) := by decide +kernel
theorem dX0_hasPoles_49 : decode cX0_hasPoles 49 = .ok (.istore_n 1, 1) := by decide +kernel
theorem dX0_hasPoles_50 : decode cX0_hasPoles 50 = .ok (.iinc 2 1, 3) := by decide +kernel
theorem dX0_hasPoles_53 : decode cX0_hasPoles 53 = .ok (.goto (-49), 3) := by decide +kernel
theorem dX0_hasPoles_56 : decode cX0_hasPoles 56 = .ok (.iload_n 1, 1) := by decide +kernel
theorem dX0_hasPoles_57 : decode cX0_hasPoles 57 = .ok (.invokestatic 113, 3) := by decide +kernel
theorem dX0_hasPoles_60 : decode cX0_hasPoles 60 = .ok (.iconst 3, 1) := by decide +kernel
theorem dX0_hasPoles_61 : decode cX0_hasPoles 61 = .ok (.if_icmp .lt 7, 3) := by decide +kernel
theorem dX0_hasPoles_64 : decode cX0_hasPoles 64 = .ok (.iconst 1, 1) := by decide +kernel
theorem dX0_hasPoles_65 : decode cX0_hasPoles 65 = .ok (.goto 4, 3) := by decide +kernel
theorem dX0_hasPoles_68 : decode cX0_hasPoles 68 = .ok (.iconst 0, 1) := by decide +kernel
theorem dX0_hasPoles_69 : decode cX0_hasPoles 69 = .ok (.ireturn, 1) := by decide +kernel
theorem dX0_isOverdrawn_0 : decode cX0_isOverdrawn 0 = .ok (.iconst 0, 1) := by decide +kernel
theorem dX0_isOverdrawn_1 : decode cX0_isOverdrawn 1 = .ok (.istore_n 1, 1) := by decide +kernel
theorem dX0_isOverdrawn_2 : decode cX0_isOverdrawn 2 = .ok (.iload_n 1, 1) := by decide +kernel
theorem dX0_isOverdrawn_3 : decode cX0_isOverdrawn 3 = .ok (.aload_n 0, 1) := by decide +kernel
theorem dX0_isOverdrawn_4 : decode cX0_isOverdrawn 4 = .ok (.getfield 18, 3) := by decide +kernel
theorem dX0_isOverdrawn_7 : decode cX0_isOverdrawn 7 = .ok (.getfield 85, 3) := by decide +kernel
theorem dX0_isOverdrawn_10 : decode cX0_isOverdrawn 10 = .ok (.if_icmp .ge 52, 3) := by decide +kernel
theorem dX0_isOverdrawn_13 : decode cX0_isOverdrawn 13 = .ok (.aload_n 0, 1) := by decide +kernel
theorem dX0_isOverdrawn_14 : decode cX0_isOverdrawn 14 = .ok (.iload_n 1, 1) := by decide +kernel
theorem dX0_isOverdrawn_15 : decode cX0_isOverdrawn 15 = .ok (.invokevirtual 44, 3) := by decide +kernel
theorem dX0_isOverdrawn_18 : decode cX0_isOverdrawn 18 = .ok (.ifCond .eq 38, 3) := by decide +kernel
theorem dX0_isOverdrawn_21 : decode cX0_isOverdrawn 21 = .ok (.aload_n 0, 1) := by decide +kernel
theorem dX0_isOverdrawn_22 : decode cX0_isOverdrawn 22 = .ok (.getfield 18, 3) := by decide +kernel
theorem dX0_isOverdrawn_25 : decode cX0_isOverdrawn 25 = .ok (.getfield 54, 3) := by decide +kernel
theorem dX0_isOverdrawn_28 : decode cX0_isOverdrawn 28 = .ok (.iload_n 1, 1) := by decide +kernel
theorem dX0_isOverdrawn_29 : decode cX0_isOverdrawn 29 = .ok (.iaload, 1) := by decide +kernel
theorem dX0_isOverdrawn_30 : decode cX0_isOverdrawn 30 = .ok (.iconst 2, 1) := by decide +kernel
theorem dX0_isOverdrawn_31 : decode cX0_isOverdrawn 31 = .ok (.invokestatic 118, 3) := by decide +kernel
theorem dX0_isOverdrawn_34 : decode cX0_isOverdrawn 34 = .ok (.ifCond .eq 22, 3) := by decide +kernel
theorem dX0_isOverdrawn_37 : decode cX0_isOverdrawn 37 = .ok (.aload_n 0, 1) := by decide +kernel
theorem dX0_isOverdrawn_38 : decode cX0_isOverdrawn 38 = .ok (.getfield 37, 3) := by decide +kernel
theorem dX0_isOverdrawn_41 : decode cX0_isOverdrawn 41 = .ok (.aload_n 0, 1) := by decide +kernel
theorem dX0_isOverdrawn_42 : decode cX0_isOverdrawn 42 = .ok (.iload_n 1, 1) := by decide +kernel
theorem dX0_isOverdrawn_43 : decode cX0_isOverdrawn 43 = .ok (.invokevirtual 57, 3) := by decide +kernel
theorem dX0_isOverdrawn_46 : decode cX0_isOverdrawn 46 = .ok (.iconst 2, 1) := by decide +kernel
theorem dX0_isOverdrawn_47 : decode cX0_isOverdrawn 47 = .ok (.idiv, 1) := by decide +kernel
theorem dX0_isOverdrawn_48 : decode cX0_isOverdrawn 48 = .ok (.bipush 20, 2) := by decide +kernel
theorem dX0_isOverdrawn_50 : decode cX0_isOverdrawn 50 = .ok (.iadd, 1) := by decide +kernel
theorem dX0_isOverdrawn_51 : decode cX0_isOverdrawn 51 = .ok (.if_icmp .le 5, 3) := by decide +kernel
theorem dX0_isOverdrawn_54 : decode cX0_isOverdrawn 54 = .ok (.iconst 1, 1) := by decide +kernel
theorem dX0_isOverdrawn_55 : decode cX0_isOverdrawn 55 = .ok (.ireturn, 1) := by decide +kernel
theorem dX0_isOverdrawn_56 : decode cX0_isOverdrawn 56 = .ok (.iinc 1 1, 3) := by decide +kernel
theorem dX0_isOverdrawn_59 : decode cX0_isOverdrawn 59 = .ok (.goto (-57), 3) := by decide +kernel
theorem dX0_isOverdrawn_62 : decode cX0_isOverdrawn 62 = .ok (.iconst 0, 1) := by decide +kernel
theorem dX0_isOverdrawn_63 : decode cX0_isOverdrawn 63 = .ok (.ireturn, 1) := by decide +kernel
theorem dX0_warmthOfAll_0 : decode cX0_warmthOfAll 0 = .ok (.iconst 0, 1) := by decide +kernel
theorem dX0_warmthOfAll_1 : decode cX0_warmthOfAll 1 = .ok (.istore_n 1, 1) := by decide +kernel
theorem dX0_warmthOfAll_2 : decode cX0_warmthOfAll 2 = .ok (.iconst 0, 1) := by decide +kernel
theorem dX0_warmthOfAll_3 : decode cX0_warmthOfAll 3 = .ok (.istore_n 2, 1) := by decide +kernel
theorem dX0_warmthOfAll_4 : decode cX0_warmthOfAll 4 = .ok (.iload_n 2, 1) := by decide +kernel
theorem dX0_warmthOfAll_5 : decode cX0_warmthOfAll 5 = .ok (.aload_n 0, 1) := by decide +kernel
theorem dX0_warmthOfAll_6 : decode cX0_warmthOfAll 6 = .ok (.getfield 18, 3) := by decide +kernel
theorem dX0_warmthOfAll_9 : decode cX0_warmthOfAll 9 = .ok (.getfield 85, 3) := by decide +kernel
theorem dX0_warmthOfAll_12 : decode cX0_warmthOfAll 12 = .ok (.if_icmp .ge 17, 3) := by decide +kernel
theorem dX0_warmthOfAll_15 : decode cX0_warmthOfAll 15 = .ok (.iload_n 1, 1) := by decide +kernel
theorem dX0_warmthOfAll_16 : decode cX0_warmthOfAll 16 = .ok (.aload_n 0, 1) := by decide +kernel
theorem dX0_warmthOfAll_17 : decode cX0_warmthOfAll 17 = .ok (.iload_n 2, 1) := by decide +kernel
theorem dX0_warmthOfAll_18 : decode cX0_warmthOfAll 18 = .ok (.invokevirtual 122, 3) := by decide +kernel
theorem dX0_warmthOfAll_21 : decode cX0_warmthOfAll 21 = .ok (.iadd, 1) := by decide +kernel
theorem dX0_warmthOfAll_22 : decode cX0_warmthOfAll 22 = .ok (.istore_n 1, 1) := by decide +kernel
theorem dX0_warmthOfAll_23 : decode cX0_warmthOfAll 23 = .ok (.iinc 2 1, 3) := by decide +kernel
theorem dX0_warmthOfAll_26 : decode cX0_warmthOfAll 26 = .ok (.goto (-22), 3) := by decide +kernel
theorem dX0_warmthOfAll_29 : decode cX0_warmthOfAll 29 = .ok (.iload_n 1, 1) := by decide +kernel
theorem dX0_warmthOfAll_30 : decode cX0_warmthOfAll 30 = .ok (.aload_n 0, 1) := by decide +kernel
theorem dX0_warmthOfAll_31 : decode cX0_warmthOfAll 31 = .ok (.getfield 27, 3) := by decide +kernel
theorem dX0_warmthOfAll_34 : decode cX0_warmthOfAll 34 = .ok (.iconst 5, 1) := by decide +kernel
theorem dX0_warmthOfAll_35 : decode cX0_warmthOfAll 35 = .ok (.idiv, 1) := by decide +kernel
theorem dX0_warmthOfAll_36 : decode cX0_warmthOfAll 36 = .ok (.isub, 1) := by decide +kernel
theorem dX0_warmthOfAll_37 : decode cX0_warmthOfAll 37 = .ok (.aload_n 0, 1) := by decide +kernel
theorem dX0_warmthOfAll_38 : decode cX0_warmthOfAll 38 = .ok (.getfield 18, 3) := by decide +kernel
theorem dX0_warmthOfAll_41 : decode cX0_warmthOfAll 41 = .ok (.getfield 22, 3) := by decide +kernel
theorem dX0_warmthOfAll_44 : decode cX0_warmthOfAll 44 = .ok (.iconst 3, 1) := by decide +kernel
theorem dX0_warmthOfAll_45 : decode cX0_warmthOfAll 45 = .ok (.iaload, 1) := by decide +kernel
theorem dX0_warmthOfAll_46 : decode cX0_warmthOfAll 46 = .ok (.iconst 3, 1) := by decide +kernel
theorem dX0_warmthOfAll_47 : decode cX0_warmthOfAll 47 = .ok (.idiv, 1) := by decide +kernel
theorem dX0_warmthOfAll_48 : decode cX0_warmthOfAll 48 = .ok (.isub, 1) := by decide +kernel
theorem dX0_warmthOfAll_49 : decode cX0_warmthOfAll 49 = .ok (.ireturn, 1) := by decide +kernel
theorem dX0_fuel_0 : decode cX0_fuel 0 = .ok (.aload_n 0, 1) := by decide +kernel
theorem dX0_fuel_1 : decode cX0_fuel 1 = .ok (.getfield 18, 3) := by decide +kernel
theorem dX0_fuel_4 : decode cX0_fuel 4 = .ok (.getfield 22, 3) := by decide +kernel
theorem dX0_fuel_7 : decode cX0_fuel 7 = .ok (.iconst 4, 1) := by decide +kernel
theorem dX0_fuel_8 : decode cX0_fuel 8 = .ok (.iaload, 1) := by decide +kernel
theorem dX0_fuel_9 : decode cX0_fuel 9 = .ok (.bipush 10, 2) := by decide +kernel
theorem dX0_fuel_11 : decode cX0_fuel 11 = .ok (.imul, 1) := by decide +kernel
theorem dX0_fuel_12 : decode cX0_fuel 12 = .ok (.aload_n 0, 1) := by decide +kernel
theorem dX0_fuel_13 : decode cX0_fuel 13 = .ok (.invokevirtual 125, 3) := by decide +kernel
theorem dX0_fuel_16 : decode cX0_fuel 16 = .ok (.isub, 1) := by decide +kernel
theorem dX0_fuel_17 : decode cX0_fuel 17 = .ok (.istore_n 1, 1) := by decide +kernel
theorem dX0_fuel_18 : decode cX0_fuel 18 = .ok (.iload_n 1, 1) := by decide +kernel
theorem dX0_fuel_19 : decode cX0_fuel 19 = .ok (.ifCond .le 12, 3) := by decide +kernel
theorem dX0_fuel_22 : decode cX0_fuel 22 = .ok (.iload_n 1, 1) := by decide +kernel
theorem dX0_fuel_23 : decode cX0_fuel 23 = .ok (.bipush 20, 2) := by decide +kernel
theorem dX0_fuel_25 : decode cX0_fuel 25 = .ok (.idiv, 1) := by decide +kernel
theorem dX0_fuel_26 : decode cX0_fuel 26 = .ok (.iconst 1, 1) := by decide +kernel
theorem dX0_fuel_27 : decode cX0_fuel 27 = .ok (.iadd, 1) := by decide +kernel
theorem dX0_fuel_28 : decode cX0_fuel 28 = .ok (.goto 4, 3) := by decide +kernel
theorem dX0_fuel_31 : decode cX0_fuel 31 = .ok (.iconst 0, 1) := by decide +kernel
theorem dX0_fuel_32 : decode cX0_fuel 32 = .ok (.ireturn, 1) := by decide +kernel
theorem dX1_init_0 : decode cX1_init 0 = .ok (.aload_n 0, 1) := by decide +kernel
theorem dX1_init_1 : decode cX1_init 1 = .ok (.invokespecial 5, 3) := by decide +kernel
theorem dX1_init_4 : decode cX1_init 4 = .ok (.aload_n 0, 1) := by decide +kernel
theorem dX1_init_5 : decode cX1_init 5 = .ok (.bipush 10, 2) := by decide +kernel
theorem dX1_init_7 : decode cX1_init 7 = .ok (.newarray .int, 2) := by decide +kernel
theorem dX1_init_9 : decode cX1_init 9 = .ok (.putfield 11, 3) := by decide +kernel
theorem dX1_init_12 : decode cX1_init 12 = .ok (.aload_n 0, 1) := by decide +kernel
theorem dX1_init_13 : decode cX1_init 13 = .ok (.bipush 10, 2) := by decide +kernel
theorem dX1_init_15 : decode cX1_init 15 = .ok (.newarray .int, 2) := by decide +kernel
theorem dX1_init_17 : decode cX1_init 17 = .ok (.putfield 15, 3) := by decide +kernel
theorem dX1_init_20 : decode cX1_init 20 = .ok (.aload_n 0, 1) := by decide +kernel
theorem dX1_init_21 : decode cX1_init 21 = .ok (.sipush 1024, 3) := by decide +kernel
theorem dX1_init_24 : decode cX1_init 24 = .ok (.newarray .int, 2) := by decide +kernel
theorem dX1_init_26 : decode cX1_init 26 = .ok (.putfield 18, 3) := by decide +kernel
theorem dX1_init_29 : decode cX1_init 29 = .ok (.aload_n 0, 1) := by decide +kernel
theorem dX1_init_30 : decode cX1_init 30 = .ok (.aload_n 1, 1) := by decide +kernel
theorem dX1_init_31 : decode cX1_init 31 = .ok (.putfield 21, 3) := by decide +kernel
theorem dX1_init_34 : decode cX1_init 34 = .ok (.return_, 1) := by decide +kernel
theorem dX1_lay_0 : decode cX1_lay 0 = .ok (.aload_n 0, 1) := by decide +kernel
theorem dX1_lay_1 : decode cX1_lay 1 = .ok (.iconst 0, 1) := by decide +kernel
theorem dX1_lay_2 : decode cX1_lay 2 = .ok (.putfield 25, 3) := by decide +kernel
theorem dX1_lay_5 : decode cX1_lay 5 = .ok (.iconst 0, 1) := by decide +kernel
theorem dX1_lay_6 : decode cX1_lay 6 = .ok (.istore_n 2, 1) := by decide +kernel
theorem dX1_lay_7 : decode cX1_lay 7 = .ok (.iload_n 2, 1) := by decide +kernel
theorem dX1_lay_8 : decode cX1_lay 8 = .ok (.aload_n 0, 1) := by decide +kernel
theorem dX1_lay_9 : decode cX1_lay 9 = .ok (.getfield 21, 3) := by decide +kernel
theorem dX1_lay_12 : decode cX1_lay 12 = .ok (.getfield 29, 3) := by decide +kernel
theorem dX1_lay_15 : decode cX1_lay 15 = .ok (.if_icmp .ge 65, 3) := by decide +kernel
theorem dX1_lay_18 : decode cX1_lay 18 = .ok (.iload_n 1, 1) := by decide +kernel
theorem dX1_lay_19 : decode cX1_lay 19 = .ok (.iload_n 2, 1) := by decide +kernel
theorem dX1_lay_20 : decode cX1_lay 20 = .ok (.ishr, 1) := by decide +kernel
theorem dX1_lay_21 : decode cX1_lay 21 = .ok (.iconst 1, 1) := by decide +kernel
theorem dX1_lay_22 : decode cX1_lay 22 = .ok (.iand, 1) := by decide +kernel
theorem dX1_lay_23 : decode cX1_lay 23 = .ok (.iconst 1, 1) := by decide +kernel
theorem dX1_lay_24 : decode cX1_lay 24 = .ok (.if_icmp .ne 50, 3) := by decide +kernel
theorem dX1_lay_27 : decode cX1_lay 27 = .ok (.aload_n 0, 1) := by decide +kernel
theorem dX1_lay_28 : decode cX1_lay 28 = .ok (.getfield 25, 3) := by decide +kernel
theorem dX1_lay_31 : decode cX1_lay 31 = .ok (.bipush 10, 2) := by decide +kernel
theorem dX1_lay_33 : decode cX1_lay 33 = .ok (.if_icmp .ge 41, 3) := by decide +kernel
theorem dX1_lay_36 : decode cX1_lay 36 = .ok (.aload_n 0, 1) := by decide +kernel
theorem dX1_lay_37 : decode cX1_lay 37 = .ok (.getfield 11, 3) := by decide +kernel
theorem dX1_lay_40 : decode cX1_lay 40 = .ok (.aload_n 0, 1) := by decide +kernel
theorem dX1_lay_41 : decode cX1_lay 41 = .ok (.getfield 25, 3) := by decide +kernel
theorem dX1_lay_44 : decode cX1_lay 44 = .ok (.iload_n 2, 1) := by decide +kernel
theorem dX1_lay_45 : decode cX1_lay 45 = .ok (.iastore, 1) := by decide +kernel
theorem dX1_lay_46 : decode cX1_lay 46 = .ok (.aload_n 0, 1) := by decide +kernel
theorem dX1_lay_47 : decode cX1_lay 47 = .ok (.getfield 15, 3) := by decide +kernel
theorem dX1_lay_50 : decode cX1_lay 50 = .ok (.aload_n 0, 1) := by decide +kernel
theorem dX1_lay_51 : decode cX1_lay 51 = .ok (.getfield 25, 3) := by decide +kernel
theorem dX1_lay_54 : decode cX1_lay 54 = .ok (.aload_n 0, 1) := by decide +kernel
theorem dX1_lay_55 : decode cX1_lay 55 = .ok (.getfield 21, 3) := by decide +kernel
theorem dX1_lay_58 : decode cX1_lay 58 = .ok (.getfield 34, 3) := by decide +kernel
theorem dX1_lay_61 : decode cX1_lay 61 = .ok (.iload_n 2, 1) := by decide +kernel
theorem dX1_lay_62 : decode cX1_lay 62 = .ok (.iaload, 1) := by decide +kernel
theorem dX1_lay_63 : decode cX1_lay 63 = .ok (.iastore, 1) := by decide +kernel
theorem dX1_lay_64 : decode cX1_lay 64 = .ok (.aload_n 0, 1) := by decide +kernel
theorem dX1_lay_65 : decode cX1_lay 65 = .ok (.dup, 1) := by decide +kernel
theorem dX1_lay_66 : decode cX1_lay 66 = .ok (.getfield 25, 3) := by decide +kernel
theorem dX1_lay_69 : decode cX1_lay 69 = .ok (.iconst 1, 1) := by decide +kernel
theorem dX1_lay_70 : decode cX1_lay 70 = .ok (.iadd, 1) := by decide +kernel
theorem dX1_lay_71 : decode cX1_lay 71 = .ok (.putfield 25, 3) := by decide +kernel
theorem dX1_lay_74 : decode cX1_lay 74 = .ok (.iinc 2 1, 3) := by decide +kernel
theorem dX1_lay_77 : decode cX1_lay 77 = .ok (.goto (-70), 3) := by decide +kernel
theorem dX1_lay_80 : decode cX1_lay 80 = .ok (.return_, 1) := by decide +kernel
theorem dX1_leastBeasts_0 : decode cX1_leastBeasts 0 = .ok (.aload_n 0, 1) := by decide +kernel
theorem dX1_leastBeasts_1 : decode cX1_leastBeasts 1 = .ok (.getfield 25, 3) := by decide +kernel
theorem dX1_leastBeasts_4 : decode cX1_leastBeasts 4 = .ok (.ifCond .ne 5, 3) := by decide +kernel
theorem dX1_leastBeasts_7 : decode cX1_leastBeasts 7 = .ok (.iconst 0, 1) := by decide +kernel
theorem dX1_leastBeasts_8 : decode cX1_leastBeasts 8 = .ok (.ireturn, 1) := by decide +kernel
theorem dX1_leastBeasts_9 : decode cX1_leastBeasts 9 = .ok (.iconst 1, 1) := by decide +kernel
theorem dX1_leastBeasts_10 : decode cX1_leastBeasts 10 = .ok (.aload_n 0, 1) := by decide +kernel
theorem dX1_leastBeasts_11 : decode cX1_leastBeasts 11 = .ok (.getfield 25, 3) := by decide +kernel
theorem dX1_leastBeasts_14 : decode cX1_leastBeasts 14 = .ok (.ishl, 1) := by decide +kernel
theorem dX1_leastBeasts_15 : decode cX1_leastBeasts 15 = .ok (.iconst 1, 1) := by decide +kernel
theorem dX1_leastBeasts_16 : decode cX1_leastBeasts 16 = .ok (.isub, 1) := by decide +kernel
theorem dX1_leastBeasts_17 : decode cX1_leastBeasts 17 = .ok (.istore_n 1, 1) := by decide +kernel
theorem dX1_leastBeasts_18 : decode cX1_leastBeasts 18 = .ok (.aload_n 0, 1) := by decide +kernel
theorem dX1_leastBeasts_19 : decode cX1_leastBeasts 19 = .ok (.getfield 21, 3) := by decide +kernel
theorem dX1_leastBeasts_22 : decode cX1_leastBeasts 22 = .ok (.getfield 35, 3) := by decide +kernel
theorem dX1_leastBeasts_25 : decode cX1_leastBeasts 25 = .ok (.bipush 10, 2) := by decide +kernel
theorem dX1_leastBeasts_27 : decode cX1_leastBeasts 27 = .ok (.ishl, 1) := by decide +kernel
theorem dX1_leastBeasts_28 : decode cX1_leastBeasts 28 = .ok (.istore_n 2, 1) := by decide +kernel
theorem dX1_leastBeasts_29 : decode cX1_leastBeasts 29 = .ok (.aload_n 0, 1) := by decide +kernel
theorem dX1_leastBeasts_30 : decode cX1_leastBeasts 30 = .ok (.getfield 18, 3) := by decide +kernel
theorem dX1_leastBeasts_33 : decode cX1_leastBeasts 33 = .ok (.iload_n 2, 1) := by decide +kernel
theorem dX1_leastBeasts_34 : decode cX1_leastBeasts 34 = .ok (.invokestatic 38, 3) := by decide +kernel
theorem dX1_leastBeasts_37 : decode cX1_leastBeasts 37 = .ok (.aload_n 0, 1) := by decide +kernel
theorem dX1_leastBeasts_38 : decode cX1_leastBeasts 38 = .ok (.getfield 18, 3) := by decide +kernel
theorem dX1_leastBeasts_41 : decode cX1_leastBeasts 41 = .ok (.iconst 0, 1) := by decide +kernel
theorem dX1_leastBeasts_42 : decode cX1_leastBeasts 42 = .ok (.iconst 0, 1) := by decide +kernel
theorem dX1_leastBeasts_43 : decode cX1_leastBeasts 43 = .ok (.iastore, 1) := by decide +kernel
theorem dX1_leastBeasts_44 : decode cX1_leastBeasts 44 = .ok (.iconst 0, 1) := by decide +kernel
theorem dX1_leastBeasts_45 : decode cX1_leastBeasts 45 = .ok (.istore_n 3, 1) := by decide +kernel
theorem dX1_leastBeasts_46 : decode cX1_leastBeasts 46 = .ok (.iload_n 3, 1) := by decide +kernel
theorem dX1_leastBeasts_47 : decode cX1_leastBeasts 47 = .ok (.iload_n 1, 1) := by decide +kernel
theorem dX1_leastBeasts_48 : decode cX1_leastBeasts 48 = .ok (.if_icmp .ge 75, 3) := by decide +kernel
theorem dX1_leastBeasts_51 : decode cX1_leastBeasts 51 = .ok (.iconst 0, 1) := by decide +kernel
theorem dX1_leastBeasts_52 : decode cX1_leastBeasts 52 = .ok (.istore 4, 2) := by decide +kernel
theorem dX1_leastBeasts_54 : decode cX1_leastBeasts 54 = .ok (.iload 4, 2) := by decide +kernel
theorem dX1_leastBeasts_56 : decode cX1_leastBeasts 56 = .ok (.aload_n 0, 1) := by decide +kernel
theorem dX1_leastBeasts_57 : decode cX1_leastBeasts 57 = .ok (.getfield 25, 3) := by decide +kernel
theorem dX1_leastBeasts_60 : decode cX1_leastBeasts 60 = .ok (.if_icmp .ge 57, 3) := by decide +kernel
theorem dX1_leastBeasts_63 : decode cX1_leastBeasts 63 = .ok (.iload_n 3, 1) := by decide +kernel
theorem dX1_leastBeasts_64 : decode cX1_leastBeasts 64 = .ok (.iconst 1, 1) := by decide +kernel
theorem dX1_leastBeasts_65 : decode cX1_leastBeasts 65 = .ok (.iload 4, 2) := by decide +kernel
theorem dX1_leastBeasts_67 : decode cX1_leastBeasts 67 = .ok (.ishl, 1) := by decide +kernel
theorem dX1_leastBeasts_68 : decode cX1_leastBeasts 68 = .ok (.ior, 1) := by decide +kernel
theorem dX1_leastBeasts_69 : decode cX1_leastBeasts 69 = .ok (.istore 5, 2) := by decide +kernel
theorem dX1_leastBeasts_71 : decode cX1_leastBeasts 71 = .ok (.iload 5, 2) := by decide +kernel
theorem dX1_leastBeasts_73 : decode cX1_leastBeasts 73 = .ok (.iload_n 3, 1) := by decide +kernel
theorem dX1_leastBeasts_74 : decode cX1_leastBeasts 74 = .ok (.if_icmp .eq 37, 3) := by decide +kernel
theorem dX1_leastBeasts_77 : decode cX1_leastBeasts 77 = .ok (.aload_n 0, 1) := by decide +kernel
theorem dX1_leastBeasts_78 : decode cX1_leastBeasts 78 = .ok (.getfield 18, 3) := by decide +kernel
theorem dX1_leastBeasts_81 : decode cX1_leastBeasts 81 = .ok (.iload 5, 2) := by decide +kernel
theorem dX1_leastBeasts_83 : decode cX1_leastBeasts 83 = .ok (.aload_n 0, 1) := by decide +kernel
theorem dX1_leastBeasts_84 : decode cX1_leastBeasts 84 = .ok (.getfield 18, 3) := by decide +kernel
theorem dX1_leastBeasts_87 : decode cX1_leastBeasts 87 = .ok (.iload 5, 2) := by decide +kernel
theorem dX1_leastBeasts_89 : decode cX1_leastBeasts 89 = .ok (.iaload, 1) := by decide +kernel
theorem dX1_leastBeasts_90 : decode cX1_leastBeasts 90 = .ok (.aload_n 0, 1) := by decide +kernel
theorem dX1_leastBeasts_91 : decode cX1_leastBeasts 91 = .ok (.aload_n 0, 1) := by decide +kernel
theorem dX1_leastBeasts_92 : decode cX1_leastBeasts 92 = .ok (.getfield 18, 3) := by decide +kernel
theorem dX1_leastBeasts_95 : decode cX1_leastBeasts 95 = .ok (.iload_n 3, 1) := by decide +kernel
theorem dX1_leastBeasts_96 : decode cX1_leastBeasts 96 = .ok (.iaload, 1) := by decide +kernel
theorem dX1_leastBeasts_97 : decode cX1_leastBeasts 97 = .ok (.aload_n 0, 1) := by decide +kernel
theorem dX1_leastBeasts_98 : decode cX1_leastBeasts 98 = .ok (.getfield 15, 3) := by decide +kernel
theorem dX1_leastBeasts_101 : decode cX1_leastBeasts 101 = .ok (.iload 4, 2) := by decide +kernel
theorem dX1_leastBeasts_103 : decode cX1_leastBeasts 103 = .ok (.iaload, 1) := by decide +kernel
theorem dX1_leastBeasts_104 : decode cX1_leastBeasts 104 = .ok (.invokevirtual 44, 3) := by decide +kernel
theorem dX1_leastBeasts_107 : decode cX1_leastBeasts 107 = .ok (.invokestatic 48, 3) := by decide +kernel
theorem dX1_leastBeasts_110 : decode cX1_leastBeasts 110 = .ok (.iastore, 1) := by decide +kernel
theorem dX1_leastBeasts_111 : decode cX1_leastBeasts 111 = .ok (.iinc 4 1, 3) := by decide +kernel
theorem dX1_leastBeasts_114 : decode cX1_leastBeasts 114 = .ok (.goto (-60), 3) := by decide +kernel
theorem dX1_leastBeasts_117 : decode cX1_leastBeasts 117 = .ok (.iinc 3 1, 3) := by decide +kernel
theorem dX1_leastBeasts_120 : decode cX1_leastBeasts 120 = .ok (.goto (-74), 3) := by decide +kernel
theorem dX1_leastBeasts_123 : decode cX1_leastBeasts 123 = .ok (.aload_n 0, 1) := by decide +kernel
theorem dX1_leastBeasts_124 : decode cX1_leastBeasts 124 = .ok (.getfield 18, 3) := by decide +kernel
theorem dX1_leastBeasts_127 : decode cX1_leastBeasts 127 = .ok (.iload_n 1, 1) := by decide +kernel
theorem dX1_leastBeasts_128 : decode cX1_leastBeasts 128 = .ok (.iaload, 1) := by decide +kernel
theorem dX1_leastBeasts_129 : decode cX1_leastBeasts 129 = .ok (.bipush 10, 2) := by decide +kernel
theorem dX1_leastBeasts_131 : decode cX1_leastBeasts 131 = .ok (.ishr, 1) := by decide +kernel
theorem dX1_leastBeasts_132 : decode cX1_leastBeasts 132 = .ok (.iconst 1, 1) := by decide +kernel
theorem dX1_leastBeasts_133 : decode cX1_leastBeasts 133 = .ok (.iadd, 1) := by decide +kernel
theorem dX1_leastBeasts_134 : decode cX1_leastBeasts 134 = .ok (.ireturn, 1) := by decide +kernel
theorem dX1_afterLaying_0 : decode cX1_afterLaying 0 = .ok (.iload_n 1, 1) := by decide +kernel
theorem dX1_afterLaying_1 : decode cX1_afterLaying 1 = .ok (.bipush 10, 2) := by decide +kernel
theorem dX1_afterLaying_3 : decode cX1_afterLaying 3 = .ok (.ishr, 1) := by decide +kernel
theorem dX1_afterLaying_4 : decode cX1_afterLaying 4 = .ok (.istore_n 3, 1) := by decide +kernel
theorem dX1_afterLaying_5 : decode cX1_afterLaying 5 = .ok (.iload_n 3, 1) := by decide +kernel
theorem dX1_afterLaying_6 : decode cX1_afterLaying 6 = .ok (.aload_n 0, 1) := by decide +kernel
theorem dX1_afterLaying_7 : decode cX1_afterLaying 7 = .ok (.getfield 21, 3) := by decide +kernel
theorem dX1_afterLaying_10 : decode cX1_afterLaying 10 = .ok (.getfield 35, 3) := by decide +kernel
theorem dX1_afterLaying_13 : decode cX1_afterLaying 13 = .ok (.if_icmp .ge 26, 3) := by decide +kernel
theorem dX1_afterLaying_16 : decode cX1_afterLaying 16 = .ok (.iload_n 1, 1) := by decide +kernel
theorem dX1_afterLaying_17 : decode cX1_afterLaying 17 = .ok (.sipush 1023, 3) := by decide +kernel
theorem dX1_afterLaying_20 : decode cX1_afterLaying 20 = .ok (.iand, 1) := by decide +kernel
theorem dX1_afterLaying_21 : decode cX1_afterLaying 21 = .ok (.iload_n 2, 1) := by decide +kernel
theorem dX1_afterLaying_22 : decode cX1_afterLaying 22 = .ok (.iadd, 1) := by decide +kernel
theorem dX1_afterLaying_23 : decode cX1_afterLaying 23 = .ok (.aload_n 0, 1) := by decide +kernel
theorem dX1_afterLaying_24 : decode cX1_afterLaying 24 = .ok (.getfield 21, 3) := by decide +kernel
theorem dX1_afterLaying_27 : decode cX1_afterLaying 27 = .ok (.getfield 53, 3) := by decide +kernel
theorem dX1_afterLaying_30 : decode cX1_afterLaying 30 = .ok (.iload_n 3, 1) := by decide +kernel
theorem dX1_afterLaying_31 : decode cX1_afterLaying 31 = .ok (.iaload, 1) := by decide +kernel
theorem dX1_afterLaying_32 : decode cX1_afterLaying 32 = .ok (.if_icmp .gt 7, 3) := by decide +kernel
theorem dX1_afterLaying_35 : decode cX1_afterLaying 35 = .ok (.iload_n 1, 1) := by decide +kernel
theorem dX1_afterLaying_36 : decode cX1_afterLaying 36 = .ok (.iload_n 2, 1) := by decide +kernel
theorem dX1_afterLaying_37 : decode cX1_afterLaying 37 = .ok (.iadd, 1) := by decide +kernel
theorem dX1_afterLaying_38 : decode cX1_afterLaying 38 = .ok (.ireturn, 1) := by decide +kernel
theorem dX1_afterLaying_39 : decode cX1_afterLaying 39 = .ok (.iload_n 3, 1) := by decide +kernel
theorem dX1_afterLaying_40 : decode cX1_afterLaying 40 = .ok (.iconst 1, 1) := by decide +kernel
theorem dX1_afterLaying_41 : decode cX1_afterLaying 41 = .ok (.iadd, 1) := by decide +kernel
theorem dX1_afterLaying_42 : decode cX1_afterLaying 42 = .ok (.istore 4, 2) := by decide +kernel
theorem dX1_afterLaying_44 : decode cX1_afterLaying 44 = .ok (.iload 4, 2) := by decide +kernel
theorem dX1_afterLaying_46 : decode cX1_afterLaying 46 = .ok (.aload_n 0, 1) := by decide +kernel
theorem dX1_afterLaying_47 : decode cX1_afterLaying 47 = .ok (.getfield 21, 3) := by decide +kernel
theorem dX1_afterLaying_50 : decode cX1_afterLaying 50 = .ok (.getfield 35, 3) := by decide +kernel
theorem dX1_afterLaying_53 : decode cX1_afterLaying 53 = .ok (.if_icmp .ge 31, 3) := by decide +kernel
theorem dX1_afterLaying_56 : decode cX1_afterLaying 56 = .ok (.iload_n 2, 1) := by decide +kernel
theorem dX1_afterLaying_57 : decode cX1_afterLaying 57 = .ok (.aload_n 0, 1) := by decide +kernel
theorem dX1_afterLaying_58 : decode cX1_afterLaying 58 = .ok (.getfield 21, 3) := by decide +kernel
theorem dX1_afterLaying_61 : decode cX1_afterLaying 61 = .ok (.getfield 53, 3) := by decide +kernel
theorem dX1_afterLaying_64 : decode cX1_afterLaying 64 = .ok (.iload 4, 2) := by decide +kernel
theorem dX1_afterLaying_66 : decode cX1_afterLaying 66 = .ok (.iaload, 1) := by decide +kernel
theorem dX1_afterLaying_67 : decode cX1_afterLaying 67 = .ok (.if_icmp .gt 11, 3) := by decide +kernel
theorem dX1_afterLaying_70 : decode cX1_afterLaying 70 = .ok (.iload 4, 2) := by decide +kernel
theorem dX1_afterLaying_72 : decode cX1_afterLaying 72 = .ok (.bipush 10, 2) := by decide +kernel
theorem dX1_afterLaying_74 : decode cX1_afterLaying 74 = .ok (.ishl, 1) := by decide +kernel
theorem dX1_afterLaying_75 : decode cX1_afterLaying 75 = .ok (.iload_n 2, 1) := by decide +kernel
theorem dX1_afterLaying_76 : decode cX1_afterLaying 76 = .ok (.iadd, 1) := by decide +kernel
theorem dX1_afterLaying_77 : decode cX1_afterLaying 77 = .ok (.ireturn, 1) := by decide +kernel
theorem dX1_afterLaying_78 : decode cX1_afterLaying 78 = .ok (.iinc 4 1, 3) := by decide +kernel
theorem dX1_afterLaying_81 : decode cX1_afterLaying 81 = .ok (.goto (-37), 3) := by decide +kernel
theorem dX1_afterLaying_84 : decode cX1_afterLaying 84 = .ok (.aload_n 0, 1) := by decide +kernel
theorem dX1_afterLaying_85 : decode cX1_afterLaying 85 = .ok (.getfield 21, 3) := by decide +kernel
theorem dX1_afterLaying_88 : decode cX1_afterLaying 88 = .ok (.getfield 35, 3) := by decide +kernel
theorem dX1_afterLaying_91 : decode cX1_afterLaying 91 = .ok (.bipush 10, 2) := by decide +kernel
theorem dX1_afterLaying_93 : decode cX1_afterLaying 93 = .ok (.ishl, 1) := by decide +kernel
theorem dX1_afterLaying_94 : decode cX1_afterLaying 94 = .ok (.ireturn, 1) := by decide +kernel
theorem dX1_balance_0 : decode cX1_balance 0 = .ok (.iconst 1, 1) := by decide +kernel
theorem dX1_balance_1 : decode cX1_balance 1 = .ok (.aload_n 0, 1) := by decide +kernel
theorem dX1_balance_2 : decode cX1_balance 2 = .ok (.getfield 25, 3) := by decide +kernel
theorem dX1_balance_5 : decode cX1_balance 5 = .ok (.ishl, 1) := by decide +kernel
theorem dX1_balance_6 : decode cX1_balance 6 = .ok (.iconst 1, 1) := by decide +kernel
theorem dX1_balance_7 : decode cX1_balance 7 = .ok (.isub, 1) := by decide +kernel
theorem dX1_balance_8 : decode cX1_balance 8 = .ok (.istore_n 1, 1) := by decide +kernel
theorem dX1_balance_9 : decode cX1_balance 9 = .ok (.iconst 0, 1) := by decide +kernel
theorem dX1_balance_10 : decode cX1_balance 10 = .ok (.istore_n 2, 1) := by decide +kernel
theorem dX1_balance_11 : decode cX1_balance 11 = .ok (.iconst 0, 1) := by decide +kernel
theorem dX1_balance_12 : decode cX1_balance 12 = .ok (.istore_n 3, 1) := by decide +kernel
theorem dX1_balance_13 : decode cX1_balance 13 = .ok (.iload_n 3, 1) := by decide +kernel
theorem dX1_balance_14 : decode cX1_balance 14 = .ok (.aload_n 0, 1) := by decide +kernel
theorem dX1_balance_15 : decode cX1_balance 15 = .ok (.getfield 25, 3) := by decide +kernel
theorem dX1_balance_18 : decode cX1_balance 18 = .ok (.if_icmp .ge 18, 3) := by decide +kernel
theorem dX1_balance_21 : decode cX1_balance 21 = .ok (.iload_n 2, 1) := by decide +kernel
theorem dX1_balance_22 : decode cX1_balance 22 = .ok (.aload_n 0, 1) := by decide +kernel
theorem dX1_balance_23 : decode cX1_balance 23 = .ok (.getfield 15, 3) := by decide +kernel
theorem dX1_balance_26 : decode cX1_balance 26 = .ok (.iload_n 3, 1) := by decide +kernel
theorem dX1_balance_27 : decode cX1_balance 27 = .ok (.iaload, 1) := by decide +kernel
theorem dX1_balance_28 : decode cX1_balance 28 = .ok (.iadd, 1) := by decide +kernel
theorem dX1_balance_29 : decode cX1_balance 29 = .ok (.istore_n 2, 1) := by decide +kernel
theorem dX1_balance_30 : decode cX1_balance 30 = .ok (.iinc 3 1, 3) := by decide +kernel
theorem dX1_balance_33 : decode cX1_balance 33 = .ok (.goto (-20), 3) := by decide +kernel
theorem dX1_balance_36 : decode cX1_balance 36 = .ok (.aload_n 0, 1) := by decide +kernel
theorem dX1_balance_37 : decode cX1_balance 37 = .ok (.iload_n 2, 1) := by decide +kernel
theorem dX1_balance_38 : decode cX1_balance 38 = .ok (.putfield 56, 3) := by decide +kernel
theorem dX1_balance_41 : decode cX1_balance 41 = .ok (.iconst 0, 1) := by decide +kernel
theorem dX1_balance_42 : decode cX1_balance 42 = .ok (.istore_n 3, 1) := by decide +kernel
theorem dX1_balance_43 : decode cX1_balance 43 = .ok (.aload_n 0, 1) := by decide +kernel
theorem dX1_balance_44 : decode cX1_balance 44 = .ok (.getfield 18, 3) := by decide +kernel
theorem dX1_balance_47 : decode cX1_balance 47 = .ok (.iconst 0, 1) := by decide +kernel
theorem dX1_balance_48 : decode cX1_balance 48 = .ok (.iconst 0, 1) := by decide +kernel
theorem dX1_balance_49 : decode cX1_balance 49 = .ok (.iastore, 1) := by decide +kernel
theorem dX1_balance_50 : decode cX1_balance 50 = .ok (.iconst 1, 1) := by decide +kernel
theorem dX1_balance_51 : decode cX1_balance 51 = .ok (.istore 4, 2) := by decide +kernel
theorem dX1_balance_53 : decode cX1_balance 53 = .ok (.iload 4, 2) := by decide +kernel
theorem dX1_balance_55 : decode cX1_balance 55 = .ok (.iload_n 1, 1) := by decide +kernel
theorem dX1_balance_56 : decode cX1_balance 56 = .ok (.if_icmp .gt 79, 3) := by decide +kernel
theorem dX1_balance_59 : decode cX1_balance 59 = .ok (.iload 4, 2) := by decide +kernel
theorem dX1_balance_61 : decode cX1_balance 61 = .ok (.invokestatic 59, 3) := by decide +kernel
theorem dX1_balance_64 : decode cX1_balance 64 = .ok (.istore 5, 2) := by decide +kernel
theorem dX1_balance_66 : decode cX1_balance 66 = .ok (.aload_n 0, 1) := by decide +kernel
theorem dX1_balance_67 : decode cX1_balance 67 = .ok (.getfield 18, 3) := by decide +kernel
theorem dX1_balance_70 : decode cX1_balance 70 = .ok (.iload 4, 2) := by decide +kernel
theorem dX1_balance_72 : decode cX1_balance 72 = .ok (.aload_n 0, 1) := by decide +kernel
theorem dX1_balance_73 : decode cX1_balance 73 = .ok (.getfield 18, 3) := by decide +kernel
theorem dX1_balance_76 : decode cX1_balance 76 = .ok (.iload 4, 2) := by decide +kernel
theorem dX1_balance_78 : decode cX1_balance 78 = .ok (.iload 4, 2) := by decide +kernel
theorem dX1_balance_80 : decode cX1_balance 80 = .ok (.iconst 1, 1) := by decide +kernel
theorem dX1_balance_81 : decode cX1_balance 81 = .ok (.isub, 1) := by decide +kernel
theorem dX1_balance_82 : decode cX1_balance 82 = .ok (.iand, 1) := by decide +kernel
theorem dX1_balance_83 : decode cX1_balance 83 = .ok (.iaload, 1) := by decide +kernel
theorem dX1_balance_84 : decode cX1_balance 84 = .ok (.aload_n 0, 1) := by decide +kernel
theorem dX1_balance_85 : decode cX1_balance 85 = .ok (.getfield 15, 3) := by decide +kernel
theorem dX1_balance_88 : decode cX1_balance 88 = .ok (.iload 5, 2) := by decide +kernel
theorem dX1_balance_90 : decode cX1_balance 90 = .ok (.iaload, 1) := by decide +kernel
theorem dX1_balance_91 : decode cX1_balance 91 = .ok (.iadd, 1) := by decide +kernel
theorem dX1_balance_92 : decode cX1_balance 92 = .ok (.iastore, 1) := by decide +kernel
theorem dX1_balance_93 : decode cX1_balance 93 = .ok (.iload_n 2, 1) := by decide +kernel
theorem dX1_balance_94 : decode cX1_balance 94 = .ok (.iconst 2, 1) := by decide +kernel
theorem dX1_balance_95 : decode cX1_balance 95 = .ok (.aload_n 0, 1) := by decide +kernel
theorem dX1_balance_96 : decode cX1_balance 96 = .ok (.getfield 18, 3) := by decide +kernel
theorem dX1_balance_99 : decode cX1_balance 99 = .ok (.iload 4, 2) := by decide +kernel
theorem dX1_balance_101 : decode cX1_balance 101 = .ok (.iaload, 1) := by decide +kernel
theorem dX1_balance_102 : decode cX1_balance 102 = .ok (.imul, 1) := by decide +kernel
theorem dX1_balance_103 : decode cX1_balance 103 = .ok (.isub, 1) := by decide +kernel
theorem dX1_balance_104 : decode cX1_balance 104 = .ok (.istore 6, 2) := by decide +kernel
theorem dX1_balance_106 : decode cX1_balance 106 = .ok (.iload 6, 2) := by decide +kernel
theorem dX1_balance_108 : decode cX1_balance 108 = .ok (.ifCond .lt 21, 3) := by decide +kernel
theorem dX1_balance_111 : decode cX1_balance 111 = .ok (.iload 6, 2) := by decide +kernel
theorem dX1_balance_113 : decode cX1_balance 113 = .ok (.aload_n 0, 1) := by decide +kernel
theorem dX1_balance_114 : decode cX1_balance 114 = .ok (.getfield 56, 3) := by decide +kernel
theorem dX1_balance_117 : decode cX1_balance 117 = .ok (.if_icmp .ge 12, 3) := by decide +kernel
theorem dX1_balance_120 : decode cX1_balance 120 = .ok (.aload_n 0, 1) := by decide +kernel
theorem dX1_balance_121 : decode cX1_balance 121 = .ok (.iload 6, 2) := by decide +kernel
theorem dX1_balance_123 : decode cX1_balance 123 = .ok (.putfield 56, 3) := by decide +kernel
theorem dX1_balance_126 : decode cX1_balance 126 = .ok (.iload 4, 2) := by decide +kernel
theorem dX1_balance_128 : decode cX1_balance 128 = .ok (.istore_n 3, 1) := by decide +kernel
theorem dX1_balance_129 : decode cX1_balance 129 = .ok (.iinc 4 1, 3) := by decide +kernel
theorem dX1_balance_132 : decode cX1_balance 132 = .ok (.goto (-79), 3) := by decide +kernel
theorem dX1_balance_135 : decode cX1_balance 135 = .ok (.aload_n 0, 1) := by decide +kernel
theorem dX1_balance_136 : decode cX1_balance 136 = .ok (.aload_n 0, 1) := by decide +kernel
theorem dX1_balance_137 : decode cX1_balance 137 = .ok (.iload_n 3, 1) := by decide +kernel
theorem dX1_balance_138 : decode cX1_balance 138 = .ok (.invokevirtual 65, 3) := by decide +kernel
theorem dX1_balance_141 : decode cX1_balance 141 = .ok (.putfield 68, 3) := by decide +kernel
theorem dX1_balance_144 : decode cX1_balance 144 = .ok (.return_, 1) := by decide +kernel
theorem dX1_partsOf_0 : decode cX1_partsOf 0 = .ok (.iconst 0, 1) := by decide +kernel
theorem dX1_partsOf_1 : decode cX1_partsOf 1 = .ok (.istore_n 2, 1) := by decide +kernel
theorem dX1_partsOf_2 : decode cX1_partsOf 2 = .ok (.iconst 0, 1) := by decide +kernel
theorem dX1_partsOf_3 : decode cX1_partsOf 3 = .ok (.istore_n 3, 1) := by decide +kernel
theorem dX1_partsOf_4 : decode cX1_partsOf 4 = .ok (.iload_n 3, 1) := by decide +kernel
theorem dX1_partsOf_5 : decode cX1_partsOf 5 = .ok (.aload_n 0, 1) := by decide +kernel
theorem dX1_partsOf_6 : decode cX1_partsOf 6 = .ok (.getfield 25, 3) := by decide +kernel
theorem dX1_partsOf_9 : decode cX1_partsOf 9 = .ok (.if_icmp .ge 29, 3) := by decide +kernel
theorem dX1_partsOf_12 : decode cX1_partsOf 12 = .ok (.iload_n 1, 1) := by decide +kernel
theorem dX1_partsOf_13 : decode cX1_partsOf 13 = .ok (.iload_n 3, 1) := by decide +kernel
theorem dX1_partsOf_14 : decode cX1_partsOf 14 = .ok (.ishr, 1) := by decide +kernel
theorem dX1_partsOf_15 : decode cX1_partsOf 15 = .ok (.iconst 1, 1) := by decide +kernel
theorem dX1_partsOf_16 : decode cX1_partsOf 16 = .ok (.iand, 1) := by decide +kernel
theorem dX1_partsOf_17 : decode cX1_partsOf 17 = .ok (.iconst 1, 1) := by decide +kernel
theorem dX1_partsOf_18 : decode cX1_partsOf 18 = .ok (.if_icmp .ne 14, 3) := by decide +kernel
theorem dX1_partsOf_21 : decode cX1_partsOf 21 = .ok (.iload_n 2, 1) := by decide +kernel
theorem dX1_partsOf_22 : decode cX1_partsOf 22 = .ok (.iconst 1, 1) := by decide +kernel
theorem dX1_partsOf_23 : decode cX1_partsOf 23 = .ok (.aload_n 0, 1) := by decide +kernel
theorem dX1_partsOf_24 : decode cX1_partsOf 24 = .ok (.getfield 11, 3) := by decide +kernel
theorem dX1_partsOf_27 : decode cX1_partsOf 27 = .ok (.iload_n 3, 1) := by decide +kernel
theorem dX1_partsOf_28 : decode cX1_partsOf 28 = .ok (.iaload, 1) := by decide +kernel
theorem dX1_partsOf_29 : decode cX1_partsOf 29 = .ok (.ishl, 1) := by decide +kernel
theorem dX1_partsOf_30 : decode cX1_partsOf 30 = .ok (.ior, 1) := by decide +kernel
theorem dX1_partsOf_31 : decode cX1_partsOf 31 = .ok (.istore_n 2, 1) := by decide +kernel
theorem dX1_partsOf_32 : decode cX1_partsOf 32 = .ok (.iinc 3 1, 3) := by decide +kernel
theorem dX1_partsOf_35 : decode cX1_partsOf 35 = .ok (.goto (-31), 3) := by decide +kernel
theorem dX1_partsOf_38 : decode cX1_partsOf 38 = .ok (.iload_n 2, 1) := by decide +kernel
theorem dX1_partsOf_39 : decode cX1_partsOf 39 = .ok (.ireturn, 1) := by decide +kernel
theorem dX2_init_0 : decode cX2_init 0 = .ok (.aload_n 0, 1) := by decide +kernel
theorem dX2_init_1 : decode cX2_init 1 = .ok (.invokespecial 3, 3) := by decide +kernel
theorem dX2_init_4 : decode cX2_init 4 = .ok (.aload_n 0, 1) := by decide +kernel
theorem dX2_init_5 : decode cX2_init 5 = .ok (.sipush 432, 3) := by decide +kernel
theorem dX2_init_8 : decode cX2_init 8 = .ok (.newarray .int, 2) := by decide +kernel
theorem dX2_init_10 : decode cX2_init 10 = .ok (.putfield 9, 3) := by decide +kernel
theorem dX2_init_13 : decode cX2_init 13 = .ok (.aload_n 0, 1) := by decide +kernel
theorem dX2_init_14 : decode cX2_init 14 = .ok (.bipush 24, 2) := by decide +kernel
theorem dX2_init_16 : decode cX2_init 16 = .ok (.newarray .int, 2) := by decide +kernel
theorem dX2_init_18 : decode cX2_init 18 = .ok (.putfield 15, 3) := by decide +kernel
theorem dX2_init_21 : decode cX2_init 21 = .ok (.aload_n 0, 1) := by decide +kernel
theorem dX2_init_22 : decode cX2_init 22 = .ok (.aload_n 1, 1) := by decide +kernel
theorem dX2_init_23 : decode cX2_init 23 = .ok (.putfield 18, 3) := by decide +kernel
theorem dX2_init_26 : decode cX2_init 26 = .ok (.return_, 1) := by decide +kernel
theorem dX2_make_0 : decode cX2_make 0 = .ok (.iload_n 2, 1) := by decide +kernel
theorem dX2_make_1 : decode cX2_make 1 = .ok (.iconst 1, 1) := by decide +kernel
theorem dX2_make_2 : decode cX2_make 2 = .ok (.isub, 1) := by decide +kernel
theorem dX2_make_3 : decode cX2_make 3 = .ok (.istore_n 3, 1) := by decide +kernel
theorem dX2_make_4 : decode cX2_make 4 = .ok (.iload_n 3, 1) := by decide +kernel
theorem dX2_make_5 : decode cX2_make 5 = .ok (.ifCond .lt 92, 3) := by decide +kernel
theorem dX2_make_8 : decode cX2_make 8 = .ok (.iconst 0, 1) := by decide +kernel
theorem dX2_make_9 : decode cX2_make 9 = .ok (.istore 4, 2) := by decide +kernel
theorem dX2_make_11 : decode cX2_make 11 = .ok (.iload 4, 2) := by decide +kernel
theorem dX2_make_13 : decode cX2_make 13 = .ok (.aload_n 0, 1) := by decide +kernel
theorem dX2_make_14 : decode cX2_make 14 = .ok (.getfield 18, 3) := by decide +kernel
theorem dX2_make_17 : decode cX2_make 17 = .ok (.getfield 22, 3) := by decide +kernel
theorem dX2_make_20 : decode cX2_make 20 = .ok (.if_icmp .ge 71, 3) := by decide +kernel
theorem dX2_make_23 : decode cX2_make 23 = .ok (.iconst 0, 1) := by decide +kernel
theorem dX2_make_24 : decode cX2_make 24 = .ok (.istore 5, 2) := by decide +kernel
theorem dX2_make_26 : decode cX2_make 26 = .ok (.iload 5, 2) := by decide +kernel
theorem dX2_make_28 : decode cX2_make 28 = .ok (.iconst 3, 1) := by decide +kernel
theorem dX2_make_29 : decode cX2_make 29 = .ok (.if_icmp .ge 56, 3) := by decide +kernel
theorem dX2_make_32 : decode cX2_make 32 = .ok (.aload_n 0, 1) := by decide +kernel
theorem dX2_make_33 : decode cX2_make 33 = .ok (.getfield 18, 3) := by decide +kernel
theorem dX2_make_36 : decode cX2_make 36 = .ok (.iload 4, 2) := by decide +kernel
theorem dX2_make_38 : decode cX2_make 38 = .ok (.iload_n 1, 1) := by decide +kernel
theorem dX2_make_39 : decode cX2_make 39 = .ok (.iload_n 3, 1) := by decide +kernel
theorem dX2_make_40 : decode cX2_make 40 = .ok (.iadd, 1) := by decide +kernel
theorem dX2_make_41 : decode cX2_make 41 = .ok (.bipush 12, 2) := by decide +kernel
theorem dX2_make_43 : decode cX2_make 43 = .ok (.irem, 1) := by decide +kernel
theorem dX2_make_44 : decode cX2_make 44 = .ok (.iload 5, 2) := by decide +kernel
theorem dX2_make_46 : decode cX2_make 46 = .ok (.invokevirtual 28, 3) := by decide +kernel
theorem dX2_make_49 : decode cX2_make 49 = .ok (.istore 6, 2) := by decide +kernel
theorem dX2_make_51 : decode cX2_make 51 = .ok (.aload_n 0, 1) := by decide +kernel
theorem dX2_make_52 : decode cX2_make 52 = .ok (.getfield 9, 3) := by decide +kernel
theorem dX2_make_55 : decode cX2_make 55 = .ok (.iload_n 3, 1) := by decide +kernel
theorem dX2_make_56 : decode cX2_make 56 = .ok (.iload 4, 2) := by decide +kernel
theorem dX2_make_58 : decode cX2_make 58 = .ok (.iload 5, 2) := by decide +kernel
theorem dX2_make_60 : decode cX2_make 60 = .ok (.invokestatic 32, 3) := by decide +kernel
theorem dX2_make_63 : decode cX2_make 63 = .ok (.iload 6, 2) := by decide +kernel
theorem dX2_make_65 : decode cX2_make 65 = .ok (.aload_n 0, 1) := by decide +kernel
theorem dX2_make_66 : decode cX2_make 66 = .ok (.iload_n 3, 1) := by decide +kernel
theorem dX2_make_67 : decode cX2_make 67 = .ok (.iconst 1, 1) := by decide +kernel
theorem dX2_make_68 : decode cX2_make 68 = .ok (.iadd, 1) := by decide +kernel
theorem dX2_make_69 : decode cX2_make 69 = .ok (.iload_n 2, 1) := by decide +kernel
theorem dX2_make_70 : decode cX2_make 70 = .ok (.iload 4, 2) := by decide +kernel
theorem dX2_make_72 : decode cX2_make 72 = .ok (.iload 5, 2) := by decide +kernel
theorem dX2_make_74 : decode cX2_make 74 = .ok (.invokevirtual 35, 3) := by decide +kernel
theorem dX2_make_77 : decode cX2_make 77 = .ok (.iadd, 1) := by decide +kernel
theorem dX2_make_78 : decode cX2_make 78 = .ok (.iastore, 1) := by decide +kernel
theorem dX2_make_79 : decode cX2_make 79 = .ok (.iinc 5 1, 3) := by decide +kernel
theorem dX2_make_82 : decode cX2_make 82 = .ok (.goto (-56), 3) := by decide +kernel
theorem dX2_make_85 : decode cX2_make 85 = .ok (.iinc 4 1, 3) := by decide +kernel
theorem dX2_make_88 : decode cX2_make 88 = .ok (.goto (-77), 3) := by decide +kernel
theorem dX2_make_91 : decode cX2_make 91 = .ok (.iinc 3 (-1), 3) := by decide +kernel
theorem dX2_make_94 : decode cX2_make 94 = .ok (.goto (-90), 3) := by decide +kernel
theorem dX2_make_97 : decode cX2_make 97 = .ok (.aload_n 0, 1) := by decide +kernel
theorem dX2_make_98 : decode cX2_make 98 = .ok (.invokevirtual 39, 3) := by decide +kernel
theorem dX2_make_101 : decode cX2_make 101 = .ok (.istore_n 3, 1) := by decide +kernel
theorem dX2_make_102 : decode cX2_make 102 = .ok (.iconst 0, 1) := by decide +kernel
theorem dX2_make_103 : decode cX2_make 103 = .ok (.istore 4, 2) := by decide +kernel
theorem dX2_make_105 : decode cX2_make 105 = .ok (.aload_n 0, 1) := by decide +kernel
theorem dX2_make_106 : decode cX2_make 106 = .ok (.aload_n 0, 1) := by decide +kernel
theorem dX2_make_107 : decode cX2_make 107 = .ok (.getfield 9, 3) := by decide +kernel
theorem dX2_make_110 : decode cX2_make 110 = .ok (.iconst 0, 1) := by decide +kernel
theorem dX2_make_111 : decode cX2_make 111 = .ok (.iload_n 3, 1) := by decide +kernel
theorem dX2_make_112 : decode cX2_make 112 = .ok (.iload 4, 2) := by decide +kernel
theorem dX2_make_114 : decode cX2_make 114 = .ok (.invokestatic 32, 3) := by decide +kernel
theorem dX2_make_117 : decode cX2_make 117 = .ok (.iaload, 1) := by decide +kernel
theorem dX2_make_118 : decode cX2_make 118 = .ok (.putfield 43, 3) := by decide +kernel
theorem dX2_make_121 : decode cX2_make 121 = .ok (.aload_n 0, 1) := by decide +kernel
theorem dX2_make_122 : decode cX2_make 122 = .ok (.getfield 15, 3) := by decide +kernel
theorem dX2_make_125 : decode cX2_make 125 = .ok (.iconst 0, 1) := by decide +kernel
theorem dX2_make_126 : decode cX2_make 126 = .ok (.iload_n 3, 1) := by decide +kernel
theorem dX2_make_127 : decode cX2_make 127 = .ok (.iastore, 1) := by decide +kernel
theorem dX2_make_128 : decode cX2_make 128 = .ok (.iconst 1, 1) := by decide +kernel
theorem dX2_make_129 : decode cX2_make 129 = .ok (.istore 5, 2) := by decide +kernel
theorem dX2_make_131 : decode cX2_make 131 = .ok (.iload 5, 2) := by decide +kernel
theorem dX2_make_133 : decode cX2_make 133 = .ok (.iload_n 2, 1) := by decide +kernel
theorem dX2_make_134 : decode cX2_make 134 = .ok (.if_icmp .ge 48, 3) := by decide +kernel
theorem dX2_make_137 : decode cX2_make 137 = .ok (.aload_n 0, 1) := by decide +kernel
theorem dX2_make_138 : decode cX2_make 138 = .ok (.iload 5, 2) := by decide +kernel
theorem dX2_make_140 : decode cX2_make 140 = .ok (.iload_n 3, 1) := by decide +kernel
theorem dX2_make_141 : decode cX2_make 141 = .ok (.iload 4, 2) := by decide +kernel
theorem dX2_make_143 : decode cX2_make 143 = .ok (.invokevirtual 46, 3) := by decide +kernel
theorem dX2_make_146 : decode cX2_make 146 = .ok (.istore 6, 2) := by decide +kernel
theorem dX2_make_148 : decode cX2_make 148 = .ok (.iload 6, 2) := by decide +kernel
theorem dX2_make_150 : decode cX2_make 150 = .ok (.iload_n 3, 1) := by decide +kernel
theorem dX2_make_151 : decode cX2_make 151 = .ok (.if_icmp .ne 11, 3) := by decide +kernel
theorem dX2_make_154 : decode cX2_make 154 = .ok (.iload 4, 2) := by decide +kernel
theorem dX2_make_156 : decode cX2_make 156 = .ok (.invokestatic 49, 3) := by decide +kernel
theorem dX2_make_159 : decode cX2_make 159 = .ok (.goto 4, 3) := by decide +kernel
theorem dX2_make_162 : decode cX2_make 162 = .ok (.iconst 0, 1) := by decide +kernel
theorem dX2_make_163 : decode cX2_make 163 = .ok (.istore 4, 2) := by decide +kernel
theorem dX2_make_165 : decode cX2_make 165 = .ok (.iload 6, 2) := by decide +kernel
theorem dX2_make_167 : decode cX2_make 167 = .ok (.istore_n 3, 1) := by decide +kernel
theorem dX2_make_168 : decode cX2_make 168 = .ok (.aload_n 0, 1) := by decide +kernel
theorem dX2_make_169 : decode cX2_make 169 = .ok (.getfield 15, 3) := by decide +kernel
theorem dX2_make_172 : decode cX2_make 172 = .ok (.iload 5, 2) := by decide +kernel
theorem dX2_make_174 : decode cX2_make 174 = .ok (.iload_n 3, 1) := by decide +kernel
theorem dX2_make_175 : decode cX2_make 175 = .ok (.iastore, 1) := by decide +kernel
theorem dX2_make_176 : decode cX2_make 176 = .ok (.iinc 5 1, 3) := by decide +kernel
theorem dX2_make_179 : decode cX2_make 179 = .ok (.goto (-48), 3) := by decide +kernel
theorem dX2_make_182 : decode cX2_make 182 = .ok (.return_, 1) := by decide +kernel
theorem dX2_movesIn_0 : decode cX2_movesIn 0 = .ok (.iconst 0, 1) := by decide +kernel
theorem dX2_movesIn_1 : decode cX2_movesIn 1 = .ok (.istore_n 2, 1) := by decide +kernel
theorem dX2_movesIn_2 : decode cX2_movesIn 2 = .ok (.iconst 1, 1) := by decide +kernel
theorem dX2_movesIn_3 : decode cX2_movesIn 3 = .ok (.istore_n 3, 1) := by decide +kernel
theorem dX2_movesIn_4 : decode cX2_movesIn 4 = .ok (.iload_n 3, 1) := by decide +kernel
theorem dX2_movesIn_5 : decode cX2_movesIn 5 = .ok (.iload_n 1, 1) := by decide +kernel
theorem dX2_movesIn_6 : decode cX2_movesIn 6 = .ok (.if_icmp .ge 34, 3) := by decide +kernel
theorem dX2_movesIn_9 : decode cX2_movesIn 9 = .ok (.iload_n 2, 1) := by decide +kernel
theorem dX2_movesIn_10 : decode cX2_movesIn 10 = .ok (.aload_n 0, 1) := by decide +kernel
theorem dX2_movesIn_11 : decode cX2_movesIn 11 = .ok (.getfield 15, 3) := by decide +kernel
theorem dX2_movesIn_14 : decode cX2_movesIn 14 = .ok (.iload_n 3, 1) := by decide +kernel
theorem dX2_movesIn_15 : decode cX2_movesIn 15 = .ok (.iaload, 1) := by decide +kernel
theorem dX2_movesIn_16 : decode cX2_movesIn 16 = .ok (.aload_n 0, 1) := by decide +kernel
theorem dX2_movesIn_17 : decode cX2_movesIn 17 = .ok (.getfield 15, 3) := by decide +kernel
theorem dX2_movesIn_20 : decode cX2_movesIn 20 = .ok (.iload_n 3, 1) := by decide +kernel
theorem dX2_movesIn_21 : decode cX2_movesIn 21 = .ok (.iconst 1, 1) := by decide +kernel
theorem dX2_movesIn_22 : decode cX2_movesIn 22 = .ok (.isub, 1) := by decide +kernel
theorem dX2_movesIn_23 : decode cX2_movesIn 23 = .ok (.iaload, 1) := by decide +kernel
theorem dX2_movesIn_24 : decode cX2_movesIn 24 = .ok (.if_icmp .ne 7, 3) := by decide +kernel
theorem dX2_movesIn_27 : decode cX2_movesIn 27 = .ok (.iconst 0, 1) := by decide +kernel
theorem dX2_movesIn_28 : decode cX2_movesIn 28 = .ok (.goto 4, 3) := by decide +kernel
theorem dX2_movesIn_31 : decode cX2_movesIn 31 = .ok (.iconst 1, 1) := by decide +kernel
theorem dX2_movesIn_32 : decode cX2_movesIn 32 = .ok (.iadd, 1) := by decide +kernel
theorem dX2_movesIn_33 : decode cX2_movesIn 33 = .ok (.istore_n 2, 1) := by decide +kernel
theorem dX2_movesIn_34 : decode cX2_movesIn 34 = .ok (.iinc 3 1, 3) := by decide +kernel
theorem dX2_movesIn_37 : decode cX2_movesIn 37 = .ok (.goto (-33), 3) := by decide +kernel
theorem dX2_movesIn_40 : decode cX2_movesIn 40 = .ok (.iload_n 2, 1) := by decide +kernel
theorem dX2_movesIn_41 : decode cX2_movesIn 41 = .ok (.ireturn, 1) := by decide +kernel
theorem dX2_firstCamp_0 : decode cX2_firstCamp 0 = .ok (.iconst 0, 1) := by decide +kernel
theorem dX2_firstCamp_1 : decode cX2_firstCamp 1 = .ok (.istore_n 1, 1) := by decide +kernel
theorem dX2_firstCamp_2 : decode cX2_firstCamp 2 = .ok (.iconst 1, 1) := by decide +kernel
theorem dX2_firstCamp_3 : decode cX2_firstCamp 3 = .ok (.istore_n 2, 1) := by decide +kernel
theorem dX2_firstCamp_4 : decode cX2_firstCamp 4 = .ok (.iload_n 2, 1) := by decide +kernel
theorem dX2_firstCamp_5 : decode cX2_firstCamp 5 = .ok (.aload_n 0, 1) := by decide +kernel
theorem dX2_firstCamp_6 : decode cX2_firstCamp 6 = .ok (.getfield 18, 3) := by decide +kernel
theorem dX2_firstCamp_9 : decode cX2_firstCamp 9 = .ok (.getfield 22, 3) := by decide +kernel
theorem dX2_firstCamp_12 : decode cX2_firstCamp 12 = .ok (.if_icmp .ge 36, 3) := by decide +kernel
theorem dX2_firstCamp_15 : decode cX2_firstCamp 15 = .ok (.aload_n 0, 1) := by decide +kernel
theorem dX2_firstCamp_16 : decode cX2_firstCamp 16 = .ok (.getfield 9, 3) := by decide +kernel
theorem dX2_firstCamp_19 : decode cX2_firstCamp 19 = .ok (.iconst 0, 1) := by decide +kernel
theorem dX2_firstCamp_20 : decode cX2_firstCamp 20 = .ok (.iload_n 2, 1) := by decide +kernel
theorem dX2_firstCamp_21 : decode cX2_firstCamp 21 = .ok (.iconst 0, 1) := by decide +kernel
theorem dX2_firstCamp_22 : decode cX2_firstCamp 22 = .ok (.invokestatic 32, 3) := by decide +kernel
theorem dX2_firstCamp_25 : decode cX2_firstCamp 25 = .ok (.iaload, 1) := by decide +kernel
theorem dX2_firstCamp_26 : decode cX2_firstCamp 26 = .ok (.aload_n 0, 1) := by decide +kernel
theorem dX2_firstCamp_27 : decode cX2_firstCamp 27 = .ok (.getfield 9, 3) := by decide +kernel
theorem dX2_firstCamp_30 : decode cX2_firstCamp 30 = .ok (.iconst 0, 1) := by decide +kernel
theorem dX2_firstCamp_31 : decode cX2_firstCamp 31 = .ok (.iload_n 1, 1) := by decide +kernel
theorem dX2_firstCamp_32 : decode cX2_firstCamp 32 = .ok (.iconst 0, 1) := by decide +kernel
theorem dX2_firstCamp_33 : decode cX2_firstCamp 33 = .ok (.invokestatic 32, 3) := by decide +kernel
theorem dX2_firstCamp_36 : decode cX2_firstCamp 36 = .ok (.iaload, 1) := by decide +kernel
theorem dX2_firstCamp_37 : decode cX2_firstCamp 37 = .ok (.if_icmp .ge 5, 3) := by decide +kernel
theorem dX2_firstCamp_40 : decode cX2_firstCamp 40 = .ok (.iload_n 2, 1) := by decide +kernel
theorem dX2_firstCamp_41 : decode cX2_firstCamp 41 = .ok (.istore_n 1, 1) := by decide +kernel
theorem dX2_firstCamp_42 : decode cX2_firstCamp 42 = .ok (.iinc 2 1, 3) := by decide +kernel
theorem dX2_firstCamp_45 : decode cX2_firstCamp 45 = .ok (.goto (-41), 3) := by decide +kernel
theorem dX2_firstCamp_48 : decode cX2_firstCamp 48 = .ok (.iload_n 1, 1) := by decide +kernel
theorem dX2_firstCamp_49 : decode cX2_firstCamp 49 = .ok (.ireturn, 1) := by decide +kernel
theorem dX2_restCost_0 : decode cX2_restCost 0 = .ok (.iload_n 1, 1) := by decide +kernel
theorem dX2_restCost_1 : decode cX2_restCost 1 = .ok (.iload_n 2, 1) := by decide +kernel
theorem dX2_restCost_2 : decode cX2_restCost 2 = .ok (.if_icmp .lt 7, 3) := by decide +kernel
theorem dX2_restCost_5 : decode cX2_restCost 5 = .ok (.iconst 0, 1) := by decide +kernel
theorem dX2_restCost_6 : decode cX2_restCost 6 = .ok (.goto 19, 3) := by decide +kernel
theorem dX2_restCost_9 : decode cX2_restCost 9 = .ok (.aload_n 0, 1) := by decide +kernel
theorem dX2_restCost_10 : decode cX2_restCost 10 = .ok (.iload_n 1, 1) := by decide +kernel
theorem dX2_restCost_11 : decode cX2_restCost 11 = .ok (.iload_n 3, 1) := by decide +kernel
theorem dX2_restCost_12 : decode cX2_restCost 12 = .ok (.iload 4, 2) := by decide +kernel
theorem dX2_restCost_14 : decode cX2_restCost 14 = .ok (.aload_n 0, 1) := by decide +kernel
theorem dX2_restCost_15 : decode cX2_restCost 15 = .ok (.iload_n 1, 1) := by decide +kernel
theorem dX2_restCost_16 : decode cX2_restCost 16 = .ok (.iload_n 3, 1) := by decide +kernel
theorem dX2_restCost_17 : decode cX2_restCost 17 = .ok (.iload 4, 2) := by decide +kernel
theorem dX2_restCost_19 : decode cX2_restCost 19 = .ok (.invokevirtual 46, 3) := by decide +kernel
theorem dX2_restCost_22 : decode cX2_restCost 22 = .ok (.invokevirtual 53, 3) := by decide +kernel
theorem dX2_restCost_25 : decode cX2_restCost 25 = .ok (.ireturn, 1) := by decide +kernel
theorem dX2_nextCamp_0 : decode cX2_nextCamp 0 = .ok (.iconst 0, 1) := by decide +kernel
theorem dX2_nextCamp_1 : decode cX2_nextCamp 1 = .ok (.istore 4, 2) := by decide +kernel
theorem dX2_nextCamp_3 : decode cX2_nextCamp 3 = .ok (.aload_n 0, 1) := by decide +kernel
theorem dX2_nextCamp_4 : decode cX2_nextCamp 4 = .ok (.iload_n 1, 1) := by decide +kernel
theorem dX2_nextCamp_5 : decode cX2_nextCamp 5 = .ok (.iload_n 2, 1) := by decide +kernel
theorem dX2_nextCamp_6 : decode cX2_nextCamp 6 = .ok (.iload_n 3, 1) := by decide +kernel
theorem dX2_nextCamp_7 : decode cX2_nextCamp 7 = .ok (.iconst 0, 1) := by decide +kernel
theorem dX2_nextCamp_8 : decode cX2_nextCamp 8 = .ok (.invokevirtual 53, 3) := by decide +kernel
theorem dX2_nextCamp_11 : decode cX2_nextCamp 11 = .ok (.istore 5, 2) := by decide +kernel
theorem dX2_nextCamp_13 : decode cX2_nextCamp 13 = .ok (.iconst 1, 1) := by decide +kernel
theorem dX2_nextCamp_14 : decode cX2_nextCamp 14 = .ok (.istore 6, 2) := by decide +kernel
theorem dX2_nextCamp_16 : decode cX2_nextCamp 16 = .ok (.iload 6, 2) := by decide +kernel
theorem dX2_nextCamp_18 : decode cX2_nextCamp 18 = .ok (.aload_n 0, 1) := by decide +kernel
theorem dX2_nextCamp_19 : decode cX2_nextCamp 19 = .ok (.getfield 18, 3) := by decide +kernel
theorem dX2_nextCamp_22 : decode cX2_nextCamp 22 = .ok (.getfield 22, 3) := by decide +kernel
theorem dX2_nextCamp_25 : decode cX2_nextCamp 25 = .ok (.if_icmp .ge 35, 3) := by decide +kernel
theorem dX2_nextCamp_28 : decode cX2_nextCamp 28 = .ok (.aload_n 0, 1) := by decide +kernel
theorem dX2_nextCamp_29 : decode cX2_nextCamp 29 = .ok (.iload_n 1, 1) := by decide +kernel
theorem dX2_nextCamp_30 : decode cX2_nextCamp 30 = .ok (.iload_n 2, 1) := by decide +kernel
theorem dX2_nextCamp_31 : decode cX2_nextCamp 31 = .ok (.iload_n 3, 1) := by decide +kernel
theorem dX2_nextCamp_32 : decode cX2_nextCamp 32 = .ok (.iload 6, 2) := by decide +kernel
theorem dX2_nextCamp_34 : decode cX2_nextCamp 34 = .ok (.invokevirtual 53, 3) := by decide +kernel
theorem dX2_nextCamp_37 : decode cX2_nextCamp 37 = .ok (.istore 7, 2) := by decide +kernel
theorem dX2_nextCamp_39 : decode cX2_nextCamp 39 = .ok (.iload 7, 2) := by decide +kernel
theorem dX2_nextCamp_41 : decode cX2_nextCamp 41 = .ok (.iload 5, 2) := by decide +kernel
theorem dX2_nextCamp_43 : decode cX2_nextCamp 43 = .ok (.if_icmp .ge 11, 3) := by decide +kernel
theorem dX2_nextCamp_46 : decode cX2_nextCamp 46 = .ok (.iload 7, 2) := by decide +kernel
theorem dX2_nextCamp_48 : decode cX2_nextCamp 48 = .ok (.istore 5, 2) := by decide +kernel
theorem dX2_nextCamp_50 : decode cX2_nextCamp 50 = .ok (.iload 6, 2) := by decide +kernel
theorem dX2_nextCamp_52 : decode cX2_nextCamp 52 = .ok (.istore 4, 2) := by decide +kernel
theorem dX2_nextCamp_54 : decode cX2_nextCamp 54 = .ok (.iinc 6 1, 3) := by decide +kernel
theorem dX2_nextCamp_57 : decode cX2_nextCamp 57 = .ok (.goto (-41), 3) := by decide +kernel
theorem dX2_nextCamp_60 : decode cX2_nextCamp 60 = .ok (.iload 4, 2) := by decide +kernel
theorem dX2_nextCamp_62 : decode cX2_nextCamp 62 = .ok (.ireturn, 1) := by decide +kernel
theorem dX2_onwardCost_0 : decode cX2_onwardCost 0 = .ok (.iload 4, 2) := by decide +kernel
theorem dX2_onwardCost_2 : decode cX2_onwardCost 2 = .ok (.iload_n 2, 1) := by decide +kernel
theorem dX2_onwardCost_3 : decode cX2_onwardCost 3 = .ok (.if_icmp .ne 18, 3) := by decide +kernel
theorem dX2_onwardCost_6 : decode cX2_onwardCost 6 = .ok (.aload_n 0, 1) := by decide +kernel
theorem dX2_onwardCost_7 : decode cX2_onwardCost 7 = .ok (.getfield 9, 3) := by decide +kernel
theorem dX2_onwardCost_10 : decode cX2_onwardCost 10 = .ok (.iload_n 1, 1) := by decide +kernel
theorem dX2_onwardCost_11 : decode cX2_onwardCost 11 = .ok (.iload_n 2, 1) := by decide +kernel
theorem dX2_onwardCost_12 : decode cX2_onwardCost 12 = .ok (.iload_n 3, 1) := by decide +kernel
theorem dX2_onwardCost_13 : decode cX2_onwardCost 13 = .ok (.invokestatic 49, 3) := by decide +kernel
theorem dX2_onwardCost_16 : decode cX2_onwardCost 16 = .ok (.invokestatic 32, 3) := by decide +kernel
theorem dX2_onwardCost_19 : decode cX2_onwardCost 19 = .ok (.iaload, 1) := by decide +kernel
theorem dX2_onwardCost_20 : decode cX2_onwardCost 20 = .ok (.ireturn, 1) := by decide +kernel
theorem dX2_onwardCost_21 : decode cX2_onwardCost 21 = .ok (.aload_n 0, 1) := by decide +kernel
theorem dX2_onwardCost_22 : decode cX2_onwardCost 22 = .ok (.getfield 9, 3) := by decide +kernel
theorem dX2_onwardCost_25 : decode cX2_onwardCost 25 = .ok (.iload_n 1, 1) := by decide +kernel
theorem dX2_onwardCost_26 : decode cX2_onwardCost 26 = .ok (.iload 4, 2) := by decide +kernel
theorem dX2_onwardCost_28 : decode cX2_onwardCost 28 = .ok (.iconst 0, 1) := by decide +kernel
theorem dX2_onwardCost_29 : decode cX2_onwardCost 29 = .ok (.invokestatic 32, 3) := by decide +kernel
theorem dX2_onwardCost_32 : decode cX2_onwardCost 32 = .ok (.iaload, 1) := by decide +kernel
theorem dX2_onwardCost_33 : decode cX2_onwardCost 33 = .ok (.aload_n 0, 1) := by decide +kernel
theorem dX2_onwardCost_34 : decode cX2_onwardCost 34 = .ok (.getfield 18, 3) := by decide +kernel
theorem dX2_onwardCost_37 : decode cX2_onwardCost 37 = .ok (.iload_n 2, 1) := by decide +kernel
theorem dX2_onwardCost_38 : decode cX2_onwardCost 38 = .ok (.iload 4, 2) := by decide +kernel
theorem dX2_onwardCost_40 : decode cX2_onwardCost 40 = .ok (.invokevirtual 56, 3) := by decide +kernel
theorem dX2_onwardCost_43 : decode cX2_onwardCost 43 = .ok (.iadd, 1) := by decide +kernel
theorem dX2_onwardCost_44 : decode cX2_onwardCost 44 = .ok (.ireturn, 1) := by decide +kernel
theorem dX2_longer_0 : decode cX2_longer 0 = .ok (.iload_n 0, 1) := by decide +kernel
theorem dX2_longer_1 : decode cX2_longer 1 = .ok (.iconst 1, 1) := by decide +kernel
theorem dX2_longer_2 : decode cX2_longer 2 = .ok (.iadd, 1) := by decide +kernel
theorem dX2_longer_3 : decode cX2_longer 3 = .ok (.iconst 2, 1) := by decide +kernel
theorem dX2_longer_4 : decode cX2_longer 4 = .ok (.invokestatic 60, 3) := by decide +kernel
theorem dX2_longer_7 : decode cX2_longer 7 = .ok (.ireturn, 1) := by decide +kernel
theorem dX2_at_0 : decode cX2_at 0 = .ok (.iload_n 0, 1) := by decide +kernel
theorem dX2_at_1 : decode cX2_at 1 = .ok (.bipush 6, 2) := by decide +kernel
theorem dX2_at_3 : decode cX2_at 3 = .ok (.imul, 1) := by decide +kernel
theorem dX2_at_4 : decode cX2_at 4 = .ok (.iload_n 1, 1) := by decide +kernel
theorem dX2_at_5 : decode cX2_at 5 = .ok (.iadd, 1) := by decide +kernel
theorem dX2_at_6 : decode cX2_at 6 = .ok (.iconst 3, 1) := by decide +kernel
theorem dX2_at_7 : decode cX2_at 7 = .ok (.imul, 1) := by decide +kernel
theorem dX2_at_8 : decode cX2_at 8 = .ok (.iload_n 2, 1) := by decide +kernel
theorem dX2_at_9 : decode cX2_at 9 = .ok (.iadd, 1) := by decide +kernel
theorem dX2_at_10 : decode cX2_at 10 = .ok (.ireturn, 1) := by decide +kernel
theorem dX3_init_0 : decode cX3_init 0 = .ok (.aload_n 0, 1) := by decide +kernel
theorem dX3_init_1 : decode cX3_init 1 = .ok (.invokespecial 3, 3) := by decide +kernel
theorem dX3_init_4 : decode cX3_init 4 = .ok (.aload_n 0, 1) := by decide +kernel
theorem dX3_init_5 : decode cX3_init 5 = .ok (.bipush 40, 2) := by decide +kernel
theorem dX3_init_7 : decode cX3_init 7 = .ok (.newarray .long, 2) := by decide +kernel
theorem dX3_init_9 : decode cX3_init 9 = .ok (.putfield 9, 3) := by decide +kernel
theorem dX3_init_12 : decode cX3_init 12 = .ok (.return_, 1) := by decide +kernel
theorem dX3_isMissing_0 : decode cX3_isMissing 0 = .ok (.aload_n 0, 1) := by decide +kernel
theorem dX3_isMissing_1 : decode cX3_isMissing 1 = .ok (.getfield 15, 3) := by decide +kernel
theorem dX3_isMissing_4 : decode cX3_isMissing 4 = .ok (.ifCond .ne 7, 3) := by decide +kernel
theorem dX3_isMissing_7 : decode cX3_isMissing 7 = .ok (.iconst 1, 1) := by decide +kernel
theorem dX3_isMissing_8 : decode cX3_isMissing 8 = .ok (.goto 4, 3) := by decide +kernel
theorem dX3_isMissing_11 : decode cX3_isMissing 11 = .ok (.iconst 0, 1) := by decide +kernel
theorem dX3_isMissing_12 : decode cX3_isMissing 12 = .ok (.ireturn, 1) := by decide +kernel
theorem dX3_lay_0 : decode cX3_lay 0 = .ok (.aload_n 0, 1) := by decide +kernel
theorem dX3_lay_1 : decode cX3_lay 1 = .ok (.iload_n 1, 1) := by decide +kernel
theorem dX3_lay_2 : decode cX3_lay 2 = .ok (.putfield 15, 3) := by decide +kernel
theorem dX3_lay_5 : decode cX3_lay 5 = .ok (.aload_n 0, 1) := by decide +kernel
theorem dX3_lay_6 : decode cX3_lay 6 = .ok (.iload_n 1, 1) := by decide +kernel
theorem dX3_lay_7 : decode cX3_lay 7 = .ok (.ifCond .ne 7, 3) := by decide +kernel
theorem dX3_lay_10 : decode cX3_lay 10 = .ok (.iconst 0, 1) := by decide +kernel
theorem dX3_lay_11 : decode cX3_lay 11 = .ok (.goto 4, 3) := by decide +kernel
theorem dX3_lay_14 : decode cX3_lay 14 = .ok (.iload_n 2, 1) := by decide +kernel
theorem dX3_lay_15 : decode cX3_lay 15 = .ok (.putfield 19, 3) := by decide +kernel
theorem dX3_lay_18 : decode cX3_lay 18 = .ok (.aload_n 0, 1) := by decide +kernel
theorem dX3_lay_19 : decode cX3_lay 19 = .ok (.getfield 9, 3) := by decide +kernel
theorem dX3_lay_22 : decode cX3_lay 22 = .ok (.lconst 0, 1) := by decide +kernel
theorem dX3_lay_23 : decode cX3_lay 23 = .ok (.invokestatic 22, 3) := by decide +kernel
theorem dX3_lay_26 : decode cX3_lay 26 = .ok (.return_, 1) := by decide +kernel
theorem dX3_narrowed_0 : decode cX3_narrowed 0 = .ok (.aload_n 0, 1) := by decide +kernel
theorem dX3_narrowed_1 : decode cX3_narrowed 1 = .ok (.getfield 15, 3) := by decide +kernel
theorem dX3_narrowed_4 : decode cX3_narrowed 4 = .ok (.bipush 8, 2) := by decide +kernel
theorem dX3_narrowed_6 : decode cX3_narrowed 6 = .ok (.if_icmp .ne 8, 3) := by decide +kernel
theorem dX3_narrowed_9 : decode cX3_narrowed 9 = .ok (.lload_n 1, 1) := by decide +kernel
theorem dX3_narrowed_10 : decode cX3_narrowed 10 = .ok (.l2i, 1) := by decide +kernel
theorem dX3_narrowed_11 : decode cX3_narrowed 11 = .ok (.i2b, 1) := by decide +kernel
theorem dX3_narrowed_12 : decode cX3_narrowed 12 = .ok (.i2l, 1) := by decide +kernel
theorem dX3_narrowed_13 : decode cX3_narrowed 13 = .ok (.lreturn, 1) := by decide +kernel
theorem dX3_narrowed_14 : decode cX3_narrowed 14 = .ok (.aload_n 0, 1) := by decide +kernel
theorem dX3_narrowed_15 : decode cX3_narrowed 15 = .ok (.getfield 15, 3) := by decide +kernel
theorem dX3_narrowed_18 : decode cX3_narrowed 18 = .ok (.bipush 16, 2) := by decide +kernel
theorem dX3_narrowed_20 : decode cX3_narrowed 20 = .ok (.if_icmp .ne 10, 3) := by decide +kernel
theorem dX3_narrowed_23 : decode cX3_narrowed 23 = .ok (.lload_n 1, 1) := by decide +kernel
theorem dX3_narrowed_24 : decode cX3_narrowed 24 = .ok (.l2i, 1) := by decide +kernel
theorem dX3_narrowed_25 : decode cX3_narrowed 25 = .ok (.i2s, 1) := by decide +kernel
theorem dX3_narrowed_26 : decode cX3_narrowed 26 = .ok (.i2l, 1) := by decide +kernel
theorem dX3_narrowed_27 : decode cX3_narrowed 27 = .ok (.goto 4, 3) := by decide +kernel
theorem dX3_narrowed_30 : decode cX3_narrowed 30 = .ok (.lload_n 1, 1) := by decide +kernel
theorem dX3_narrowed_31 : decode cX3_narrowed 31 = .ok (.lreturn, 1) := by decide +kernel
theorem dX3_hasRange_0 : decode cX3_hasRange 0 = .ok (.iload_n 1, 1) := by decide +kernel
theorem dX3_hasRange_1 : decode cX3_hasRange 1 = .ok (.ifCond .lt 29, 3) := by decide +kernel
theorem dX3_hasRange_4 : decode cX3_hasRange 4 = .ok (.iload_n 2, 1) := by decide +kernel
theorem dX3_hasRange_5 : decode cX3_hasRange 5 = .ok (.ifCond .lt 25, 3) := by decide +kernel
theorem dX3_hasRange_8 : decode cX3_hasRange 8 = .ok (.iload_n 1, 1) := by decide +kernel
theorem dX3_hasRange_9 : decode cX3_hasRange 9 = .ok (.aload_n 0, 1) := by decide +kernel
theorem dX3_hasRange_10 : decode cX3_hasRange 10 = .ok (.getfield 19, 3) := by decide +kernel
theorem dX3_hasRange_13 : decode cX3_hasRange 13 = .ok (.if_icmp .gt 17, 3) := by decide +kernel
theorem dX3_hasRange_16 : decode cX3_hasRange 16 = .ok (.iload_n 2, 1) := by decide +kernel
theorem dX3_hasRange_17 : decode cX3_hasRange 17 = .ok (.aload_n 0, 1) := by decide +kernel
theorem dX3_hasRange_18 : decode cX3_hasRange 18 = .ok (.getfield 19, 3) := by decide +kernel
theorem dX3_hasRange_21 : decode cX3_hasRange 21 = .ok (.iload_n 1, 1) := by decide +kernel
theorem dX3_hasRange_22 : decode cX3_hasRange 22 = .ok (.isub, 1) := by decide +kernel
theorem dX3_hasRange_23 : decode cX3_hasRange 23 = .ok (.if_icmp .gt 7, 3) := by decide +kernel
theorem dX3_hasRange_26 : decode cX3_hasRange 26 = .ok (.iconst 1, 1) := by decide +kernel
theorem dX3_hasRange_27 : decode cX3_hasRange 27 = .ok (.goto 4, 3) := by decide +kernel
theorem dX3_hasRange_30 : decode cX3_hasRange 30 = .ok (.iconst 0, 1) := by decide +kernel
theorem dX3_hasRange_31 : decode cX3_hasRange 31 = .ok (.ireturn, 1) := by decide +kernel
theorem dX4_init_0 : decode cX4_init 0 = .ok (.aload_n 0, 1) := by decide +kernel
theorem dX4_init_1 : decode cX4_init 1 = .ok (.invokespecial 3, 3) := by decide +kernel
theorem dX4_init_4 : decode cX4_init 4 = .ok (.aload_n 0, 1) := by decide +kernel
theorem dX4_init_5 : decode cX4_init 5 = .ok (.bipush 20, 2) := by decide +kernel
theorem dX4_init_7 : decode cX4_init 7 = .ok (.newarray .int, 2) := by decide +kernel
theorem dX4_init_9 : decode cX4_init 9 = .ok (.putfield 9, 3) := by decide +kernel
theorem dX4_init_12 : decode cX4_init 12 = .ok (.aload_n 0, 1) := by decide +kernel
theorem dX4_init_13 : decode cX4_init 13 = .ok (.bipush 20, 2) := by decide +kernel
theorem dX4_init_15 : decode cX4_init 15 = .ok (.newarray .int, 2) := by decide +kernel
theorem dX4_init_17 : decode cX4_init 17 = .ok (.putfield 15, 3) := by decide +kernel
theorem dX4_init_20 : decode cX4_init 20 = .ok (.aload_n 0, 1) := by decide +kernel
theorem dX4_init_21 : decode cX4_init 21 = .ok (.bipush 20, 2) := by decide +kernel
theorem dX4_init_23 : decode cX4_init 23 = .ok (.newarray .int, 2) := by decide +kernel
theorem dX4_init_25 : decode cX4_init 25 = .ok (.putfield 18, 3) := by decide +kernel
theorem dX4_init_28 : decode cX4_init 28 = .ok (.aload_n 0, 1) := by decide +kernel
theorem dX4_init_29 : decode cX4_init 29 = .ok (.bipush 20, 2) := by decide +kernel
theorem dX4_init_31 : decode cX4_init 31 = .ok (.newarray .int, 2) := by decide +kernel
theorem dX4_init_33 : decode cX4_init 33 = .ok (.putfield 21, 3) := by decide +kernel
theorem dX4_init_36 : decode cX4_init 36 = .ok (.aload_n 0, 1) := by decide +kernel
theorem dX4_init_37 : decode cX4_init 37 = .ok (.bipush 20, 2) := by decide +kernel
theorem dX4_init_39 : decode cX4_init 39 = .ok (.newarray .int, 2) := by decide +kernel
theorem dX4_init_41 : decode cX4_init 41 = .ok (.putfield 24, 3) := by decide +kernel
theorem dX4_init_44 : decode cX4_init 44 = .ok (.aload_n 0, 1) := by decide +kernel
theorem dX4_init_45 : decode cX4_init 45 = .ok (.iconst 5, 1) := by decide +kernel
theorem dX4_init_46 : decode cX4_init 46 = .ok (.newarray .int, 2) := by decide +kernel
theorem dX4_init_48 : decode cX4_init 48 = .ok (.putfield 27, 3) := by decide +kernel
theorem dX4_init_51 : decode cX4_init 51 = .ok (.aload_n 0, 1) := by decide +kernel
theorem dX4_init_52 : decode cX4_init 52 = .ok (.bipush 6, 2) := by decide +kernel
theorem dX4_init_54 : decode cX4_init 54 = .ok (.newarray .int, 2) := by decide +kernel
theorem dX4_init_56 : decode cX4_init 56 = .ok (.putfield 30, 3) := by decide +kernel
theorem dX4_init_59 : decode cX4_init 59 = .ok (.aload_n 0, 1) := by decide +kernel
theorem dX4_init_60 : decode cX4_init 60 = .ok (.bipush 6, 2) := by decide +kernel
theorem dX4_init_62 : decode cX4_init 62 = .ok (.newarray .int, 2) := by decide +kernel
theorem dX4_init_64 : decode cX4_init 64 = .ok (.putfield 33, 3) := by decide +kernel
theorem dX4_init_67 : decode cX4_init 67 = .ok (.aload_n 0, 1) := by decide +kernel
theorem dX4_init_68 : decode cX4_init 68 = .ok (.bipush 72, 2) := by decide +kernel
theorem dX4_init_70 : decode cX4_init 70 = .ok (.newarray .int, 2) := by decide +kernel
theorem dX4_init_72 : decode cX4_init 72 = .ok (.putfield 36, 3) := by decide +kernel
theorem dX4_init_75 : decode cX4_init 75 = .ok (.aload_n 0, 1) := by decide +kernel
theorem dX4_init_76 : decode cX4_init 76 = .ok (.iconst 3, 1) := by decide +kernel
theorem dX4_init_77 : decode cX4_init 77 = .ok (.newarray .int, 2) := by decide +kernel
theorem dX4_init_79 : decode cX4_init 79 = .ok (.putfield 39, 3) := by decide +kernel
theorem dX4_init_82 : decode cX4_init 82 = .ok (.aload_n 0, 1) := by decide +kernel
theorem dX4_init_83 : decode cX4_init 83 = .ok (.getfield 27, 3) := by decide +kernel
theorem dX4_init_86 : decode cX4_init 86 = .ok (.iconst 4, 1) := by decide +kernel
theorem dX4_init_87 : decode cX4_init 87 = .ok (.bipush 20, 2) := by decide +kernel
theorem dX4_init_89 : decode cX4_init 89 = .ok (.iastore, 1) := by decide +kernel
theorem dX4_init_90 : decode cX4_init 90 = .ok (.aload_n 0, 1) := by decide +kernel
theorem dX4_init_91 : decode cX4_init 91 = .ok (.bipush 20, 2) := by decide +kernel
theorem dX4_init_93 : decode cX4_init 93 = .ok (.putfield 42, 3) := by decide +kernel
theorem dX4_init_96 : decode cX4_init 96 = .ok (.aload_n 0, 1) := by decide +kernel
theorem dX4_init_97 : decode cX4_init 97 = .ok (.getfield 39, 3) := by decide +kernel
theorem dX4_init_100 : decode cX4_init 100 = .ok (.iconst 0, 1) := by decide +kernel
theorem dX4_init_101 : decode cX4_init 101 = .ok (.bipush 100, 2) := by decide +kernel
theorem dX4_init_103 : decode cX4_init 103 = .ok (.iastore, 1) := by decide +kernel
theorem dX4_init_104 : decode cX4_init 104 = .ok (.aload_n 0, 1) := by decide +kernel
theorem dX4_init_105 : decode cX4_init 105 = .ok (.getfield 39, 3) := by decide +kernel
theorem dX4_init_108 : decode cX4_init 108 = .ok (.iconst 1, 1) := by decide +kernel
theorem dX4_init_109 : decode cX4_init 109 = .ok (.iconst 2, 1) := by decide +kernel
theorem dX4_init_110 : decode cX4_init 110 = .ok (.iastore, 1) := by decide +kernel
theorem dX4_init_111 : decode cX4_init 111 = .ok (.aload_n 0, 1) := by decide +kernel
theorem dX4_init_112 : decode cX4_init 112 = .ok (.getfield 39, 3) := by decide +kernel
theorem dX4_init_115 : decode cX4_init 115 = .ok (.iconst 2, 1) := by decide +kernel
theorem dX4_init_116 : decode cX4_init 116 = .ok (.iconst 5, 1) := by decide +kernel
theorem dX4_init_117 : decode cX4_init 117 = .ok (.iastore, 1) := by decide +kernel
theorem dX4_init_118 : decode cX4_init 118 = .ok (.return_, 1) := by decide +kernel
theorem dX4_takeOver_0 : decode cX4_takeOver 0 = .ok (.aload_n 0, 1) := by decide +kernel
theorem dX4_takeOver_1 : decode cX4_takeOver 1 = .ok (.aload_n 1, 1) := by decide +kernel
theorem dX4_takeOver_2 : decode cX4_takeOver 2 = .ok (.getfield 46, 3) := by decide +kernel
theorem dX4_takeOver_5 : decode cX4_takeOver 5 = .ok (.putfield 46, 3) := by decide +kernel
theorem dX4_takeOver_8 : decode cX4_takeOver 8 = .ok (.aload_n 1, 1) := by decide +kernel
theorem dX4_takeOver_9 : decode cX4_takeOver 9 = .ok (.getfield 9, 3) := by decide +kernel
theorem dX4_takeOver_12 : decode cX4_takeOver 12 = .ok (.iconst 0, 1) := by decide +kernel
theorem dX4_takeOver_13 : decode cX4_takeOver 13 = .ok (.aload_n 0, 1) := by decide +kernel
theorem dX4_takeOver_14 : decode cX4_takeOver 14 = .ok (.getfield 9, 3) := by decide +kernel
theorem dX4_takeOver_17 : decode cX4_takeOver 17 = .ok (.iconst 0, 1) := by decide +kernel
theorem dX4_takeOver_18 : decode cX4_takeOver 18 = .ok (.bipush 20, 2) := by decide +kernel
theorem dX4_takeOver_20 : decode cX4_takeOver 20 = .ok (.invokestatic 49, 3) := by decide +kernel
theorem dX4_takeOver_23 : decode cX4_takeOver 23 = .ok (.aload_n 1, 1) := by decide +kernel
theorem dX4_takeOver_24 : decode cX4_takeOver 24 = .ok (.getfield 15, 3) := by decide +kernel
theorem dX4_takeOver_27 : decode cX4_takeOver 27 = .ok (.iconst 0, 1) := by decide +kernel
theorem dX4_takeOver_28 : decode cX4_takeOver 28 = .ok (.aload_n 0, 1) := by decide +kernel
theorem dX4_takeOver_29 : decode cX4_takeOver 29 = .ok (.getfield 15, 3) := by decide +kernel
theorem dX4_takeOver_32 : decode cX4_takeOver 32 = .ok (.iconst 0, 1) := by decide +kernel
theorem dX4_takeOver_33 : decode cX4_takeOver 33 = .ok (.bipush 20, 2) := by decide +kernel
theorem dX4_takeOver_35 : decode cX4_takeOver 35 = .ok (.invokestatic 49, 3) := by decide +kernel
theorem dX4_takeOver_38 : decode cX4_takeOver 38 = .ok (.aload_n 1, 1) := by decide +kernel
theorem dX4_takeOver_39 : decode cX4_takeOver 39 = .ok (.getfield 18, 3) := by decide +kernel
theorem dX4_takeOver_42 : decode cX4_takeOver 42 = .ok (.iconst 0, 1) := by decide +kernel
theorem dX4_takeOver_43 : decode cX4_takeOver 43 = .ok (.aload_n 0, 1) := by decide +kernel
theorem dX4_takeOver_44 : decode cX4_takeOver 44 = .ok (.getfield 18, 3) := by decide +kernel
theorem dX4_takeOver_47 : decode cX4_takeOver 47 = .ok (.iconst 0, 1) := by decide +kernel
theorem dX4_takeOver_48 : decode cX4_takeOver 48 = .ok (.bipush 20, 2) := by decide +kernel
theorem dX4_takeOver_50 : decode cX4_takeOver 50 = .ok (.invokestatic 49, 3) := by decide +kernel
theorem dX4_takeOver_53 : decode cX4_takeOver 53 = .ok (.aload_n 1, 1) := by decide +kernel
theorem dX4_takeOver_54 : decode cX4_takeOver 54 = .ok (.getfield 21, 3) := by decide +kernel
theorem dX4_takeOver_57 : decode cX4_takeOver 57 = .ok (.iconst 0, 1) := by decide +kernel
theorem dX4_takeOver_58 : decode cX4_takeOver 58 = .ok (.aload_n 0, 1) := by decide +kernel
theorem dX4_takeOver_59 : decode cX4_takeOver 59 = .ok (.getfield 21, 3) := by decide +kernel
theorem dX4_takeOver_62 : decode cX4_takeOver 62 = .ok (.iconst 0, 1) := by decide +kernel
theorem dX4_takeOver_63 : decode cX4_takeOver 63 = .ok (.bipush 20, 2) := by decide +kernel
theorem dX4_takeOver_65 : decode cX4_takeOver 65 = .ok (.invokestatic 49, 3) := by decide +kernel
theorem dX4_takeOver_68 : decode cX4_takeOver 68 = .ok (.aload_n 1, 1) := by decide +kernel
theorem dX4_takeOver_69 : decode cX4_takeOver 69 = .ok (.getfield 24, 3) := by decide +kernel
theorem dX4_takeOver_72 : decode cX4_takeOver 72 = .ok (.iconst 0, 1) := by decide +kernel
theorem dX4_takeOver_73 : decode cX4_takeOver 73 = .ok (.aload_n 0, 1) := by decide +kernel
theorem dX4_takeOver_74 : decode cX4_takeOver 74 = .ok (.getfield 24, 3) := by decide +kernel
theorem dX4_takeOver_77 : decode cX4_takeOver 77 = .ok (.iconst 0, 1) := by decide +kernel
theorem dX4_takeOver_78 : decode cX4_takeOver 78 = .ok (.bipush 20, 2) := by decide +kernel
theorem dX4_takeOver_80 : decode cX4_takeOver 80 = .ok (.invokestatic 49, 3) := by decide +kernel
theorem dX4_takeOver_83 : decode cX4_takeOver 83 = .ok (.aload_n 0, 1) := by decide +kernel
theorem dX4_takeOver_84 : decode cX4_takeOver 84 = .ok (.aload_n 1, 1) := by decide +kernel
theorem dX4_takeOver_85 : decode cX4_takeOver 85 = .ok (.getfield 55, 3) := by decide +kernel
theorem dX4_takeOver_88 : decode cX4_takeOver 88 = .ok (.putfield 55, 3) := by decide +kernel
theorem dX4_takeOver_91 : decode cX4_takeOver 91 = .ok (.aload_n 1, 1) := by decide +kernel
theorem dX4_takeOver_92 : decode cX4_takeOver 92 = .ok (.getfield 27, 3) := by decide +kernel
theorem dX4_takeOver_95 : decode cX4_takeOver 95 = .ok (.iconst 0, 1) := by decide +kernel
theorem dX4_takeOver_96 : decode cX4_takeOver 96 = .ok (.aload_n 0, 1) := by decide +kernel
theorem dX4_takeOver_97 : decode cX4_takeOver 97 = .ok (.getfield 27, 3) := by decide +kernel
theorem dX4_takeOver_100 : decode cX4_takeOver 100 = .ok (.iconst 0, 1) := by decide +kernel
theorem dX4_takeOver_101 : decode cX4_takeOver 101 = .ok (.iconst 5, 1) := by decide +kernel
theorem dX4_takeOver_102 : decode cX4_takeOver 102 = .ok (.invokestatic 49, 3) := by decide +kernel
theorem dX4_takeOver_105 : decode cX4_takeOver 105 = .ok (.aload_n 0, 1) := by decide +kernel
theorem dX4_takeOver_106 : decode cX4_takeOver 106 = .ok (.aload_n 1, 1) := by decide +kernel
theorem dX4_takeOver_107 : decode cX4_takeOver 107 = .ok (.getfield 42, 3) := by decide +kernel
theorem dX4_takeOver_110 : decode cX4_takeOver 110 = .ok (.putfield 42, 3) := by decide +kernel
theorem dX4_takeOver_113 : decode cX4_takeOver 113 = .ok (.aload_n 0, 1) := by decide +kernel
theorem dX4_takeOver_114 : decode cX4_takeOver 114 = .ok (.aload_n 1, 1) := by decide +kernel
theorem dX4_takeOver_115 : decode cX4_takeOver 115 = .ok (.getfield 58, 3) := by decide +kernel
theorem dX4_takeOver_118 : decode cX4_takeOver 118 = .ok (.putfield 58, 3) := by decide +kernel
theorem dX4_takeOver_121 : decode cX4_takeOver 121 = .ok (.aload_n 1, 1) := by decide +kernel
theorem dX4_takeOver_122 : decode cX4_takeOver 122 = .ok (.getfield 30, 3) := by decide +kernel
theorem dX4_takeOver_125 : decode cX4_takeOver 125 = .ok (.iconst 0, 1) := by decide +kernel
theorem dX4_takeOver_126 : decode cX4_takeOver 126 = .ok (.aload_n 0, 1) := by decide +kernel
theorem dX4_takeOver_127 : decode cX4_takeOver 127 = .ok (.getfield 30, 3) := by decide +kernel
theorem dX4_takeOver_130 : decode cX4_takeOver 130 = .ok (.iconst 0, 1) := by decide +kernel
theorem dX4_takeOver_131 : decode cX4_takeOver 131 = .ok (.bipush 6, 2) := by decide +kernel
theorem dX4_takeOver_133 : decode cX4_takeOver 133 = .ok (.invokestatic 49, 3) := by decide +kernel
theorem dX4_takeOver_136 : decode cX4_takeOver 136 = .ok (.aload_n 0, 1) := by decide +kernel
theorem dX4_takeOver_137 : decode cX4_takeOver 137 = .ok (.aload_n 1, 1) := by decide +kernel
theorem dX4_takeOver_138 : decode cX4_takeOver 138 = .ok (.getfield 61, 3) := by decide +kernel
theorem dX4_takeOver_141 : decode cX4_takeOver 141 = .ok (.putfield 61, 3) := by decide +kernel
theorem dX4_takeOver_144 : decode cX4_takeOver 144 = .ok (.aload_n 1, 1) := by decide +kernel
theorem dX4_takeOver_145 : decode cX4_takeOver 145 = .ok (.getfield 33, 3) := by decide +kernel
theorem dX4_takeOver_148 : decode cX4_takeOver 148 = .ok (.iconst 0, 1) := by decide +kernel
theorem dX4_takeOver_149 : decode cX4_takeOver 149 = .ok (.aload_n 0, 1) := by decide +kernel
theorem dX4_takeOver_150 : decode cX4_takeOver 150 = .ok (.getfield 33, 3) := by decide +kernel
theorem dX4_takeOver_153 : decode cX4_takeOver 153 = .ok (.iconst 0, 1) := by decide +kernel
theorem dX4_takeOver_154 : decode cX4_takeOver 154 = .ok (.bipush 6, 2) := by decide +kernel
theorem dX4_takeOver_156 : decode cX4_takeOver 156 = .ok (.invokestatic 49, 3) := by decide +kernel
theorem dX4_takeOver_159 : decode cX4_takeOver 159 = .ok (.aload_n 1, 1) := by decide +kernel
theorem dX4_takeOver_160 : decode cX4_takeOver 160 = .ok (.getfield 36, 3) := by decide +kernel
theorem dX4_takeOver_163 : decode cX4_takeOver 163 = .ok (.iconst 0, 1) := by decide +kernel
theorem dX4_takeOver_164 : decode cX4_takeOver 164 = .ok (.aload_n 0, 1) := by decide +kernel
theorem dX4_takeOver_165 : decode cX4_takeOver 165 = .ok (.getfield 36, 3) := by decide +kernel
theorem dX4_takeOver_168 : decode cX4_takeOver 168 = .ok (.iconst 0, 1) := by decide +kernel
theorem dX4_takeOver_169 : decode cX4_takeOver 169 = .ok (.bipush 72, 2) := by decide +kernel
theorem dX4_takeOver_171 : decode cX4_takeOver 171 = .ok (.invokestatic 49, 3) := by decide +kernel
theorem dX4_takeOver_174 : decode cX4_takeOver 174 = .ok (.aload_n 1, 1) := by decide +kernel
theorem dX4_takeOver_175 : decode cX4_takeOver 175 = .ok (.getfield 39, 3) := by decide +kernel
theorem dX4_takeOver_178 : decode cX4_takeOver 178 = .ok (.iconst 0, 1) := by decide +kernel
theorem dX4_takeOver_179 : decode cX4_takeOver 179 = .ok (.aload_n 0, 1) := by decide +kernel
theorem dX4_takeOver_180 : decode cX4_takeOver 180 = .ok (.getfield 39, 3) := by decide +kernel
theorem dX4_takeOver_183 : decode cX4_takeOver 183 = .ok (.iconst 0, 1) := by decide +kernel
theorem dX4_takeOver_184 : decode cX4_takeOver 184 = .ok (.iconst 3, 1) := by decide +kernel
theorem dX4_takeOver_185 : decode cX4_takeOver 185 = .ok (.invokestatic 49, 3) := by decide +kernel
theorem dX4_takeOver_188 : decode cX4_takeOver 188 = .ok (.return_, 1) := by decide +kernel
theorem dX4_hasPart_0 : decode cX4_hasPart 0 = .ok (.iload_n 1, 1) := by decide +kernel
theorem dX4_hasPart_1 : decode cX4_hasPart 1 = .ok (.ifCond .lt 15, 3) := by decide +kernel
theorem dX4_hasPart_4 : decode cX4_hasPart 4 = .ok (.iload_n 1, 1) := by decide +kernel
theorem dX4_hasPart_5 : decode cX4_hasPart 5 = .ok (.aload_n 0, 1) := by decide +kernel
theorem dX4_hasPart_6 : decode cX4_hasPart 6 = .ok (.getfield 46, 3) := by decide +kernel
theorem dX4_hasPart_9 : decode cX4_hasPart 9 = .ok (.if_icmp .ge 7, 3) := by decide +kernel
theorem dX4_hasPart_12 : decode cX4_hasPart 12 = .ok (.iconst 1, 1) := by decide +kernel
theorem dX4_hasPart_13 : decode cX4_hasPart 13 = .ok (.goto 4, 3) := by decide +kernel
theorem dX4_hasPart_16 : decode cX4_hasPart 16 = .ok (.iconst 0, 1) := by decide +kernel
theorem dX4_hasPart_17 : decode cX4_hasPart 17 = .ok (.ireturn, 1) := by decide +kernel
theorem dX4_isThere_0 : decode cX4_isThere 0 = .ok (.aload_n 0, 1) := by decide +kernel
theorem dX4_isThere_1 : decode cX4_isThere 1 = .ok (.getfield 55, 3) := by decide +kernel
theorem dX4_isThere_4 : decode cX4_isThere 4 = .ok (.iload_n 1, 1) := by decide +kernel
theorem dX4_isThere_5 : decode cX4_isThere 5 = .ok (.ishr, 1) := by decide +kernel
theorem dX4_isThere_6 : decode cX4_isThere 6 = .ok (.iconst 1, 1) := by decide +kernel
theorem dX4_isThere_7 : decode cX4_isThere 7 = .ok (.iand, 1) := by decide +kernel
theorem dX4_isThere_8 : decode cX4_isThere 8 = .ok (.iconst 1, 1) := by decide +kernel
theorem dX4_isThere_9 : decode cX4_isThere 9 = .ok (.if_icmp .ne 7, 3) := by decide +kernel
theorem dX4_isThere_12 : decode cX4_isThere 12 = .ok (.iconst 1, 1) := by decide +kernel
theorem dX4_isThere_13 : decode cX4_isThere 13 = .ok (.goto 4, 3) := by decide +kernel
theorem dX4_isThere_16 : decode cX4_isThere 16 = .ok (.iconst 0, 1) := by decide +kernel
theorem dX4_isThere_17 : decode cX4_isThere 17 = .ok (.ireturn, 1) := by decide +kernel
theorem dX4_areAllThere_0 : decode cX4_areAllThere 0 = .ok (.iload_n 1, 1) := by decide +kernel
theorem dX4_areAllThere_1 : decode cX4_areAllThere 1 = .ok (.aload_n 0, 1) := by decide +kernel
theorem dX4_areAllThere_2 : decode cX4_areAllThere 2 = .ok (.getfield 55, 3) := by decide +kernel
theorem dX4_areAllThere_5 : decode cX4_areAllThere 5 = .ok (.iconst (-1), 1) := by decide +kernel
theorem dX4_areAllThere_6 : decode cX4_areAllThere 6 = .ok (.ixor, 1) := by decide +kernel
theorem dX4_areAllThere_7 : decode cX4_areAllThere 7 = .ok (.iand, 1) := by decide +kernel
theorem dX4_areAllThere_8 : decode cX4_areAllThere 8 = .ok (.ifCond .ne 7, 3) := by decide +kernel
theorem dX4_areAllThere_11 : decode cX4_areAllThere 11 = .ok (.iconst 1, 1) := by decide +kernel
theorem dX4_areAllThere_12 : decode cX4_areAllThere 12 = .ok (.goto 4, 3) := by decide +kernel
theorem dX4_areAllThere_15 : decode cX4_areAllThere 15 = .ok (.iconst 0, 1) := by decide +kernel
theorem dX4_areAllThere_16 : decode cX4_areAllThere 16 = .ok (.ireturn, 1) := by decide +kernel
theorem dX4_hasCamp_0 : decode cX4_hasCamp 0 = .ok (.iload_n 1, 1) := by decide +kernel
theorem dX4_hasCamp_1 : decode cX4_hasCamp 1 = .ok (.ifCond .lt 15, 3) := by decide +kernel
theorem dX4_hasCamp_4 : decode cX4_hasCamp 4 = .ok (.iload_n 1, 1) := by decide +kernel
theorem dX4_hasCamp_5 : decode cX4_hasCamp 5 = .ok (.aload_n 0, 1) := by decide +kernel
theorem dX4_hasCamp_6 : decode cX4_hasCamp 6 = .ok (.getfield 61, 3) := by decide +kernel
theorem dX4_hasCamp_9 : decode cX4_hasCamp 9 = .ok (.if_icmp .ge 7, 3) := by decide +kernel
theorem dX4_hasCamp_12 : decode cX4_hasCamp 12 = .ok (.iconst 1, 1) := by decide +kernel
theorem dX4_hasCamp_13 : decode cX4_hasCamp 13 = .ok (.goto 4, 3) := by decide +kernel
theorem dX4_hasCamp_16 : decode cX4_hasCamp 16 = .ok (.iconst 0, 1) := by decide +kernel
theorem dX4_hasCamp_17 : decode cX4_hasCamp 17 = .ok (.ireturn, 1) := by decide +kernel
theorem dX4_addPart_0 : decode cX4_addPart 0 = .ok (.aload_n 0, 1) := by decide +kernel
theorem dX4_addPart_1 : decode cX4_addPart 1 = .ok (.getfield 46, 3) := by decide +kernel
theorem dX4_addPart_4 : decode cX4_addPart 4 = .ok (.bipush 20, 2) := by decide +kernel
theorem dX4_addPart_6 : decode cX4_addPart 6 = .ok (.if_icmp .lt 5, 3) := by decide +kernel
theorem dX4_addPart_9 : decode cX4_addPart 9 = .ok (.iconst (-1), 1) := by decide +kernel
theorem dX4_addPart_10 : decode cX4_addPart 10 = .ok (.ireturn, 1) := by decide +kernel
theorem dX4_addPart_11 : decode cX4_addPart 11 = .ok (.aload_n 0, 1) := by decide +kernel
theorem dX4_addPart_12 : decode cX4_addPart 12 = .ok (.getfield 46, 3) := by decide +kernel
theorem dX4_addPart_15 : decode cX4_addPart 15 = .ok (.istore 5, 2) := by decide +kernel
theorem dX4_addPart_17 : decode cX4_addPart 17 = .ok (.aload_n 0, 1) := by decide +kernel
theorem dX4_addPart_18 : decode cX4_addPart 18 = .ok (.getfield 9, 3) := by decide +kernel
theorem dX4_addPart_21 : decode cX4_addPart 21 = .ok (.iload 5, 2) := by decide +kernel
theorem dX4_addPart_23 : decode cX4_addPart 23 = .ok (.iload_n 1, 1) := by decide +kernel
theorem dX4_addPart_24 : decode cX4_addPart 24 = .ok (.iastore, 1) := by decide +kernel
theorem dX4_addPart_25 : decode cX4_addPart 25 = .ok (.aload_n 0, 1) := by decide +kernel
theorem dX4_addPart_26 : decode cX4_addPart 26 = .ok (.getfield 15, 3) := by decide +kernel
theorem dX4_addPart_29 : decode cX4_addPart 29 = .ok (.iload 5, 2) := by decide +kernel
theorem dX4_addPart_31 : decode cX4_addPart 31 = .ok (.iload_n 2, 1) := by decide +kernel
theorem dX4_addPart_32 : decode cX4_addPart 32 = .ok (.iastore, 1) := by decide +kernel
theorem dX4_addPart_33 : decode cX4_addPart 33 = .ok (.aload_n 0, 1) := by decide +kernel
theorem dX4_addPart_34 : decode cX4_addPart 34 = .ok (.getfield 18, 3) := by decide +kernel
theorem dX4_addPart_37 : decode cX4_addPart 37 = .ok (.iload 5, 2) := by decide +kernel
theorem dX4_addPart_39 : decode cX4_addPart 39 = .ok (.iload_n 3, 1) := by decide +kernel
theorem dX4_addPart_40 : decode cX4_addPart 40 = .ok (.iastore, 1) := by decide +kernel
theorem dX4_addPart_41 : decode cX4_addPart 41 = .ok (.aload_n 0, 1) := by decide +kernel
theorem dX4_addPart_42 : decode cX4_addPart 42 = .ok (.getfield 21, 3) := by decide +kernel
theorem dX4_addPart_45 : decode cX4_addPart 45 = .ok (.iload 5, 2) := by decide +kernel
theorem dX4_addPart_47 : decode cX4_addPart 47 = .ok (.iload 4, 2) := by decide +kernel
theorem dX4_addPart_49 : decode cX4_addPart 49 = .ok (.iastore, 1) := by decide +kernel
theorem dX4_addPart_50 : decode cX4_addPart 50 = .ok (.aload_n 0, 1) := by decide +kernel
theorem dX4_addPart_51 : decode cX4_addPart 51 = .ok (.getfield 24, 3) := by decide +kernel
theorem dX4_addPart_54 : decode cX4_addPart 54 = .ok (.iload 5, 2) := by decide +kernel
theorem dX4_addPart_56 : decode cX4_addPart 56 = .ok (.iconst 0, 1) := by decide +kernel
theorem dX4_addPart_57 : decode cX4_addPart 57 = .ok (.iastore, 1) := by decide +kernel
theorem dX4_addPart_58 : decode cX4_addPart 58 = .ok (.aload_n 0, 1) := by decide +kernel
theorem dX4_addPart_59 : decode cX4_addPart 59 = .ok (.dup, 1) := by decide +kernel
theorem dX4_addPart_60 : decode cX4_addPart 60 = .ok (.getfield 55, 3) := by decide +kernel
theorem dX4_addPart_63 : decode cX4_addPart 63 = .ok (.iconst 1, 1) := by decide +kernel
theorem dX4_addPart_64 : decode cX4_addPart 64 = .ok (.iload 5, 2) := by decide +kernel
theorem dX4_addPart_66 : decode cX4_addPart 66 = .ok (.ishl, 1) := by decide +kernel
theorem dX4_addPart_67 : decode cX4_addPart 67 = .ok (.ior, 1) := by decide +kernel
theorem dX4_addPart_68 : decode cX4_addPart 68 = .ok (.putfield 55, 3) := by decide +kernel
theorem dX4_addPart_71 : decode cX4_addPart 71 = .ok (.aload_n 0, 1) := by decide +kernel
theorem dX4_addPart_72 : decode cX4_addPart 72 = .ok (.dup, 1) := by decide +kernel
theorem dX4_addPart_73 : decode cX4_addPart 73 = .ok (.getfield 46, 3) := by decide +kernel
theorem dX4_addPart_76 : decode cX4_addPart 76 = .ok (.iconst 1, 1) := by decide +kernel
theorem dX4_addPart_77 : decode cX4_addPart 77 = .ok (.iadd, 1) := by decide +kernel
theorem dX4_addPart_78 : decode cX4_addPart 78 = .ok (.putfield 46, 3) := by decide +kernel
theorem dX4_addPart_81 : decode cX4_addPart 81 = .ok (.iload 5, 2) := by decide +kernel
theorem dX4_addPart_83 : decode cX4_addPart 83 = .ok (.ireturn, 1) := by decide +kernel
theorem dX4_addBeast_0 : decode cX4_addBeast 0 = .ok (.aload_n 0, 1) := by decide +kernel
theorem dX4_addBeast_1 : decode cX4_addBeast 1 = .ok (.getfield 58, 3) := by decide +kernel
theorem dX4_addBeast_4 : decode cX4_addBeast 4 = .ok (.bipush 6, 2) := by decide +kernel
theorem dX4_addBeast_6 : decode cX4_addBeast 6 = .ok (.if_icmp .lt 5, 3) := by decide +kernel
theorem dX4_addBeast_9 : decode cX4_addBeast 9 = .ok (.iconst (-1), 1) := by decide +kernel
theorem dX4_addBeast_10 : decode cX4_addBeast 10 = .ok (.ireturn, 1) := by decide +kernel
theorem dX4_addBeast_11 : decode cX4_addBeast 11 = .ok (.aload_n 0, 1) := by decide +kernel
theorem dX4_addBeast_12 : decode cX4_addBeast 12 = .ok (.getfield 30, 3) := by decide +kernel
theorem dX4_addBeast_15 : decode cX4_addBeast 15 = .ok (.aload_n 0, 1) := by decide +kernel
theorem dX4_addBeast_16 : decode cX4_addBeast 16 = .ok (.getfield 58, 3) := by decide +kernel
theorem dX4_addBeast_19 : decode cX4_addBeast 19 = .ok (.iload_n 1, 1) := by decide +kernel
theorem dX4_addBeast_20 : decode cX4_addBeast 20 = .ok (.iastore, 1) := by decide +kernel
theorem dX4_addBeast_21 : decode cX4_addBeast 21 = .ok (.aload_n 0, 1) := by decide +kernel
theorem dX4_addBeast_22 : decode cX4_addBeast 22 = .ok (.dup, 1) := by decide +kernel
theorem dX4_addBeast_23 : decode cX4_addBeast 23 = .ok (.getfield 58, 3) := by decide +kernel
theorem dX4_addBeast_26 : decode cX4_addBeast 26 = .ok (.iconst 1, 1) := by decide +kernel
theorem dX4_addBeast_27 : decode cX4_addBeast 27 = .ok (.iadd, 1) := by decide +kernel
theorem dX4_addBeast_28 : decode cX4_addBeast 28 = .ok (.putfield 58, 3) := by decide +kernel
theorem dX4_addBeast_31 : decode cX4_addBeast 31 = .ok (.aload_n 0, 1) := by decide +kernel
theorem dX4_addBeast_32 : decode cX4_addBeast 32 = .ok (.getfield 58, 3) := by decide +kernel
theorem dX4_addBeast_35 : decode cX4_addBeast 35 = .ok (.iconst 1, 1) := by decide +kernel
theorem dX4_addBeast_36 : decode cX4_addBeast 36 = .ok (.isub, 1) := by decide +kernel
theorem dX4_addBeast_37 : decode cX4_addBeast 37 = .ok (.ireturn, 1) := by decide +kernel
theorem dX4_addCamp_0 : decode cX4_addCamp 0 = .ok (.aload_n 0, 1) := by decide +kernel
theorem dX4_addCamp_1 : decode cX4_addCamp 1 = .ok (.getfield 61, 3) := by decide +kernel
theorem dX4_addCamp_4 : decode cX4_addCamp 4 = .ok (.bipush 6, 2) := by decide +kernel
theorem dX4_addCamp_6 : decode cX4_addCamp 6 = .ok (.if_icmp .lt 5, 3) := by decide +kernel
theorem dX4_addCamp_9 : decode cX4_addCamp 9 = .ok (.iconst (-1), 1) := by decide +kernel
theorem dX4_addCamp_10 : decode cX4_addCamp 10 = .ok (.ireturn, 1) := by decide +kernel
theorem dX4_addCamp_11 : decode cX4_addCamp 11 = .ok (.aload_n 0, 1) := by decide +kernel
theorem dX4_addCamp_12 : decode cX4_addCamp 12 = .ok (.getfield 61, 3) := by decide +kernel
theorem dX4_addCamp_15 : decode cX4_addCamp 15 = .ok (.istore_n 2, 1) := by decide +kernel
theorem dX4_addCamp_16 : decode cX4_addCamp 16 = .ok (.aload_n 0, 1) := by decide +kernel
theorem dX4_addCamp_17 : decode cX4_addCamp 17 = .ok (.getfield 33, 3) := by decide +kernel
theorem dX4_addCamp_20 : decode cX4_addCamp 20 = .ok (.iload_n 2, 1) := by decide +kernel
theorem dX4_addCamp_21 : decode cX4_addCamp 21 = .ok (.iload_n 1, 1) := by decide +kernel
theorem dX4_addCamp_22 : decode cX4_addCamp 22 = .ok (.iastore, 1) := by decide +kernel
theorem dX4_addCamp_23 : decode cX4_addCamp 23 = .ok (.iconst 0, 1) := by decide +kernel
theorem dX4_addCamp_24 : decode cX4_addCamp 24 = .ok (.istore_n 3, 1) := by decide +kernel
theorem dX4_addCamp_25 : decode cX4_addCamp 25 = .ok (.iload_n 3, 1) := by decide +kernel
theorem dX4_addCamp_26 : decode cX4_addCamp 26 = .ok (.bipush 12, 2) := by decide +kernel
theorem dX4_addCamp_28 : decode cX4_addCamp 28 = .ok (.if_icmp .ge 21, 3) := by decide +kernel
theorem dX4_addCamp_31 : decode cX4_addCamp 31 = .ok (.aload_n 0, 1) := by decide +kernel
theorem dX4_addCamp_32 : decode cX4_addCamp 32 = .ok (.getfield 36, 3) := by decide +kernel
theorem dX4_addCamp_35 : decode cX4_addCamp 35 = .ok (.iload_n 2, 1) := by decide +kernel
theorem dX4_addCamp_36 : decode cX4_addCamp 36 = .ok (.bipush 12, 2) := by decide +kernel
theorem dX4_addCamp_38 : decode cX4_addCamp 38 = .ok (.imul, 1) := by decide +kernel
theorem dX4_addCamp_39 : decode cX4_addCamp 39 = .ok (.iload_n 3, 1) := by decide +kernel
theorem dX4_addCamp_40 : decode cX4_addCamp 40 = .ok (.iadd, 1) := by decide +kernel
theorem dX4_addCamp_41 : decode cX4_addCamp 41 = .ok (.iconst 0, 1) := by decide +kernel
theorem dX4_addCamp_42 : decode cX4_addCamp 42 = .ok (.iastore, 1) := by decide +kernel
theorem dX4_addCamp_43 : decode cX4_addCamp 43 = .ok (.iinc 3 1, 3) := by decide +kernel
theorem dX4_addCamp_46 : decode cX4_addCamp 46 = .ok (.goto (-21), 3) := by decide +kernel
theorem dX4_addCamp_49 : decode cX4_addCamp 49 = .ok (.aload_n 0, 1) := by decide +kernel
theorem dX4_addCamp_50 : decode cX4_addCamp 50 = .ok (.dup, 1) := by decide +kernel
theorem dX4_addCamp_51 : decode cX4_addCamp 51 = .ok (.getfield 61, 3) := by decide +kernel
theorem dX4_addCamp_54 : decode cX4_addCamp 54 = .ok (.iconst 1, 1) := by decide +kernel
theorem dX4_addCamp_55 : decode cX4_addCamp 55 = .ok (.iadd, 1) := by decide +kernel
theorem dX4_addCamp_56 : decode cX4_addCamp 56 = .ok (.putfield 61, 3) := by decide +kernel
theorem dX4_addCamp_59 : decode cX4_addCamp 59 = .ok (.iload_n 2, 1) := by decide +kernel
theorem dX4_addCamp_60 : decode cX4_addCamp 60 = .ok (.ireturn, 1) := by decide +kernel
theorem dX4_growOlder_0 : decode cX4_growOlder 0 = .ok (.aload_n 0, 1) := by decide +kernel
theorem dX4_growOlder_1 : decode cX4_growOlder 1 = .ok (.getfield 27, 3) := by decide +kernel
theorem dX4_growOlder_4 : decode cX4_growOlder 4 = .ok (.iconst 2, 1) := by decide +kernel
theorem dX4_growOlder_5 : decode cX4_growOlder 5 = .ok (.iaload, 1) := by decide +kernel
theorem dX4_growOlder_6 : decode cX4_growOlder 6 = .ok (.iconst 4, 1) := by decide +kernel
theorem dX4_growOlder_7 : decode cX4_growOlder 7 = .ok (.if_icmp .le 7, 3) := by decide +kernel
theorem dX4_growOlder_10 : decode cX4_growOlder 10 = .ok (.iconst 2, 1) := by decide +kernel
theorem dX4_growOlder_11 : decode cX4_growOlder 11 = .ok (.goto 4, 3) := by decide +kernel
theorem dX4_growOlder_14 : decode cX4_growOlder 14 = .ok (.iconst 1, 1) := by decide +kernel
theorem dX4_growOlder_15 : decode cX4_growOlder 15 = .ok (.istore_n 1, 1) := by decide +kernel
theorem dX4_growOlder_16 : decode cX4_growOlder 16 = .ok (.iconst 0, 1) := by decide +kernel
theorem dX4_growOlder_17 : decode cX4_growOlder 17 = .ok (.istore_n 2, 1) := by decide +kernel
theorem dX4_growOlder_18 : decode cX4_growOlder 18 = .ok (.iconst 0, 1) := by decide +kernel
theorem dX4_growOlder_19 : decode cX4_growOlder 19 = .ok (.istore_n 3, 1) := by decide +kernel
theorem dX4_growOlder_20 : decode cX4_growOlder 20 = .ok (.iload_n 3, 1) := by decide +kernel
theorem dX4_growOlder_21 : decode cX4_growOlder 21 = .ok (.aload_n 0, 1) := by decide +kernel
theorem dX4_growOlder_22 : decode cX4_growOlder 22 = .ok (.getfield 46, 3) := by decide +kernel
theorem dX4_growOlder_25 : decode cX4_growOlder 25 = .ok (.if_icmp .ge 65, 3) := by decide +kernel
theorem dX4_growOlder_28 : decode cX4_growOlder 28 = .ok (.aload_n 0, 1) := by decide +kernel
theorem dX4_growOlder_29 : decode cX4_growOlder 29 = .ok (.iload_n 3, 1) := by decide +kernel
theorem dX4_growOlder_30 : decode cX4_growOlder 30 = .ok (.invokevirtual 64, 3) := by decide +kernel
theorem dX4_growOlder_33 : decode cX4_growOlder 33 = .ok (.ifCond .ne 6, 3) := by decide +kernel
theorem dX4_growOlder_36 : decode cX4_growOlder 36 = .ok (.goto 48, 3) := by decide +kernel
theorem dX4_growOlder_39 : decode cX4_growOlder 39 = .ok (.aload_n 0, 1) := by decide +kernel
theorem dX4_growOlder_40 : decode cX4_growOlder 40 = .ok (.getfield 24, 3) := by decide +kernel
theorem dX4_growOlder_43 : decode cX4_growOlder 43 = .ok (.iload_n 3, 1) := by decide +kernel
theorem dX4_growOlder_44 : decode cX4_growOlder 44 = .ok (.dup2, 1) := by decide +kernel
theorem dX4_growOlder_45 : decode cX4_growOlder 45 = .ok (.iaload, 1) := by decide +kernel
theorem dX4_growOlder_46 : decode cX4_growOlder 46 = .ok (.iload_n 1, 1) := by decide +kernel
theorem dX4_growOlder_47 : decode cX4_growOlder 47 = .ok (.iadd, 1) := by decide +kernel
theorem dX4_growOlder_48 : decode cX4_growOlder 48 = .ok (.iastore, 1) := by decide +kernel
theorem dX4_growOlder_49 : decode cX4_growOlder 49 = .ok (.aload_n 0, 1) := by decide +kernel
theorem dX4_growOlder_50 : decode cX4_growOlder 50 = .ok (.getfield 24, 3) := by decide +kernel
theorem dX4_growOlder_53 : decode cX4_growOlder 53 = .ok (.iload_n 3, 1) := by decide +kernel
theorem dX4_growOlder_54 : decode cX4_growOlder 54 = .ok (.iaload, 1) := by decide +kernel
theorem dX4_growOlder_55 : decode cX4_growOlder 55 = .ok (.bipush 99, 2) := by decide +kernel
theorem dX4_growOlder_57 : decode cX4_growOlder 57 = .ok (.if_icmp .le 27, 3) := by decide +kernel
theorem dX4_growOlder_60 : decode cX4_growOlder 60 = .ok (.aload_n 0, 1) := by decide +kernel
theorem dX4_growOlder_61 : decode cX4_growOlder 61 = .ok (.getfield 24, 3) := by decide +kernel
theorem dX4_growOlder_64 : decode cX4_growOlder 64 = .ok (.iload_n 3, 1) := by decide +kernel
theorem dX4_growOlder_65 : decode cX4_growOlder 65 = .ok (.iconst 0, 1) := by decide +kernel
theorem dX4_growOlder_66 : decode cX4_growOlder 66 = .ok (.iastore, 1) := by decide +kernel
theorem dX4_growOlder_67 : decode cX4_growOlder 67 = .ok (.aload_n 0, 1) := by decide +kernel
theorem dX4_growOlder_68 : decode cX4_growOlder 68 = .ok (.dup, 1) := by decide +kernel
theorem dX4_growOlder_69 : decode cX4_growOlder 69 = .ok (.getfield 55, 3) := by decide +kernel
theorem dX4_growOlder_72 : decode cX4_growOlder 72 = .ok (.iconst 1, 1) := by decide +kernel
theorem dX4_growOlder_73 : decode cX4_growOlder 73 = .ok (.iload_n 3, 1) := by decide +kernel
theorem dX4_growOlder_74 : decode cX4_growOlder 74 = .ok (.ishl, 1) := by decide +kernel
theorem dX4_growOlder_75 : decode cX4_growOlder 75 = .ok (.iconst (-1), 1) := by decide +kernel
theorem dX4_growOlder_76 : decode cX4_growOlder 76 = .ok (.ixor, 1) := by decide +kernel
theorem dX4_growOlder_77 : decode cX4_growOlder 77 = .ok (.iand, 1) := by decide +kernel
theorem dX4_growOlder_78 : decode cX4_growOlder 78 = .ok (.putfield 55, 3) := by decide +kernel
theorem dX4_growOlder_81 : decode cX4_growOlder 81 = .ok (.iinc 2 1, 3) := by decide +kernel
theorem dX4_growOlder_84 : decode cX4_growOlder 84 = .ok (.iinc 3 1, 3) := by decide +kernel
theorem dX4_growOlder_87 : decode cX4_growOlder 87 = .ok (.goto (-67), 3) := by decide +kernel
theorem dX4_growOlder_90 : decode cX4_growOlder 90 = .ok (.iload_n 2, 1) := by decide +kernel
theorem dX4_growOlder_91 : decode cX4_growOlder 91 = .ok (.ireturn, 1) := by decide +kernel
theorem dX4_weightThere_0 : decode cX4_weightThere 0 = .ok (.iconst 0, 1) := by decide +kernel
theorem dX4_weightThere_1 : decode cX4_weightThere 1 = .ok (.istore_n 1, 1) := by decide +kernel
theorem dX4_weightThere_2 : decode cX4_weightThere 2 = .ok (.iconst 0, 1) := by decide +kernel
theorem dX4_weightThere_3 : decode cX4_weightThere 3 = .ok (.istore_n 2, 1) := by decide +kernel
theorem dX4_weightThere_4 : decode cX4_weightThere 4 = .ok (.iload_n 2, 1) := by decide +kernel
theorem dX4_weightThere_5 : decode cX4_weightThere 5 = .ok (.aload_n 0, 1) := by decide +kernel
theorem dX4_weightThere_6 : decode cX4_weightThere 6 = .ok (.getfield 46, 3) := by decide +kernel
theorem dX4_weightThere_9 : decode cX4_weightThere 9 = .ok (.if_icmp .ge 30, 3) := by decide +kernel
theorem dX4_weightThere_12 : decode cX4_weightThere 12 = .ok (.iload_n 1, 1) := by decide +kernel
theorem dX4_weightThere_13 : decode cX4_weightThere 13 = .ok (.aload_n 0, 1) := by decide +kernel
theorem dX4_weightThere_14 : decode cX4_weightThere 14 = .ok (.iload_n 2, 1) := by decide +kernel
theorem dX4_weightThere_15 : decode cX4_weightThere 15 = .ok (.invokevirtual 64, 3) := by decide +kernel
theorem dX4_weightThere_18 : decode cX4_weightThere 18 = .ok (.ifCond .eq 12, 3) := by decide +kernel
theorem dX4_weightThere_21 : decode cX4_weightThere 21 = .ok (.aload_n 0, 1) := by decide +kernel
theorem dX4_weightThere_22 : decode cX4_weightThere 22 = .ok (.getfield 21, 3) := by decide +kernel
theorem dX4_weightThere_25 : decode cX4_weightThere 25 = .ok (.iload_n 2, 1) := by decide +kernel
theorem dX4_weightThere_26 : decode cX4_weightThere 26 = .ok (.iaload, 1) := by decide +kernel
theorem dX4_weightThere_27 : decode cX4_weightThere 27 = .ok (.goto 4, 3) := by decide +kernel
theorem dX4_weightThere_30 : decode cX4_weightThere 30 = .ok (.iconst 0, 1) := by decide +kernel
theorem dX4_weightThere_31 : decode cX4_weightThere 31 = .ok (.iadd, 1) := by decide +kernel
theorem dX4_weightThere_32 : decode cX4_weightThere 32 = .ok (.istore_n 1, 1) := by decide +kernel
theorem dX4_weightThere_33 : decode cX4_weightThere 33 = .ok (.iinc 2 1, 3) := by decide +kernel
theorem dX4_weightThere_36 : decode cX4_weightThere 36 = .ok (.goto (-32), 3) := by decide +kernel
theorem dX4_weightThere_39 : decode cX4_weightThere 39 = .ok (.iload_n 1, 1) := by decide +kernel
theorem dX4_weightThere_40 : decode cX4_weightThere 40 = .ok (.ireturn, 1) := by decide +kernel
theorem dX4_monthCost_0 : decode cX4_monthCost 0 = .ok (.aload_n 0, 1) := by decide +kernel
theorem dX4_monthCost_1 : decode cX4_monthCost 1 = .ok (.getfield 36, 3) := by decide +kernel
theorem dX4_monthCost_4 : decode cX4_monthCost 4 = .ok (.iload_n 1, 1) := by decide +kernel
theorem dX4_monthCost_5 : decode cX4_monthCost 5 = .ok (.bipush 12, 2) := by decide +kernel
theorem dX4_monthCost_7 : decode cX4_monthCost 7 = .ok (.imul, 1) := by decide +kernel
theorem dX4_monthCost_8 : decode cX4_monthCost 8 = .ok (.iload_n 2, 1) := by decide +kernel
theorem dX4_monthCost_9 : decode cX4_monthCost 9 = .ok (.iadd, 1) := by decide +kernel
theorem dX4_monthCost_10 : decode cX4_monthCost 10 = .ok (.iaload, 1) := by decide +kernel
theorem dX4_monthCost_11 : decode cX4_monthCost 11 = .ok (.istore 4, 2) := by decide +kernel
theorem dX4_monthCost_13 : decode cX4_monthCost 13 = .ok (.iload_n 3, 1) := by decide +kernel
theorem dX4_monthCost_14 : decode cX4_monthCost 14 = .ok (.iconst 1, 1) := by decide +kernel
theorem dX4_monthCost_15 : decode cX4_monthCost 15 = .ok (.if_icmp .ne 12, 3) := by decide +kernel
theorem dX4_monthCost_18 : decode cX4_monthCost 18 = .ok (.iload 4, 2) := by decide +kernel
theorem dX4_monthCost_20 : decode cX4_monthCost 20 = .ok (.iconst 2, 1) := by decide +kernel
theorem dX4_monthCost_21 : decode cX4_monthCost 21 = .ok (.idiv, 1) := by decide +kernel
theorem dX4_monthCost_22 : decode cX4_monthCost 22 = .ok (.istore 4, 2) := by decide +kernel
theorem dX4_monthCost_24 : decode cX4_monthCost 24 = .ok (.goto 11, 3) := by decide +kernel
theorem dX4_monthCost_27 : decode cX4_monthCost 27 = .ok (.iload_n 3, 1) := by decide +kernel
theorem dX4_monthCost_28 : decode cX4_monthCost 28 = .ok (.iconst 1, 1) := by decide +kernel
theorem dX4_monthCost_29 : decode cX4_monthCost 29 = .ok (.if_icmp .le 6, 3) := by decide +kernel
theorem dX4_monthCost_32 : decode cX4_monthCost 32 = .ok (.iconst 0, 1) := by decide +kernel
theorem dX4_monthCost_33 : decode cX4_monthCost 33 = .ok (.istore 4, 2) := by decide +kernel
theorem dX4_monthCost_35 : decode cX4_monthCost 35 = .ok (.iconst 0, 1) := by decide +kernel
theorem dX4_monthCost_36 : decode cX4_monthCost 36 = .ok (.aload_n 0, 1) := by decide +kernel
theorem dX4_monthCost_37 : decode cX4_monthCost 37 = .ok (.getfield 39, 3) := by decide +kernel
theorem dX4_monthCost_40 : decode cX4_monthCost 40 = .ok (.iconst 0, 1) := by decide +kernel
theorem dX4_monthCost_41 : decode cX4_monthCost 41 = .ok (.iaload, 1) := by decide +kernel
theorem dX4_monthCost_42 : decode cX4_monthCost 42 = .ok (.iload 4, 2) := by decide +kernel
theorem dX4_monthCost_44 : decode cX4_monthCost 44 = .ok (.isub, 1) := by decide +kernel
theorem dX4_monthCost_45 : decode cX4_monthCost 45 = .ok (.invokestatic 68, 3) := by decide +kernel
theorem dX4_monthCost_48 : decode cX4_monthCost 48 = .ok (.ireturn, 1) := by decide +kernel
theorem dX4_moveCost_0 : decode cX4_moveCost 0 = .ok (.aload_n 0, 1) := by decide +kernel
theorem dX4_moveCost_1 : decode cX4_moveCost 1 = .ok (.getfield 39, 3) := by decide +kernel
theorem dX4_moveCost_4 : decode cX4_moveCost 4 = .ok (.iconst 1, 1) := by decide +kernel
theorem dX4_moveCost_5 : decode cX4_moveCost 5 = .ok (.iaload, 1) := by decide +kernel
theorem dX4_moveCost_6 : decode cX4_moveCost 6 = .ok (.aload_n 0, 1) := by decide +kernel
theorem dX4_moveCost_7 : decode cX4_moveCost 7 = .ok (.getfield 33, 3) := by decide +kernel
theorem dX4_moveCost_10 : decode cX4_moveCost 10 = .ok (.iload_n 1, 1) := by decide +kernel
theorem dX4_moveCost_11 : decode cX4_moveCost 11 = .ok (.iaload, 1) := by decide +kernel
theorem dX4_moveCost_12 : decode cX4_moveCost 12 = .ok (.aload_n 0, 1) := by decide +kernel
theorem dX4_moveCost_13 : decode cX4_moveCost 13 = .ok (.getfield 33, 3) := by decide +kernel
theorem dX4_moveCost_16 : decode cX4_moveCost 16 = .ok (.iload_n 2, 1) := by decide +kernel
theorem dX4_moveCost_17 : decode cX4_moveCost 17 = .ok (.iaload, 1) := by decide +kernel
theorem dX4_moveCost_18 : decode cX4_moveCost 18 = .ok (.isub, 1) := by decide +kernel
theorem dX4_moveCost_19 : decode cX4_moveCost 19 = .ok (.invokestatic 74, 3) := by decide +kernel
theorem dX4_moveCost_22 : decode cX4_moveCost 22 = .ok (.imul, 1) := by decide +kernel
theorem dX4_moveCost_23 : decode cX4_moveCost 23 = .ok (.aload_n 0, 1) := by decide +kernel
theorem dX4_moveCost_24 : decode cX4_moveCost 24 = .ok (.getfield 39, 3) := by decide +kernel
theorem dX4_moveCost_27 : decode cX4_moveCost 27 = .ok (.iconst 2, 1) := by decide +kernel
theorem dX4_moveCost_28 : decode cX4_moveCost 28 = .ok (.iaload, 1) := by decide +kernel
theorem dX4_moveCost_29 : decode cX4_moveCost 29 = .ok (.iadd, 1) := by decide +kernel
theorem dX4_moveCost_30 : decode cX4_moveCost 30 = .ok (.ireturn, 1) := by decide +kernel
theorem dX4_costOfRow_0 : decode cX4_costOfRow 0 = .ok (.iconst 0, 1) := by decide +kernel
theorem dX4_costOfRow_1 : decode cX4_costOfRow 1 = .ok (.istore_n 3, 1) := by decide +kernel
theorem dX4_costOfRow_2 : decode cX4_costOfRow 2 = .ok (.iconst 0, 1) := by decide +kernel
theorem dX4_costOfRow_3 : decode cX4_costOfRow 3 = .ok (.istore 4, 2) := by decide +kernel
theorem dX4_costOfRow_5 : decode cX4_costOfRow 5 = .ok (.iconst (-1), 1) := by decide +kernel
theorem dX4_costOfRow_6 : decode cX4_costOfRow 6 = .ok (.istore 5, 2) := by decide +kernel
theorem dX4_costOfRow_8 : decode cX4_costOfRow 8 = .ok (.iconst 0, 1) := by decide +kernel
theorem dX4_costOfRow_9 : decode cX4_costOfRow 9 = .ok (.istore 6, 2) := by decide +kernel
theorem dX4_costOfRow_11 : decode cX4_costOfRow 11 = .ok (.iload 6, 2) := by decide +kernel
theorem dX4_costOfRow_13 : decode cX4_costOfRow 13 = .ok (.aload_n 1, 1) := by decide +kernel
theorem dX4_costOfRow_14 : decode cX4_costOfRow 14 = .ok (.getfield 78, 3) := by decide +kernel
theorem dX4_costOfRow_17 : decode cX4_costOfRow 17 = .ok (.if_icmp .ge 85, 3) := by decide +kernel
theorem dX4_costOfRow_20 : decode cX4_costOfRow 20 = .ok (.aload_n 1, 1) := by decide +kernel
theorem dX4_costOfRow_21 : decode cX4_costOfRow 21 = .ok (.getfield 83, 3) := by decide +kernel
theorem dX4_costOfRow_24 : decode cX4_costOfRow 24 = .ok (.iload 6, 2) := by decide +kernel
theorem dX4_costOfRow_26 : decode cX4_costOfRow 26 = .ok (.laload, 1) := by decide +kernel
theorem dX4_costOfRow_27 : decode cX4_costOfRow 27 = .ok (.l2i, 1) := by decide +kernel
theorem dX4_costOfRow_28 : decode cX4_costOfRow 28 = .ok (.istore 7, 2) := by decide +kernel
theorem dX4_costOfRow_30 : decode cX4_costOfRow 30 = .ok (.iload 7, 2) := by decide +kernel
theorem dX4_costOfRow_32 : decode cX4_costOfRow 32 = .ok (.iload 5, 2) := by decide +kernel
theorem dX4_costOfRow_34 : decode cX4_costOfRow 34 = .ok (.if_icmp .ne 16, 3) := by decide +kernel
theorem dX4_costOfRow_37 : decode cX4_costOfRow 37 = .ok (.iload 4, 2) := by decide +kernel
theorem dX4_costOfRow_39 : decode cX4_costOfRow 39 = .ok (.iconst 1, 1) := by decide +kernel
theorem dX4_costOfRow_40 : decode cX4_costOfRow 40 = .ok (.iadd, 1) := by decide +kernel
theorem dX4_costOfRow_41 : decode cX4_costOfRow 41 = .ok (.iconst 2, 1) := by decide +kernel
theorem dX4_costOfRow_42 : decode cX4_costOfRow 42 = .ok (.invokestatic 87, 3) := by decide +kernel
theorem dX4_costOfRow_45 : decode cX4_costOfRow 45 = .ok (.istore 4, 2) := by decide +kernel
theorem dX4_costOfRow_47 : decode cX4_costOfRow 47 = .ok (.goto 27, 3) := by decide +kernel
theorem dX4_costOfRow_50 : decode cX4_costOfRow 50 = .ok (.iconst 0, 1) := by decide +kernel
theorem dX4_costOfRow_51 : decode cX4_costOfRow 51 = .ok (.istore 4, 2) := by decide +kernel
theorem dX4_costOfRow_53 : decode cX4_costOfRow 53 = .ok (.iload_n 3, 1) := by decide +kernel
theorem dX4_costOfRow_54 : decode cX4_costOfRow 54 = .ok (.iload 5, 2) := by decide +kernel
theorem dX4_costOfRow_56 : decode cX4_costOfRow 56 = .ok (.iconst (-1), 1) := by decide +kernel
theorem dX4_costOfRow_57 : decode cX4_costOfRow 57 = .ok (.if_icmp .ne 7, 3) := by decide +kernel
theorem dX4_costOfRow_60 : decode cX4_costOfRow 60 = .ok (.iconst 0, 1) := by decide +kernel
theorem dX4_costOfRow_61 : decode cX4_costOfRow 61 = .ok (.goto 11, 3) := by decide +kernel
theorem dX4_costOfRow_64 : decode cX4_costOfRow 64 = .ok (.aload_n 0, 1) := by decide +kernel
theorem dX4_costOfRow_65 : decode cX4_costOfRow 65 = .ok (.iload 5, 2) := by decide +kernel
theorem dX4_costOfRow_67 : decode cX4_costOfRow 67 = .ok (.iload 7, 2) := by decide +kernel
theorem dX4_costOfRow_69 : decode cX4_costOfRow 69 = .ok (.invokevirtual 90, 3) := by decide +kernel
theorem dX4_costOfRow_72 : decode cX4_costOfRow 72 = .ok (.iadd, 1) := by decide +kernel
theorem dX4_costOfRow_73 : decode cX4_costOfRow 73 = .ok (.istore_n 3, 1) := by decide +kernel
theorem dX4_costOfRow_74 : decode cX4_costOfRow 74 = .ok (.iload_n 3, 1) := by decide +kernel
theorem dX4_costOfRow_75 : decode cX4_costOfRow 75 = .ok (.aload_n 0, 1) := by decide +kernel
theorem dX4_costOfRow_76 : decode cX4_costOfRow 76 = .ok (.iload 7, 2) := by decide +kernel
theorem dX4_costOfRow_78 : decode cX4_costOfRow 78 = .ok (.iload_n 2, 1) := by decide +kernel
theorem dX4_costOfRow_79 : decode cX4_costOfRow 79 = .ok (.iload 6, 2) := by decide +kernel
theorem dX4_costOfRow_81 : decode cX4_costOfRow 81 = .ok (.iadd, 1) := by decide +kernel
theorem dX4_costOfRow_82 : decode cX4_costOfRow 82 = .ok (.bipush 12, 2) := by decide +kernel
theorem dX4_costOfRow_84 : decode cX4_costOfRow 84 = .ok (.irem, 1) := by decide +kernel
theorem dX4_costOfRow_85 : decode cX4_costOfRow 85 = .ok (.iload 4, 2) := by decide +kernel
theorem dX4_costOfRow_87 : decode cX4_costOfRow 87 = .ok (.invokevirtual 93, 3) := by decide +kernel
theorem dX4_costOfRow_90 : decode cX4_costOfRow 90 = .ok (.iadd, 1) := by decide +kernel
theorem dX4_costOfRow_91 : decode cX4_costOfRow 91 = .ok (.istore_n 3, 1) := by decide +kernel
theorem dX4_costOfRow_92 : decode cX4_costOfRow 92 = .ok (.iload 7, 2) := by decide +kernel
theorem dX4_costOfRow_94 : decode cX4_costOfRow 94 = .ok (.istore 5, 2) := by decide +kernel
theorem dX4_costOfRow_96 : decode cX4_costOfRow 96 = .ok (.iinc 6 1, 3) := by decide +kernel
theorem dX4_costOfRow_99 : decode cX4_costOfRow 99 = .ok (.goto (-88), 3) := by decide +kernel
theorem dX4_costOfRow_102 : decode cX4_costOfRow 102 = .ok (.iload_n 3, 1) := by decide +kernel
theorem dX4_costOfRow_103 : decode cX4_costOfRow 103 = .ok (.ireturn, 1) := by decide +kernel
theorem dX5_init_0 : decode cX5_init 0 = .ok (.aload_n 0, 1) := by decide +kernel
theorem dX5_init_1 : decode cX5_init 1 = .ok (.invokespecial 3, 3) := by decide +kernel
theorem dX5_init_4 : decode cX5_init 4 = .ok (.aload_n 0, 1) := by decide +kernel
theorem dX5_init_5 : decode cX5_init 5 = .ok (.bipush 120, 2) := by decide +kernel
theorem dX5_init_7 : decode cX5_init 7 = .ok (.newarray .int, 2) := by decide +kernel
theorem dX5_init_9 : decode cX5_init 9 = .ok (.putfield 9, 3) := by decide +kernel
theorem dX5_init_12 : decode cX5_init 12 = .ok (.return_, 1) := by decide +kernel
theorem dX5_add_0 : decode cX5_add 0 = .ok (.aload_n 0, 1) := by decide +kernel
theorem dX5_add_1 : decode cX5_add 1 = .ok (.getfield 15, 3) := by decide +kernel
theorem dX5_add_4 : decode cX5_add 4 = .ok (.bipush 120, 2) := by decide +kernel
theorem dX5_add_6 : decode cX5_add 6 = .ok (.if_icmp .ge 23, 3) := by decide +kernel
theorem dX5_add_9 : decode cX5_add 9 = .ok (.aload_n 0, 1) := by decide +kernel
theorem dX5_add_10 : decode cX5_add 10 = .ok (.getfield 9, 3) := by decide +kernel
theorem dX5_add_13 : decode cX5_add 13 = .ok (.aload_n 0, 1) := by decide +kernel
theorem dX5_add_14 : decode cX5_add 14 = .ok (.getfield 15, 3) := by decide +kernel
theorem dX5_add_17 : decode cX5_add 17 = .ok (.iload_n 1, 1) := by decide +kernel
theorem dX5_add_18 : decode cX5_add 18 = .ok (.iastore, 1) := by decide +kernel
theorem dX5_add_19 : decode cX5_add 19 = .ok (.aload_n 0, 1) := by decide +kernel
theorem dX5_add_20 : decode cX5_add 20 = .ok (.dup, 1) := by decide +kernel
theorem dX5_add_21 : decode cX5_add 21 = .ok (.getfield 15, 3) := by decide +kernel
theorem dX5_add_24 : decode cX5_add 24 = .ok (.iconst 1, 1) := by decide +kernel
theorem dX5_add_25 : decode cX5_add 25 = .ok (.iadd, 1) := by decide +kernel
theorem dX5_add_26 : decode cX5_add 26 = .ok (.putfield 15, 3) := by decide +kernel
theorem dX5_add_29 : decode cX5_add 29 = .ok (.return_, 1) := by decide +kernel
theorem dX5_tellTo_0 : decode cX5_tellTo 0 = .ok (.aload_n 0, 1) := by decide +kernel
theorem dX5_tellTo_1 : decode cX5_tellTo 1 = .ok (.iconst 0, 1) := by decide +kernel
theorem dX5_tellTo_2 : decode cX5_tellTo 2 = .ok (.putfield 19, 3) := by decide +kernel
theorem dX5_tellTo_5 : decode cX5_tellTo 5 = .ok (.aload_n 0, 1) := by decide +kernel
theorem dX5_tellTo_6 : decode cX5_tellTo 6 = .ok (.invokevirtual 22, 3) := by decide +kernel
theorem dX5_tellTo_9 : decode cX5_tellTo 9 = .ok (.iconst 1, 1) := by decide +kernel
theorem dX5_tellTo_10 : decode cX5_tellTo 10 = .ok (.istore_n 2, 1) := by decide +kernel
theorem dX5_tellTo_11 : decode cX5_tellTo 11 = .ok (.iload_n 2, 1) := by decide +kernel
theorem dX5_tellTo_12 : decode cX5_tellTo 12 = .ok (.bipush 120, 2) := by decide +kernel
theorem dX5_tellTo_14 : decode cX5_tellTo 14 = .ok (.if_icmp .gt 52, 3) := by decide +kernel
theorem dX5_tellTo_17 : decode cX5_tellTo 17 = .ok (.aload_n 0, 1) := by decide +kernel
theorem dX5_tellTo_18 : decode cX5_tellTo 18 = .ok (.aload_n 1, 1) := by decide +kernel
theorem dX5_tellTo_19 : decode cX5_tellTo 19 = .ok (.invokevirtual 25, 3) := by decide +kernel
theorem dX5_tellTo_22 : decode cX5_tellTo 22 = .ok (.ifCond .ne 10, 3) := by decide +kernel
theorem dX5_tellTo_25 : decode cX5_tellTo 25 = .ok (.iconst (-1), 1) := by decide +kernel
theorem dX5_tellTo_26 : decode cX5_tellTo 26 = .ok (.aload_n 0, 1) := by decide +kernel
theorem dX5_tellTo_27 : decode cX5_tellTo 27 = .ok (.getfield 29, 3) := by decide +kernel
theorem dX5_tellTo_30 : decode cX5_tellTo 30 = .ok (.isub, 1) := by decide +kernel
theorem dX5_tellTo_31 : decode cX5_tellTo 31 = .ok (.ireturn, 1) := by decide +kernel
theorem dX5_tellTo_32 : decode cX5_tellTo 32 = .ok (.aload_n 0, 1) := by decide +kernel
theorem dX5_tellTo_33 : decode cX5_tellTo 33 = .ok (.getfield 32, 3) := by decide +kernel
theorem dX5_tellTo_36 : decode cX5_tellTo 36 = .ok (.ifCond .ne 5, 3) := by decide +kernel
theorem dX5_tellTo_39 : decode cX5_tellTo 39 = .ok (.iload_n 2, 1) := by decide +kernel
theorem dX5_tellTo_40 : decode cX5_tellTo 40 = .ok (.ireturn, 1) := by decide +kernel
theorem dX5_tellTo_41 : decode cX5_tellTo 41 = .ok (.aload_n 0, 1) := by decide +kernel
theorem dX5_tellTo_42 : decode cX5_tellTo 42 = .ok (.getfield 32, 3) := by decide +kernel
theorem dX5_tellTo_45 : decode cX5_tellTo 45 = .ok (.iconst 3, 1) := by decide +kernel
theorem dX5_tellTo_46 : decode cX5_tellTo 46 = .ok (.if_icmp .eq 10, 3) := by decide +kernel
theorem dX5_tellTo_49 : decode cX5_tellTo 49 = .ok (.iconst (-1), 1) := by decide +kernel
theorem dX5_tellTo_50 : decode cX5_tellTo 50 = .ok (.aload_n 0, 1) := by decide +kernel
theorem dX5_tellTo_51 : decode cX5_tellTo 51 = .ok (.getfield 29, 3) := by decide +kernel
theorem dX5_tellTo_54 : decode cX5_tellTo 54 = .ok (.isub, 1) := by decide +kernel
theorem dX5_tellTo_55 : decode cX5_tellTo 55 = .ok (.ireturn, 1) := by decide +kernel
theorem dX5_tellTo_56 : decode cX5_tellTo 56 = .ok (.aload_n 0, 1) := by decide +kernel
theorem dX5_tellTo_57 : decode cX5_tellTo 57 = .ok (.invokevirtual 22, 3) := by decide +kernel
theorem dX5_tellTo_60 : decode cX5_tellTo 60 = .ok (.iinc 2 1, 3) := by decide +kernel
theorem dX5_tellTo_63 : decode cX5_tellTo 63 = .ok (.goto (-52), 3) := by decide +kernel
theorem dX5_tellTo_66 : decode cX5_tellTo 66 = .ok (.iconst (-1), 1) := by decide +kernel
theorem dX5_tellTo_67 : decode cX5_tellTo 67 = .ok (.aload_n 0, 1) := by decide +kernel
theorem dX5_tellTo_68 : decode cX5_tellTo 68 = .ok (.getfield 29, 3) := by decide +kernel
theorem dX5_tellTo_71 : decode cX5_tellTo 71 = .ok (.isub, 1) := by decide +kernel
theorem dX5_tellTo_72 : decode cX5_tellTo 72 = .ok (.ireturn, 1) := by decide +kernel
theorem dX5_takeItem_0 : decode cX5_takeItem 0 = .ok (.aload_n 0, 1) := by decide +kernel
theorem dX5_takeItem_1 : decode cX5_takeItem 1 = .ok (.getfield 32, 3) := by decide +kernel
theorem dX5_takeItem_4 : decode cX5_takeItem 4 = .ok (.iconst 1, 1) := by decide +kernel
theorem dX5_takeItem_5 : decode cX5_takeItem 5 = .ok (.if_icmp .eq 5, 3) := by decide +kernel
theorem dX5_takeItem_8 : decode cX5_takeItem 8 = .ok (.iconst 0, 1) := by decide +kernel
theorem dX5_takeItem_9 : decode cX5_takeItem 9 = .ok (.ireturn, 1) := by decide +kernel
theorem dX5_takeItem_10 : decode cX5_takeItem 10 = .ok (.iconst 0, 1) := by decide +kernel
theorem dX5_takeItem_11 : decode cX5_takeItem 11 = .ok (.istore_n 2, 1) := by decide +kernel
theorem dX5_takeItem_12 : decode cX5_takeItem 12 = .ok (.iload_n 2, 1) := by decide +kernel
theorem dX5_takeItem_13 : decode cX5_takeItem 13 = .ok (.bipush 7, 2) := by decide +kernel
theorem dX5_takeItem_15 : decode cX5_takeItem 15 = .ok (.if_icmp .ge 27, 3) := by decide +kernel
theorem dX5_takeItem_18 : decode cX5_takeItem 18 = .ok (.aload_n 0, 1) := by decide +kernel
theorem dX5_takeItem_19 : decode cX5_takeItem 19 = .ok (.iload_n 2, 1) := by decide +kernel
theorem dX5_takeItem_20 : decode cX5_takeItem 20 = .ok (.invokestatic 35, 3) := by decide +kernel
theorem dX5_takeItem_23 : decode cX5_takeItem 23 = .ok (.invokevirtual 39, 3) := by decide +kernel
theorem dX5_takeItem_26 : decode cX5_takeItem 26 = .ok (.ifCond .eq 10, 3) := by decide +kernel
theorem dX5_takeItem_29 : decode cX5_takeItem 29 = .ok (.aload_n 0, 1) := by decide +kernel
theorem dX5_takeItem_30 : decode cX5_takeItem 30 = .ok (.aload_n 1, 1) := by decide +kernel
theorem dX5_takeItem_31 : decode cX5_takeItem 31 = .ok (.iload_n 2, 1) := by decide +kernel
theorem dX5_takeItem_32 : decode cX5_takeItem 32 = .ok (.invokevirtual 43, 3) := by decide +kernel
theorem dX5_takeItem_35 : decode cX5_takeItem 35 = .ok (.ireturn, 1) := by decide +kernel
theorem dX5_takeItem_36 : decode cX5_takeItem 36 = .ok (.iinc 2 1, 3) := by decide +kernel
theorem dX5_takeItem_39 : decode cX5_takeItem 39 = .ok (.goto (-27), 3) := by decide +kernel
theorem dX5_takeItem_42 : decode cX5_takeItem 42 = .ok (.aload_n 0, 1) := by decide +kernel
theorem dX5_takeItem_43 : decode cX5_takeItem 43 = .ok (.ldc 47, 2) := by decide +kernel
theorem dX5_takeItem_45 : decode cX5_takeItem 45 = .ok (.invokevirtual 39, 3) := by decide +kernel
theorem dX5_takeItem_48 : decode cX5_takeItem 48 = .ok (.ifCond .eq 9, 3) := by decide +kernel
theorem dX5_takeItem_51 : decode cX5_takeItem 51 = .ok (.aload_n 0, 1) := by decide +kernel
theorem dX5_takeItem_52 : decode cX5_takeItem 52 = .ok (.aload_n 1, 1) := by decide +kernel
theorem dX5_takeItem_53 : decode cX5_takeItem 53 = .ok (.invokevirtual 49, 3) := by decide +kernel
theorem dX5_takeItem_56 : decode cX5_takeItem 56 = .ok (.ireturn, 1) := by decide +kernel
theorem dX5_takeItem_57 : decode cX5_takeItem 57 = .ok (.aload_n 0, 1) := by decide +kernel
theorem dX5_takeItem_58 : decode cX5_takeItem 58 = .ok (.ldc 52, 2) := by decide +kernel
theorem dX5_takeItem_60 : decode cX5_takeItem 60 = .ok (.invokevirtual 39, 3) := by decide +kernel
theorem dX5_takeItem_63 : decode cX5_takeItem 63 = .ok (.ifCond .eq 9, 3) := by decide +kernel
theorem dX5_takeItem_66 : decode cX5_takeItem 66 = .ok (.aload_n 0, 1) := by decide +kernel
theorem dX5_takeItem_67 : decode cX5_takeItem 67 = .ok (.aload_n 1, 1) := by decide +kernel
theorem dX5_takeItem_68 : decode cX5_takeItem 68 = .ok (.invokevirtual 54, 3) := by decide +kernel
theorem dX5_takeItem_71 : decode cX5_takeItem 71 = .ok (.ireturn, 1) := by decide +kernel
theorem dX5_takeItem_72 : decode cX5_takeItem 72 = .ok (.aload_n 0, 1) := by decide +kernel
theorem dX5_takeItem_73 : decode cX5_takeItem 73 = .ok (.ldc 57, 2) := by decide +kernel
theorem dX5_takeItem_75 : decode cX5_takeItem 75 = .ok (.invokevirtual 39, 3) := by decide +kernel
theorem dX5_takeItem_78 : decode cX5_takeItem 78 = .ok (.ifCond .eq 15, 3) := by decide +kernel
theorem dX5_takeItem_81 : decode cX5_takeItem 81 = .ok (.aload_n 0, 1) := by decide +kernel
theorem dX5_takeItem_82 : decode cX5_takeItem 82 = .ok (.aload_n 1, 1) := by decide +kernel
theorem dX5_takeItem_83 : decode cX5_takeItem 83 = .ok (.invokevirtual 59, 3) := by decide +kernel
theorem dX5_takeItem_86 : decode cX5_takeItem 86 = .ok (.ifCond .eq 7, 3) := by decide +kernel
theorem dX5_takeItem_89 : decode cX5_takeItem 89 = .ok (.iconst 1, 1) := by decide +kernel
theorem dX5_takeItem_90 : decode cX5_takeItem 90 = .ok (.goto 4, 3) := by decide +kernel
theorem dX5_takeItem_93 : decode cX5_takeItem 93 = .ok (.iconst 0, 1) := by decide +kernel
theorem dX5_takeItem_94 : decode cX5_takeItem 94 = .ok (.ireturn, 1) := by decide +kernel
theorem dX5_takePart_0 : decode cX5_takePart 0 = .ok (.aload_n 1, 1) := by decide +kernel
theorem dX5_takePart_1 : decode cX5_takePart 1 = .ok (.getfield 62, 3) := by decide +kernel
theorem dX5_takePart_4 : decode cX5_takePart 4 = .ok (.bipush 20, 2) := by decide +kernel
theorem dX5_takePart_6 : decode cX5_takePart 6 = .ok (.if_icmp .lt 5, 3) := by decide +kernel
theorem dX5_takePart_9 : decode cX5_takePart 9 = .ok (.iconst 0, 1) := by decide +kernel
theorem dX5_takePart_10 : decode cX5_takePart 10 = .ok (.ireturn, 1) := by decide +kernel
theorem dX5_takePart_11 : decode cX5_takePart 11 = .ok (.aload_n 0, 1) := by decide +kernel
theorem dX5_takePart_12 : decode cX5_takePart 12 = .ok (.invokevirtual 22, 3) := by decide +kernel
theorem dX5_takePart_15 : decode cX5_takePart 15 = .ok (.aload_n 0, 1) := by decide +kernel
theorem dX5_takePart_16 : decode cX5_takePart 16 = .ok (.iconst 0, 1) := by decide +kernel
theorem dX5_takePart_17 : decode cX5_takePart 17 = .ok (.bipush 7, 2) := by decide +kernel
theorem dX5_takePart_19 : decode cX5_takePart 19 = .ok (.invokevirtual 67, 3) := by decide +kernel
theorem dX5_takePart_22 : decode cX5_takePart 22 = .ok (.ifCond .ne 5, 3) := by decide +kernel
theorem dX5_takePart_25 : decode cX5_takePart 25 = .ok (.iconst 0, 1) := by decide +kernel
theorem dX5_takePart_26 : decode cX5_takePart 26 = .ok (.ireturn, 1) := by decide +kernel
theorem dX5_takePart_27 : decode cX5_takePart 27 = .ok (.aload_n 0, 1) := by decide +kernel
theorem dX5_takePart_28 : decode cX5_takePart 28 = .ok (.getfield 71, 3) := by decide +kernel
theorem dX5_takePart_31 : decode cX5_takePart 31 = .ok (.istore_n 3, 1) := by decide +kernel
theorem dX5_takePart_32 : decode cX5_takePart 32 = .ok (.aload_n 0, 1) := by decide +kernel
theorem dX5_takePart_33 : decode cX5_takePart 33 = .ok (.invokevirtual 22, 3) := by decide +kernel
theorem dX5_takePart_36 : decode cX5_takePart 36 = .ok (.aload_n 0, 1) := by decide +kernel
theorem dX5_takePart_37 : decode cX5_takePart 37 = .ok (.iconst 1, 1) := by decide +kernel
theorem dX5_takePart_38 : decode cX5_takePart 38 = .ok (.sipush 999, 3) := by decide +kernel
theorem dX5_takePart_41 : decode cX5_takePart 41 = .ok (.invokevirtual 67, 3) := by decide +kernel
theorem dX5_takePart_44 : decode cX5_takePart 44 = .ok (.ifCond .ne 5, 3) := by decide +kernel
theorem dX5_takePart_47 : decode cX5_takePart 47 = .ok (.iconst 0, 1) := by decide +kernel
theorem dX5_takePart_48 : decode cX5_takePart 48 = .ok (.ireturn, 1) := by decide +kernel
theorem dX5_takePart_49 : decode cX5_takePart 49 = .ok (.aload_n 1, 1) := by decide +kernel
theorem dX5_takePart_50 : decode cX5_takePart 50 = .ok (.iload_n 2, 1) := by decide +kernel
theorem dX5_takePart_51 : decode cX5_takePart 51 = .ok (.iload_n 3, 1) := by decide +kernel
theorem dX5_takePart_52 : decode cX5_takePart 52 = .ok (.aload_n 0, 1) := by decide +kernel
theorem dX5_takePart_53 : decode cX5_takePart 53 = .ok (.getfield 71, 3) := by decide +kernel
theorem dX5_takePart_56 : decode cX5_takePart 56 = .ok (.iconst 0, 1) := by decide +kernel
theorem dX5_takePart_57 : decode cX5_takePart 57 = .ok (.invokevirtual 74, 3) := by decide +kernel
theorem dX5_takePart_60 : decode cX5_takePart 60 = .ok (.istore 4, 2) := by decide +kernel
theorem dX5_takePart_62 : decode cX5_takePart 62 = .ok (.aload_n 0, 1) := by decide +kernel
theorem dX5_takePart_63 : decode cX5_takePart 63 = .ok (.invokevirtual 22, 3) := by decide +kernel
theorem dX5_takePart_66 : decode cX5_takePart 66 = .ok (.aload_n 0, 1) := by decide +kernel
theorem dX5_takePart_67 : decode cX5_takePart 67 = .ok (.ldc 78, 2) := by decide +kernel
theorem dX5_takePart_69 : decode cX5_takePart 69 = .ok (.aload_n 1, 1) := by decide +kernel
theorem dX5_takePart_70 : decode cX5_takePart 70 = .ok (.getfield 80, 3) := by decide +kernel
theorem dX5_takePart_73 : decode cX5_takePart 73 = .ok (.iload 4, 2) := by decide +kernel
theorem dX5_takePart_75 : decode cX5_takePart 75 = .ok (.bipush 99, 2) := by decide +kernel
theorem dX5_takePart_77 : decode cX5_takePart 77 = .ok (.invokevirtual 83, 3) := by decide +kernel
theorem dX5_takePart_80 : decode cX5_takePart 80 = .ok (.ifCond .eq 24, 3) := by decide +kernel
theorem dX5_takePart_83 : decode cX5_takePart 83 = .ok (.aload_n 0, 1) := by decide +kernel
theorem dX5_takePart_84 : decode cX5_takePart 84 = .ok (.ldc 87, 2) := by decide +kernel
theorem dX5_takePart_86 : decode cX5_takePart 86 = .ok (.aload_n 1, 1) := by decide +kernel
theorem dX5_takePart_87 : decode cX5_takePart 87 = .ok (.getfield 89, 3) := by decide +kernel
theorem dX5_takePart_90 : decode cX5_takePart 90 = .ok (.iload 4, 2) := by decide +kernel
theorem dX5_takePart_92 : decode cX5_takePart 92 = .ok (.bipush 99, 2) := by decide +kernel
theorem dX5_takePart_94 : decode cX5_takePart 94 = .ok (.invokevirtual 83, 3) := by decide +kernel
theorem dX5_takePart_97 : decode cX5_takePart 97 = .ok (.ifCond .eq 7, 3) := by decide +kernel
theorem dX5_takePart_100 : decode cX5_takePart 100 = .ok (.iconst 1, 1) := by decide +kernel
theorem dX5_takePart_101 : decode cX5_takePart 101 = .ok (.goto 4, 3) := by decide +kernel
theorem dX5_takePart_104 : decode cX5_takePart 104 = .ok (.iconst 0, 1) := by decide +kernel
theorem dX5_takePart_105 : decode cX5_takePart 105 = .ok (.ireturn, 1) := by decide +kernel
theorem dX5_takePerhaps_0 : decode cX5_takePerhaps 0 = .ok (.aload_n 0, 1) := by decide +kernel
theorem dX5_takePerhaps_1 : decode cX5_takePerhaps 1 = .ok (.getfield 32, 3) := by decide +kernel
theorem dX5_takePerhaps_4 : decode cX5_takePerhaps 4 = .ok (.iconst 1, 1) := by decide +kernel
theorem dX5_takePerhaps_5 : decode cX5_takePerhaps 5 = .ok (.if_icmp .ne 11, 3) := by decide +kernel
theorem dX5_takePerhaps_8 : decode cX5_takePerhaps 8 = .ok (.aload_n 0, 1) := by decide +kernel
theorem dX5_takePerhaps_9 : decode cX5_takePerhaps 9 = .ok (.aload_n 1, 1) := by decide +kernel
theorem dX5_takePerhaps_10 : decode cX5_takePerhaps 10 = .ok (.invokevirtual 39, 3) := by decide +kernel
theorem dX5_takePerhaps_13 : decode cX5_takePerhaps 13 = .ok (.ifCond .ne 5, 3) := by decide +kernel
theorem dX5_takePerhaps_16 : decode cX5_takePerhaps 16 = .ok (.iconst 1, 1) := by decide +kernel
theorem dX5_takePerhaps_17 : decode cX5_takePerhaps 17 = .ok (.ireturn, 1) := by decide +kernel
theorem dX5_takePerhaps_18 : decode cX5_takePerhaps 18 = .ok (.aload_n 0, 1) := by decide +kernel
theorem dX5_takePerhaps_19 : decode cX5_takePerhaps 19 = .ok (.invokevirtual 22, 3) := by decide +kernel
theorem dX5_takePerhaps_22 : decode cX5_takePerhaps 22 = .ok (.aload_n 0, 1) := by decide +kernel
theorem dX5_takePerhaps_23 : decode cX5_takePerhaps 23 = .ok (.iconst 0, 1) := by decide +kernel
theorem dX5_takePerhaps_24 : decode cX5_takePerhaps 24 = .ok (.iload 4, 2) := by decide +kernel
theorem dX5_takePerhaps_26 : decode cX5_takePerhaps 26 = .ok (.invokevirtual 67, 3) := by decide +kernel
theorem dX5_takePerhaps_29 : decode cX5_takePerhaps 29 = .ok (.ifCond .eq 13, 3) := by decide +kernel
theorem dX5_takePerhaps_32 : decode cX5_takePerhaps 32 = .ok (.iload_n 3, 1) := by decide +kernel
theorem dX5_takePerhaps_33 : decode cX5_takePerhaps 33 = .ok (.ifCond .lt 9, 3) := by decide +kernel
theorem dX5_takePerhaps_36 : decode cX5_takePerhaps 36 = .ok (.iload_n 3, 1) := by decide +kernel
theorem dX5_takePerhaps_37 : decode cX5_takePerhaps 37 = .ok (.aload_n 2, 1) := by decide +kernel
theorem dX5_takePerhaps_38 : decode cX5_takePerhaps 38 = .ok (.arraylength, 1) := by decide +kernel
theorem dX5_takePerhaps_39 : decode cX5_takePerhaps 39 = .ok (.if_icmp .lt 5, 3) := by decide +kernel
theorem dX5_takePerhaps_42 : decode cX5_takePerhaps 42 = .ok (.iconst 0, 1) := by decide +kernel
theorem dX5_takePerhaps_43 : decode cX5_takePerhaps 43 = .ok (.ireturn, 1) := by decide +kernel
theorem dX5_takePerhaps_44 : decode cX5_takePerhaps 44 = .ok (.aload_n 2, 1) := by decide +kernel
theorem dX5_takePerhaps_45 : decode cX5_takePerhaps 45 = .ok (.iload_n 3, 1) := by decide +kernel
theorem dX5_takePerhaps_46 : decode cX5_takePerhaps 46 = .ok (.aload_n 0, 1) := by decide +kernel
theorem dX5_takePerhaps_47 : decode cX5_takePerhaps 47 = .ok (.getfield 71, 3) := by decide +kernel
theorem dX5_takePerhaps_50 : decode cX5_takePerhaps 50 = .ok (.iastore, 1) := by decide +kernel
theorem dX5_takePerhaps_51 : decode cX5_takePerhaps 51 = .ok (.aload_n 0, 1) := by decide +kernel
theorem dX5_takePerhaps_52 : decode cX5_takePerhaps 52 = .ok (.invokevirtual 22, 3) := by decide +kernel
theorem dX5_takePerhaps_55 : decode cX5_takePerhaps 55 = .ok (.iconst 1, 1) := by decide +kernel
theorem dX5_takePerhaps_56 : decode cX5_takePerhaps 56 = .ok (.ireturn, 1) := by decide +kernel
theorem dX5_takeCamp_0 : decode cX5_takeCamp 0 = .ok (.aload_n 1, 1) := by decide +kernel
theorem dX5_takeCamp_1 : decode cX5_takeCamp 1 = .ok (.getfield 92, 3) := by decide +kernel
theorem dX5_takeCamp_4 : decode cX5_takeCamp 4 = .ok (.bipush 6, 2) := by decide +kernel
theorem dX5_takeCamp_6 : decode cX5_takeCamp 6 = .ok (.if_icmp .lt 5, 3) := by decide +kernel
theorem dX5_takeCamp_9 : decode cX5_takeCamp 9 = .ok (.iconst 0, 1) := by decide +kernel
theorem dX5_takeCamp_10 : decode cX5_takeCamp 10 = .ok (.ireturn, 1) := by decide +kernel
theorem dX5_takeCamp_11 : decode cX5_takeCamp 11 = .ok (.aload_n 0, 1) := by decide +kernel
theorem dX5_takeCamp_12 : decode cX5_takeCamp 12 = .ok (.invokevirtual 22, 3) := by decide +kernel
theorem dX5_takeCamp_15 : decode cX5_takeCamp 15 = .ok (.aload_n 0, 1) := by decide +kernel
theorem dX5_takeCamp_16 : decode cX5_takeCamp 16 = .ok (.iconst 0, 1) := by decide +kernel
theorem dX5_takeCamp_17 : decode cX5_takeCamp 17 = .ok (.bipush 99, 2) := by decide +kernel
theorem dX5_takeCamp_19 : decode cX5_takeCamp 19 = .ok (.invokevirtual 67, 3) := by decide +kernel
theorem dX5_takeCamp_22 : decode cX5_takeCamp 22 = .ok (.ifCond .ne 5, 3) := by decide +kernel
theorem dX5_takeCamp_25 : decode cX5_takeCamp 25 = .ok (.iconst 0, 1) := by decide +kernel
theorem dX5_takeCamp_26 : decode cX5_takeCamp 26 = .ok (.ireturn, 1) := by decide +kernel
theorem dX5_takeCamp_27 : decode cX5_takeCamp 27 = .ok (.aload_n 1, 1) := by decide +kernel
theorem dX5_takeCamp_28 : decode cX5_takeCamp 28 = .ok (.aload_n 0, 1) := by decide +kernel
theorem dX5_takeCamp_29 : decode cX5_takeCamp 29 = .ok (.getfield 71, 3) := by decide +kernel
theorem dX5_takeCamp_32 : decode cX5_takeCamp 32 = .ok (.invokevirtual 95, 3) := by decide +kernel
theorem dX5_takeCamp_35 : decode cX5_takeCamp 35 = .ok (.istore_n 2, 1) := by decide +kernel
theorem dX5_takeCamp_36 : decode cX5_takeCamp 36 = .ok (.aload_n 0, 1) := by decide +kernel
theorem dX5_takeCamp_37 : decode cX5_takeCamp 37 = .ok (.invokevirtual 22, 3) := by decide +kernel
theorem dX5_takeCamp_40 : decode cX5_takeCamp 40 = .ok (.aload_n 0, 1) := by decide +kernel
theorem dX5_takeCamp_41 : decode cX5_takeCamp 41 = .ok (.getfield 32, 3) := by decide +kernel
theorem dX5_takeCamp_44 : decode cX5_takeCamp 44 = .ok (.iconst 1, 1) := by decide +kernel
theorem dX5_takeCamp_45 : decode cX5_takeCamp 45 = .ok (.if_icmp .ne 21, 3) := by decide +kernel
theorem dX5_takeCamp_48 : decode cX5_takeCamp 48 = .ok (.aload_n 0, 1) := by decide +kernel
theorem dX5_takeCamp_49 : decode cX5_takeCamp 49 = .ok (.ldc 99, 2) := by decide +kernel
theorem dX5_takeCamp_51 : decode cX5_takeCamp 51 = .ok (.invokevirtual 39, 3) := by decide +kernel
theorem dX5_takeCamp_54 : decode cX5_takeCamp 54 = .ok (.ifCond .eq 12, 3) := by decide +kernel
theorem dX5_takeCamp_57 : decode cX5_takeCamp 57 = .ok (.aload_n 0, 1) := by decide +kernel
theorem dX5_takeCamp_58 : decode cX5_takeCamp 58 = .ok (.aload_n 1, 1) := by decide +kernel
theorem dX5_takeCamp_59 : decode cX5_takeCamp 59 = .ok (.iload_n 2, 1) := by decide +kernel
theorem dX5_takeCamp_60 : decode cX5_takeCamp 60 = .ok (.invokevirtual 101, 3) := by decide +kernel
theorem dX5_takeCamp_63 : decode cX5_takeCamp 63 = .ok (.ifCond .eq 7, 3) := by decide +kernel
theorem dX5_takeCamp_66 : decode cX5_takeCamp 66 = .ok (.iconst 1, 1) := by decide +kernel
theorem dX5_takeCamp_67 : decode cX5_takeCamp 67 = .ok (.goto 4, 3) := by decide +kernel
theorem dX5_takeCamp_70 : decode cX5_takeCamp 70 = .ok (.iconst 0, 1) := by decide +kernel
theorem dX5_takeCamp_71 : decode cX5_takeCamp 71 = .ok (.ireturn, 1) := by decide +kernel
theorem dX5_takeGrass_0 : decode cX5_takeGrass 0 = .ok (.aload_n 0, 1) := by decide +kernel
theorem dX5_takeGrass_1 : decode cX5_takeGrass 1 = .ok (.invokevirtual 22, 3) := by decide +kernel
theorem dX5_takeGrass_4 : decode cX5_takeGrass 4 = .ok (.iload_n 2, 1) := by decide +kernel
theorem dX5_takeGrass_5 : decode cX5_takeGrass 5 = .ok (.ifCond .lt 14, 3) := by decide +kernel
theorem dX5_takeGrass_8 : decode cX5_takeGrass 8 = .ok (.aload_n 0, 1) := by decide +kernel
theorem dX5_takeGrass_9 : decode cX5_takeGrass 9 = .ok (.iconst 0, 1) := by decide +kernel
theorem dX5_takeGrass_10 : decode cX5_takeGrass 10 = .ok (.sipush 999, 3) := by decide +kernel
theorem dX5_takeGrass_13 : decode cX5_takeGrass 13 = .ok (.invokevirtual 67, 3) := by decide +kernel
theorem dX5_takeGrass_16 : decode cX5_takeGrass 16 = .ok (.ifCond .ne 5, 3) := by decide +kernel
theorem dX5_takeGrass_19 : decode cX5_takeGrass 19 = .ok (.iconst 0, 1) := by decide +kernel
theorem dX5_takeGrass_20 : decode cX5_takeGrass 20 = .ok (.ireturn, 1) := by decide +kernel
theorem dX5_takeGrass_21 : decode cX5_takeGrass 21 = .ok (.iconst 0, 1) := by decide +kernel
theorem dX5_takeGrass_22 : decode cX5_takeGrass 22 = .ok (.istore_n 3, 1) := by decide +kernel
theorem dX5_takeGrass_23 : decode cX5_takeGrass 23 = .ok (.iload_n 3, 1) := by decide +kernel
theorem dX5_takeGrass_24 : decode cX5_takeGrass 24 = .ok (.bipush 12, 2) := by decide +kernel
theorem dX5_takeGrass_26 : decode cX5_takeGrass 26 = .ok (.if_icmp .ge 51, 3) := by decide +kernel
theorem dX5_takeGrass_29 : decode cX5_takeGrass 29 = .ok (.aload_n 0, 1) := by decide +kernel
theorem dX5_takeGrass_30 : decode cX5_takeGrass 30 = .ok (.getfield 32, 3) := by decide +kernel
theorem dX5_takeGrass_33 : decode cX5_takeGrass 33 = .ok (.iconst 2, 1) := by decide +kernel
theorem dX5_takeGrass_34 : decode cX5_takeGrass 34 = .ok (.if_icmp .eq 5, 3) := by decide +kernel
theorem dX5_takeGrass_37 : decode cX5_takeGrass 37 = .ok (.iconst 1, 1) := by decide +kernel
theorem dX5_takeGrass_38 : decode cX5_takeGrass 38 = .ok (.ireturn, 1) := by decide +kernel
theorem dX5_takeGrass_39 : decode cX5_takeGrass 39 = .ok (.aload_n 0, 1) := by decide +kernel
theorem dX5_takeGrass_40 : decode cX5_takeGrass 40 = .ok (.iconst 0, 1) := by decide +kernel
theorem dX5_takeGrass_41 : decode cX5_takeGrass 41 = .ok (.sipush 999, 3) := by decide +kernel
theorem dX5_takeGrass_44 : decode cX5_takeGrass 44 = .ok (.invokevirtual 67, 3) := by decide +kernel
theorem dX5_takeGrass_47 : decode cX5_takeGrass 47 = .ok (.ifCond .ne 5, 3) := by decide +kernel
theorem dX5_takeGrass_50 : decode cX5_takeGrass 50 = .ok (.iconst 0, 1) := by decide +kernel
theorem dX5_takeGrass_51 : decode cX5_takeGrass 51 = .ok (.ireturn, 1) := by decide +kernel
theorem dX5_takeGrass_52 : decode cX5_takeGrass 52 = .ok (.aload_n 1, 1) := by decide +kernel
theorem dX5_takeGrass_53 : decode cX5_takeGrass 53 = .ok (.getfield 104, 3) := by decide +kernel
theorem dX5_takeGrass_56 : decode cX5_takeGrass 56 = .ok (.iload_n 2, 1) := by decide +kernel
theorem dX5_takeGrass_57 : decode cX5_takeGrass 57 = .ok (.bipush 12, 2) := by decide +kernel
theorem dX5_takeGrass_59 : decode cX5_takeGrass 59 = .ok (.imul, 1) := by decide +kernel
theorem dX5_takeGrass_60 : decode cX5_takeGrass 60 = .ok (.iload_n 3, 1) := by decide +kernel
theorem dX5_takeGrass_61 : decode cX5_takeGrass 61 = .ok (.iadd, 1) := by decide +kernel
theorem dX5_takeGrass_62 : decode cX5_takeGrass 62 = .ok (.aload_n 0, 1) := by decide +kernel
theorem dX5_takeGrass_63 : decode cX5_takeGrass 63 = .ok (.getfield 71, 3) := by decide +kernel
theorem dX5_takeGrass_66 : decode cX5_takeGrass 66 = .ok (.iastore, 1) := by decide +kernel
theorem dX5_takeGrass_67 : decode cX5_takeGrass 67 = .ok (.aload_n 0, 1) := by decide +kernel
theorem dX5_takeGrass_68 : decode cX5_takeGrass 68 = .ok (.invokevirtual 22, 3) := by decide +kernel
theorem dX5_takeGrass_71 : decode cX5_takeGrass 71 = .ok (.iinc 3 1, 3) := by decide +kernel
theorem dX5_takeGrass_74 : decode cX5_takeGrass 74 = .ok (.goto (-51), 3) := by decide +kernel
theorem dX5_takeGrass_77 : decode cX5_takeGrass 77 = .ok (.aload_n 0, 1) := by decide +kernel
theorem dX5_takeGrass_78 : decode cX5_takeGrass 78 = .ok (.getfield 32, 3) := by decide +kernel
theorem dX5_takeGrass_81 : decode cX5_takeGrass 81 = .ok (.iconst 2, 1) := by decide +kernel
theorem dX5_takeGrass_82 : decode cX5_takeGrass 82 = .ok (.if_icmp .eq 7, 3) := by decide +kernel
theorem dX5_takeGrass_85 : decode cX5_takeGrass 85 = .ok (.iconst 1, 1) := by decide +kernel
theorem dX5_takeGrass_86 : decode cX5_takeGrass 86 = .ok (.goto 4, 3) := by decide +kernel
theorem dX5_takeGrass_89 : decode cX5_takeGrass 89 = .ok (.iconst 0, 1) := by decide +kernel
theorem dX5_takeGrass_90 : decode cX5_takeGrass 90 = .ok (.ireturn, 1) := by decide +kernel
theorem dX5_takeBeast_0 : decode cX5_takeBeast 0 = .ok (.aload_n 1, 1) := by decide +kernel
theorem dX5_takeBeast_1 : decode cX5_takeBeast 1 = .ok (.getfield 106, 3) := by decide +kernel
theorem dX5_takeBeast_4 : decode cX5_takeBeast 4 = .ok (.bipush 6, 2) := by decide +kernel
theorem dX5_takeBeast_6 : decode cX5_takeBeast 6 = .ok (.if_icmp .lt 5, 3) := by decide +kernel
theorem dX5_takeBeast_9 : decode cX5_takeBeast 9 = .ok (.iconst 0, 1) := by decide +kernel
theorem dX5_takeBeast_10 : decode cX5_takeBeast 10 = .ok (.ireturn, 1) := by decide +kernel
theorem dX5_takeBeast_11 : decode cX5_takeBeast 11 = .ok (.aload_n 0, 1) := by decide +kernel
theorem dX5_takeBeast_12 : decode cX5_takeBeast 12 = .ok (.invokevirtual 22, 3) := by decide +kernel
theorem dX5_takeBeast_15 : decode cX5_takeBeast 15 = .ok (.aload_n 0, 1) := by decide +kernel
theorem dX5_takeBeast_16 : decode cX5_takeBeast 16 = .ok (.iconst 1, 1) := by decide +kernel
theorem dX5_takeBeast_17 : decode cX5_takeBeast 17 = .ok (.sipush 999, 3) := by decide +kernel
theorem dX5_takeBeast_20 : decode cX5_takeBeast 20 = .ok (.invokevirtual 67, 3) := by decide +kernel
theorem dX5_takeBeast_23 : decode cX5_takeBeast 23 = .ok (.ifCond .ne 5, 3) := by decide +kernel
theorem dX5_takeBeast_26 : decode cX5_takeBeast 26 = .ok (.iconst 0, 1) := by decide +kernel
theorem dX5_takeBeast_27 : decode cX5_takeBeast 27 = .ok (.ireturn, 1) := by decide +kernel
theorem dX5_takeBeast_28 : decode cX5_takeBeast 28 = .ok (.aload_n 1, 1) := by decide +kernel
theorem dX5_takeBeast_29 : decode cX5_takeBeast 29 = .ok (.aload_n 0, 1) := by decide +kernel
theorem dX5_takeBeast_30 : decode cX5_takeBeast 30 = .ok (.getfield 71, 3) := by decide +kernel
theorem dX5_takeBeast_33 : decode cX5_takeBeast 33 = .ok (.invokevirtual 109, 3) := by decide +kernel
theorem dX5_takeBeast_36 : decode cX5_takeBeast 36 = .ok (.pop, 1) := by decide +kernel
theorem dX5_takeBeast_37 : decode cX5_takeBeast 37 = .ok (.aload_n 0, 1) := by decide +kernel
theorem dX5_takeBeast_38 : decode cX5_takeBeast 38 = .ok (.invokevirtual 22, 3) := by decide +kernel
theorem dX5_takeBeast_41 : decode cX5_takeBeast 41 = .ok (.iconst 1, 1) := by decide +kernel
theorem dX5_takeBeast_42 : decode cX5_takeBeast 42 = .ok (.ireturn, 1) := by decide +kernel
theorem dX5_takeDraw_0 : decode cX5_takeDraw 0 = .ok (.aload_n 0, 1) := by decide +kernel
theorem dX5_takeDraw_1 : decode cX5_takeDraw 1 = .ok (.invokevirtual 22, 3) := by decide +kernel
theorem dX5_takeDraw_4 : decode cX5_takeDraw 4 = .ok (.aload_n 0, 1) := by decide +kernel
theorem dX5_takeDraw_5 : decode cX5_takeDraw 5 = .ok (.iconst 0, 1) := by decide +kernel
theorem dX5_takeDraw_6 : decode cX5_takeDraw 6 = .ok (.bipush 99, 2) := by decide +kernel
theorem dX5_takeDraw_8 : decode cX5_takeDraw 8 = .ok (.invokevirtual 67, 3) := by decide +kernel
theorem dX5_takeDraw_11 : decode cX5_takeDraw 11 = .ok (.ifCond .ne 5, 3) := by decide +kernel
theorem dX5_takeDraw_14 : decode cX5_takeDraw 14 = .ok (.iconst 0, 1) := by decide +kernel
theorem dX5_takeDraw_15 : decode cX5_takeDraw 15 = .ok (.ireturn, 1) := by decide +kernel
theorem dX5_takeDraw_16 : decode cX5_takeDraw 16 = .ok (.aload_n 1, 1) := by decide +kernel
theorem dX5_takeDraw_17 : decode cX5_takeDraw 17 = .ok (.aload_n 0, 1) := by decide +kernel
theorem dX5_takeDraw_18 : decode cX5_takeDraw 18 = .ok (.getfield 71, 3) := by decide +kernel
theorem dX5_takeDraw_21 : decode cX5_takeDraw 21 = .ok (.putfield 112, 3) := by decide +kernel
theorem dX5_takeDraw_24 : decode cX5_takeDraw 24 = .ok (.aload_n 0, 1) := by decide +kernel
theorem dX5_takeDraw_25 : decode cX5_takeDraw 25 = .ok (.invokevirtual 22, 3) := by decide +kernel
theorem dX5_takeDraw_28 : decode cX5_takeDraw 28 = .ok (.iconst 1, 1) := by decide +kernel
theorem dX5_takeDraw_29 : decode cX5_takeDraw 29 = .ok (.ireturn, 1) := by decide +kernel
theorem dX5_isNumber_0 : decode cX5_isNumber 0 = .ok (.aload_n 0, 1) := by decide +kernel
theorem dX5_isNumber_1 : decode cX5_isNumber 1 = .ok (.getfield 32, 3) := by decide +kernel
theorem dX5_isNumber_4 : decode cX5_isNumber 4 = .ok (.iconst 2, 1) := by decide +kernel
theorem dX5_isNumber_5 : decode cX5_isNumber 5 = .ok (.if_icmp .ne 19, 3) := by decide +kernel
theorem dX5_isNumber_8 : decode cX5_isNumber 8 = .ok (.aload_n 0, 1) := by decide +kernel
theorem dX5_isNumber_9 : decode cX5_isNumber 9 = .ok (.getfield 71, 3) := by decide +kernel
theorem dX5_isNumber_12 : decode cX5_isNumber 12 = .ok (.iload_n 1, 1) := by decide +kernel
theorem dX5_isNumber_13 : decode cX5_isNumber 13 = .ok (.iload_n 2, 1) := by decide +kernel
theorem dX5_isNumber_14 : decode cX5_isNumber 14 = .ok (.invokestatic 114, 3) := by decide +kernel
theorem dX5_isNumber_17 : decode cX5_isNumber 17 = .ok (.ifCond .eq 7, 3) := by decide +kernel
theorem dX5_isNumber_20 : decode cX5_isNumber 20 = .ok (.iconst 1, 1) := by decide +kernel
theorem dX5_isNumber_21 : decode cX5_isNumber 21 = .ok (.goto 4, 3) := by decide +kernel
theorem dX5_isNumber_24 : decode cX5_isNumber 24 = .ok (.iconst 0, 1) := by decide +kernel
theorem dX5_isNumber_25 : decode cX5_isNumber 25 = .ok (.ireturn, 1) := by decide +kernel
theorem dX5_isWord_0 : decode cX5_isWord 0 = .ok (.aload_n 0, 1) := by decide +kernel
theorem dX5_isWord_1 : decode cX5_isWord 1 = .ok (.getfield 19, 3) := by decide +kernel
theorem dX5_isWord_4 : decode cX5_isWord 4 = .ok (.aload_n 0, 1) := by decide +kernel
theorem dX5_isWord_5 : decode cX5_isWord 5 = .ok (.getfield 29, 3) := by decide +kernel
theorem dX5_isWord_8 : decode cX5_isWord 8 = .ok (.isub, 1) := by decide +kernel
theorem dX5_isWord_9 : decode cX5_isWord 9 = .ok (.aload_n 1, 1) := by decide +kernel
theorem dX5_isWord_10 : decode cX5_isWord 10 = .ok (.invokevirtual 118, 3) := by decide +kernel
theorem dX5_isWord_13 : decode cX5_isWord 13 = .ok (.if_icmp .eq 5, 3) := by decide +kernel
theorem dX5_isWord_16 : decode cX5_isWord 16 = .ok (.iconst 0, 1) := by decide +kernel
theorem dX5_isWord_17 : decode cX5_isWord 17 = .ok (.ireturn, 1) := by decide +kernel
theorem dX5_isWord_18 : decode cX5_isWord 18 = .ok (.iconst 0, 1) := by decide +kernel
theorem dX5_isWord_19 : decode cX5_isWord 19 = .ok (.istore_n 2, 1) := by decide +kernel
theorem dX5_isWord_20 : decode cX5_isWord 20 = .ok (.iload_n 2, 1) := by decide +kernel
theorem dX5_isWord_21 : decode cX5_isWord 21 = .ok (.aload_n 1, 1) := by decide +kernel
theorem dX5_isWord_22 : decode cX5_isWord 22 = .ok (.invokevirtual 118, 3) := by decide +kernel
theorem dX5_isWord_25 : decode cX5_isWord 25 = .ok (.if_icmp .ge 30, 3) := by decide +kernel
theorem dX5_isWord_28 : decode cX5_isWord 28 = .ok (.aload_n 0, 1) := by decide +kernel
theorem dX5_isWord_29 : decode cX5_isWord 29 = .ok (.getfield 9, 3) := by decide +kernel
theorem dX5_isWord_32 : decode cX5_isWord 32 = .ok (.aload_n 0, 1) := by decide +kernel
theorem dX5_isWord_33 : decode cX5_isWord 33 = .ok (.getfield 29, 3) := by decide +kernel
theorem dX5_isWord_36 : decode cX5_isWord 36 = .ok (.iload_n 2, 1) := by decide +kernel
theorem dX5_isWord_37 : decode cX5_isWord 37 = .ok (.iadd, 1) := by decide +kernel
theorem dX5_isWord_38 : decode cX5_isWord 38 = .ok (.iaload, 1) := by decide +kernel
theorem dX5_isWord_39 : decode cX5_isWord 39 = .ok (.aload_n 1, 1) := by decide +kernel
theorem dX5_isWord_40 : decode cX5_isWord 40 = .ok (.iload_n 2, 1) := by decide +kernel
theorem dX5_isWord_41 : decode cX5_isWord 41 = .ok (.invokevirtual 124, 3) := by decide +kernel
theorem dX5_isWord_44 : decode cX5_isWord 44 = .ok (.if_icmp .eq 5, 3) := by decide +kernel
theorem dX5_isWord_47 : decode cX5_isWord 47 = .ok (.iconst 0, 1) := by decide +kernel
theorem dX5_isWord_48 : decode cX5_isWord 48 = .ok (.ireturn, 1) := by decide +kernel
theorem dX5_isWord_49 : decode cX5_isWord 49 = .ok (.iinc 2 1, 3) := by decide +kernel
theorem dX5_isWord_52 : decode cX5_isWord 52 = .ok (.goto (-32), 3) := by decide +kernel
theorem dX5_isWord_55 : decode cX5_isWord 55 = .ok (.iconst 1, 1) := by decide +kernel
theorem dX5_isWord_56 : decode cX5_isWord 56 = .ok (.ireturn, 1) := by decide +kernel
theorem dX5_kindName_0 : decode cX5_kindName 0 = .ok (.iload_n 0, 1) := by decide +kernel
theorem dX5_kindName_1 : decode cX5_kindName 1 = .ok (.tableswitch 57 1 6 #[39, 42, 45, 48, 51, 54], 39) := by decide +kernel
theorem dX5_kindName_40 : decode cX5_kindName 40 = .ok (.ldc 128, 2) := by decide +kernel
theorem dX5_kindName_42 : decode cX5_kindName 42 = .ok (.areturn, 1) := by decide +kernel
theorem dX5_kindName_43 : decode cX5_kindName 43 = .ok (.ldc 130, 2) := by decide +kernel
theorem dX5_kindName_45 : decode cX5_kindName 45 = .ok (.areturn, 1) := by decide +kernel
theorem dX5_kindName_46 : decode cX5_kindName 46 = .ok (.ldc 132, 2) := by decide +kernel
theorem dX5_kindName_48 : decode cX5_kindName 48 = .ok (.areturn, 1) := by decide +kernel
theorem dX5_kindName_49 : decode cX5_kindName 49 = .ok (.ldc 134, 2) := by decide +kernel
theorem dX5_kindName_51 : decode cX5_kindName 51 = .ok (.areturn, 1) := by decide +kernel
theorem dX5_kindName_52 : decode cX5_kindName 52 = .ok (.ldc 136, 2) := by decide +kernel
theorem dX5_kindName_54 : decode cX5_kindName 54 = .ok (.areturn, 1) := by decide +kernel
theorem dX5_kindName_55 : decode cX5_kindName 55 = .ok (.ldc 138, 2) := by decide +kernel
theorem dX5_kindName_57 : decode cX5_kindName 57 = .ok (.areturn, 1) := by decide +kernel
theorem dX5_kindName_58 : decode cX5_kindName 58 = .ok (.ldc 140, 2) := by decide +kernel
theorem dX5_kindName_60 : decode cX5_kindName 60 = .ok (.areturn, 1) := by decide +kernel
theorem dX5_step_0 : decode cX5_step 0 = .ok (.aload_n 0, 1) := by decide +kernel
theorem dX5_step_1 : decode cX5_step 1 = .ok (.getfield 19, 3) := by decide +kernel
theorem dX5_step_4 : decode cX5_step 4 = .ok (.aload_n 0, 1) := by decide +kernel
theorem dX5_step_5 : decode cX5_step 5 = .ok (.getfield 15, 3) := by decide +kernel
theorem dX5_step_8 : decode cX5_step 8 = .ok (.if_icmp .ge 30, 3) := by decide +kernel
theorem dX5_step_11 : decode cX5_step 11 = .ok (.aload_n 0, 1) := by decide +kernel
theorem dX5_step_12 : decode cX5_step 12 = .ok (.getfield 9, 3) := by decide +kernel
theorem dX5_step_15 : decode cX5_step 15 = .ok (.aload_n 0, 1) := by decide +kernel
theorem dX5_step_16 : decode cX5_step 16 = .ok (.getfield 19, 3) := by decide +kernel
theorem dX5_step_19 : decode cX5_step 19 = .ok (.iaload, 1) := by decide +kernel
theorem dX5_step_20 : decode cX5_step 20 = .ok (.bipush 32, 2) := by decide +kernel
theorem dX5_step_22 : decode cX5_step 22 = .ok (.if_icmp .ne 16, 3) := by decide +kernel
theorem dX5_step_25 : decode cX5_step 25 = .ok (.aload_n 0, 1) := by decide +kernel
theorem dX5_step_26 : decode cX5_step 26 = .ok (.dup, 1) := by decide +kernel
theorem dX5_step_27 : decode cX5_step 27 = .ok (.getfield 19, 3) := by decide +kernel
theorem dX5_step_30 : decode cX5_step 30 = .ok (.iconst 1, 1) := by decide +kernel
theorem dX5_step_31 : decode cX5_step 31 = .ok (.iadd, 1) := by decide +kernel
theorem dX5_step_32 : decode cX5_step 32 = .ok (.putfield 19, 3) := by decide +kernel
theorem dX5_step_35 : decode cX5_step 35 = .ok (.goto (-35), 3) := by decide +kernel
theorem dX5_step_38 : decode cX5_step 38 = .ok (.aload_n 0, 1) := by decide +kernel
theorem dX5_step_39 : decode cX5_step 39 = .ok (.aload_n 0, 1) := by decide +kernel
theorem dX5_step_40 : decode cX5_step 40 = .ok (.getfield 19, 3) := by decide +kernel
theorem dX5_step_43 : decode cX5_step 43 = .ok (.putfield 29, 3) := by decide +kernel
theorem dX5_step_46 : decode cX5_step 46 = .ok (.aload_n 0, 1) := by decide +kernel
theorem dX5_step_47 : decode cX5_step 47 = .ok (.getfield 19, 3) := by decide +kernel
theorem dX5_step_50 : decode cX5_step 50 = .ok (.aload_n 0, 1) := by decide +kernel
theorem dX5_step_51 : decode cX5_step 51 = .ok (.getfield 15, 3) := by decide +kernel
theorem dX5_step_54 : decode cX5_step 54 = .ok (.if_icmp .lt 11, 3) := by decide +kernel
theorem dX5_step_57 : decode cX5_step 57 = .ok (.aload_n 0, 1) := by decide +kernel
theorem dX5_step_58 : decode cX5_step 58 = .ok (.iconst 0, 1) := by decide +kernel
theorem dX5_step_59 : decode cX5_step 59 = .ok (.putfield 32, 3) := by decide +kernel
theorem dX5_step_62 : decode cX5_step 62 = .ok (.goto 189, 3) := by decide +kernel
theorem dX5_step_65 : decode cX5_step 65 = .ok (.aload_n 0, 1) := by decide +kernel
theorem dX5_step_66 : decode cX5_step 66 = .ok (.getfield 9, 3) := by decide +kernel
theorem dX5_step_69 : decode cX5_step 69 = .ok (.aload_n 0, 1) := by decide +kernel
theorem dX5_step_70 : decode cX5_step 70 = .ok (.getfield 19, 3) := by decide +kernel
theorem dX5_step_73 : decode cX5_step 73 = .ok (.iaload, 1) := by decide +kernel
theorem dX5_step_74 : decode cX5_step 74 = .ok (.invokestatic 142, 3) := by decide +kernel
theorem dX5_step_77 : decode cX5_step 77 = .ok (.ifCond .eq 47, 3) := by decide +kernel
theorem dX5_step_80 : decode cX5_step 80 = .ok (.aload_n 0, 1) := by decide +kernel
theorem dX5_step_81 : decode cX5_step 81 = .ok (.iconst 1, 1) := by decide +kernel
theorem dX5_step_82 : decode cX5_step 82 = .ok (.putfield 32, 3) := by decide +kernel
theorem dX5_step_85 : decode cX5_step 85 = .ok (.aload_n 0, 1) := by decide +kernel
theorem dX5_step_86 : decode cX5_step 86 = .ok (.getfield 19, 3) := by decide +kernel
theorem dX5_step_89 : decode cX5_step 89 = .ok (.aload_n 0, 1) := by decide +kernel
theorem dX5_step_90 : decode cX5_step 90 = .ok (.getfield 15, 3) := by decide +kernel
theorem dX5_step_93 : decode cX5_step 93 = .ok (.if_icmp .ge 158, 3) := by decide +kernel
theorem dX5_step_96 : decode cX5_step 96 = .ok (.aload_n 0, 1) := by decide +kernel
theorem dX5_step_97 : decode cX5_step 97 = .ok (.getfield 9, 3) := by decide +kernel
theorem dX5_step_100 : decode cX5_step 100 = .ok (.aload_n 0, 1) := by decide +kernel
theorem dX5_step_101 : decode cX5_step 101 = .ok (.getfield 19, 3) := by decide +kernel
theorem dX5_step_104 : decode cX5_step 104 = .ok (.iaload, 1) := by decide +kernel
theorem dX5_step_105 : decode cX5_step 105 = .ok (.invokestatic 142, 3) := by decide +kernel
theorem dX5_step_108 : decode cX5_step 108 = .ok (.ifCond .eq 143, 3) := by decide +kernel
theorem dX5_step_111 : decode cX5_step 111 = .ok (.aload_n 0, 1) := by decide +kernel
theorem dX5_step_112 : decode cX5_step 112 = .ok (.dup, 1) := by decide +kernel
theorem dX5_step_113 : decode cX5_step 113 = .ok (.getfield 19, 3) := by decide +kernel
theorem dX5_step_116 : decode cX5_step 116 = .ok (.iconst 1, 1) := by decide +kernel
theorem dX5_step_117 : decode cX5_step 117 = .ok (.iadd, 1) := by decide +kernel
theorem dX5_step_118 : decode cX5_step 118 = .ok (.putfield 19, 3) := by decide +kernel
theorem dX5_step_121 : decode cX5_step 121 = .ok (.goto (-36), 3) := by decide +kernel
theorem dX5_step_124 : decode cX5_step 124 = .ok (.aload_n 0, 1) := by decide +kernel
theorem dX5_step_125 : decode cX5_step 125 = .ok (.getfield 9, 3) := by decide +kernel
theorem dX5_step_128 : decode cX5_step 128 = .ok (.aload_n 0, 1) := by decide +kernel
theorem dX5_step_129 : decode cX5_step 129 = .ok (.getfield 19, 3) := by decide +kernel
theorem dX5_step_132 : decode cX5_step 132 = .ok (.iaload, 1) := by decide +kernel
theorem dX5_step_133 : decode cX5_step 133 = .ok (.invokestatic 146, 3) := by decide +kernel
theorem dX5_step_136 : decode cX5_step 136 = .ok (.ifCond .eq 82, 3) := by decide +kernel
theorem dX5_step_139 : decode cX5_step 139 = .ok (.aload_n 0, 1) := by decide +kernel
theorem dX5_step_140 : decode cX5_step 140 = .ok (.iconst 2, 1) := by decide +kernel
theorem dX5_step_141 : decode cX5_step 141 = .ok (.putfield 32, 3) := by decide +kernel
theorem dX5_step_144 : decode cX5_step 144 = .ok (.aload_n 0, 1) := by decide +kernel
theorem dX5_step_145 : decode cX5_step 145 = .ok (.iconst 0, 1) := by decide +kernel
theorem dX5_step_146 : decode cX5_step 146 = .ok (.putfield 71, 3) := by decide +kernel
theorem dX5_step_149 : decode cX5_step 149 = .ok (.aload_n 0, 1) := by decide +kernel
theorem dX5_step_150 : decode cX5_step 150 = .ok (.getfield 19, 3) := by decide +kernel
theorem dX5_step_153 : decode cX5_step 153 = .ok (.aload_n 0, 1) := by decide +kernel
theorem dX5_step_154 : decode cX5_step 154 = .ok (.getfield 15, 3) := by decide +kernel
theorem dX5_step_157 : decode cX5_step 157 = .ok (.if_icmp .ge 94, 3) := by decide +kernel
theorem dX5_step_160 : decode cX5_step 160 = .ok (.aload_n 0, 1) := by decide +kernel
theorem dX5_step_161 : decode cX5_step 161 = .ok (.getfield 9, 3) := by decide +kernel
theorem dX5_step_164 : decode cX5_step 164 = .ok (.aload_n 0, 1) := by decide +kernel
theorem dX5_step_165 : decode cX5_step 165 = .ok (.getfield 19, 3) := by decide +kernel
theorem dX5_step_168 : decode cX5_step 168 = .ok (.iaload, 1) := by decide +kernel
theorem dX5_step_169 : decode cX5_step 169 = .ok (.invokestatic 146, 3) := by decide +kernel
theorem dX5_step_172 : decode cX5_step 172 = .ok (.ifCond .eq 79, 3) := by decide +kernel
theorem dX5_step_175 : decode cX5_step 175 = .ok (.aload_n 0, 1) := by decide +kernel
theorem dX5_step_176 : decode cX5_step 176 = .ok (.aload_n 0, 1) := by decide +kernel
theorem dX5_step_177 : decode cX5_step 177 = .ok (.getfield 71, 3) := by decide +kernel
theorem dX5_step_180 : decode cX5_step 180 = .ok (.bipush 10, 2) := by decide +kernel
theorem dX5_step_182 : decode cX5_step 182 = .ok (.imul, 1) := by decide +kernel
theorem dX5_step_183 : decode cX5_step 183 = .ok (.aload_n 0, 1) := by decide +kernel
theorem dX5_step_184 : decode cX5_step 184 = .ok (.getfield 9, 3) := by decide +kernel
theorem dX5_step_187 : decode cX5_step 187 = .ok (.aload_n 0, 1) := by decide +kernel
theorem dX5_step_188 : decode cX5_step 188 = .ok (.getfield 19, 3) := by decide +kernel
theorem dX5_step_191 : decode cX5_step 191 = .ok (.iaload, 1) := by decide +kernel
theorem dX5_step_192 : decode cX5_step 192 = .ok (.iadd, 1) := by decide +kernel
theorem dX5_step_193 : decode cX5_step 193 = .ok (.bipush 48, 2) := by decide +kernel
theorem dX5_step_195 : decode cX5_step 195 = .ok (.isub, 1) := by decide +kernel
theorem dX5_step_196 : decode cX5_step 196 = .ok (.sipush 1000, 3) := by decide +kernel
theorem dX5_step_199 : decode cX5_step 199 = .ok (.invokestatic 149, 3) := by decide +kernel
theorem dX5_step_202 : decode cX5_step 202 = .ok (.putfield 71, 3) := by decide +kernel
theorem dX5_step_205 : decode cX5_step 205 = .ok (.aload_n 0, 1) := by decide +kernel
theorem dX5_step_206 : decode cX5_step 206 = .ok (.dup, 1) := by decide +kernel
theorem dX5_step_207 : decode cX5_step 207 = .ok (.getfield 19, 3) := by decide +kernel
theorem dX5_step_210 : decode cX5_step 210 = .ok (.iconst 1, 1) := by decide +kernel
theorem dX5_step_211 : decode cX5_step 211 = .ok (.iadd, 1) := by decide +kernel
theorem dX5_step_212 : decode cX5_step 212 = .ok (.putfield 19, 3) := by decide +kernel
theorem dX5_step_215 : decode cX5_step 215 = .ok (.goto (-66), 3) := by decide +kernel
theorem dX5_step_218 : decode cX5_step 218 = .ok (.aload_n 0, 1) := by decide +kernel
theorem dX5_step_219 : decode cX5_step 219 = .ok (.aload_n 0, 1) := by decide +kernel
theorem dX5_step_220 : decode cX5_step 220 = .ok (.getfield 9, 3) := by decide +kernel
theorem dX5_step_223 : decode cX5_step 223 = .ok (.aload_n 0, 1) := by decide +kernel
theorem dX5_step_224 : decode cX5_step 224 = .ok (.getfield 19, 3) := by decide +kernel
theorem dX5_step_227 : decode cX5_step 227 = .ok (.iaload, 1) := by decide +kernel
theorem dX5_step_228 : decode cX5_step 228 = .ok (.bipush 44, 2) := by decide +kernel
theorem dX5_step_230 : decode cX5_step 230 = .ok (.if_icmp .ne 7, 3) := by decide +kernel
theorem dX5_step_233 : decode cX5_step 233 = .ok (.iconst 3, 1) := by decide +kernel
theorem dX5_step_234 : decode cX5_step 234 = .ok (.goto 4, 3) := by decide +kernel
theorem dX5_step_237 : decode cX5_step 237 = .ok (.iconst 4, 1) := by decide +kernel
theorem dX5_step_238 : decode cX5_step 238 = .ok (.putfield 32, 3) := by decide +kernel
theorem dX5_step_241 : decode cX5_step 241 = .ok (.aload_n 0, 1) := by decide +kernel
theorem dX5_step_242 : decode cX5_step 242 = .ok (.dup, 1) := by decide +kernel
theorem dX5_step_243 : decode cX5_step 243 = .ok (.getfield 19, 3) := by decide +kernel
theorem dX5_step_246 : decode cX5_step 246 = .ok (.iconst 1, 1) := by decide +kernel
theorem dX5_step_247 : decode cX5_step 247 = .ok (.iadd, 1) := by decide +kernel
theorem dX5_step_248 : decode cX5_step 248 = .ok (.putfield 19, 3) := by decide +kernel
theorem dX5_step_251 : decode cX5_step 251 = .ok (.return_, 1) := by decide +kernel
theorem dX5_isLetter_0 : decode cX5_isLetter 0 = .ok (.iload_n 0, 1) := by decide +kernel
theorem dX5_isLetter_1 : decode cX5_isLetter 1 = .ok (.bipush 97, 2) := by decide +kernel
theorem dX5_isLetter_3 : decode cX5_isLetter 3 = .ok (.if_icmp .lt 13, 3) := by decide +kernel
theorem dX5_isLetter_6 : decode cX5_isLetter 6 = .ok (.iload_n 0, 1) := by decide +kernel
theorem dX5_isLetter_7 : decode cX5_isLetter 7 = .ok (.bipush 122, 2) := by decide +kernel
theorem dX5_isLetter_9 : decode cX5_isLetter 9 = .ok (.if_icmp .gt 7, 3) := by decide +kernel
theorem dX5_isLetter_12 : decode cX5_isLetter 12 = .ok (.iconst 1, 1) := by decide +kernel
theorem dX5_isLetter_13 : decode cX5_isLetter 13 = .ok (.goto 4, 3) := by decide +kernel
theorem dX5_isLetter_16 : decode cX5_isLetter 16 = .ok (.iconst 0, 1) := by decide +kernel
theorem dX5_isLetter_17 : decode cX5_isLetter 17 = .ok (.ireturn, 1) := by decide +kernel
theorem dX5_isDigit_0 : decode cX5_isDigit 0 = .ok (.iload_n 0, 1) := by decide +kernel
theorem dX5_isDigit_1 : decode cX5_isDigit 1 = .ok (.bipush 48, 2) := by decide +kernel
theorem dX5_isDigit_3 : decode cX5_isDigit 3 = .ok (.if_icmp .lt 13, 3) := by decide +kernel
theorem dX5_isDigit_6 : decode cX5_isDigit 6 = .ok (.iload_n 0, 1) := by decide +kernel
theorem dX5_isDigit_7 : decode cX5_isDigit 7 = .ok (.bipush 57, 2) := by decide +kernel
theorem dX5_isDigit_9 : decode cX5_isDigit 9 = .ok (.if_icmp .gt 7, 3) := by decide +kernel
theorem dX5_isDigit_12 : decode cX5_isDigit 12 = .ok (.iconst 1, 1) := by decide +kernel
theorem dX5_isDigit_13 : decode cX5_isDigit 13 = .ok (.goto 4, 3) := by decide +kernel
theorem dX5_isDigit_16 : decode cX5_isDigit 16 = .ok (.iconst 0, 1) := by decide +kernel
theorem dX5_isDigit_17 : decode cX5_isDigit 17 = .ok (.ireturn, 1) := by decide +kernel
