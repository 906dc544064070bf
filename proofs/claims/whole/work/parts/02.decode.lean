theorem dX0_init_0 : decode cX0_init 0 = .ok (.aload_n 0, 1) := by decide +kernel
theorem dX0_init_1 : decode cX0_init 1 = .ok (.invokespecial 3, 3) := by decide +kernel
theorem dX0_init_4 : decode cX0_init 4 = .ok (.aload_n 0, 1) := by decide +kernel
theorem dX0_init_5 : decode cX0_init 5 = .ok (.new 9, 3) := by decide +kernel
theorem dX0_init_8 : decode cX0_init 8 = .ok (.dup, 1) := by decide +kernel
theorem dX0_init_9 : decode cX0_init 9 = .ok (.invokespecial 11, 3) := by decide +kernel
theorem dX0_init_12 : decode cX0_init 12 = .ok (.putfield 12, 3) := by decide +kernel
theorem dX0_init_15 : decode cX0_init 15 = .ok (.aload_n 0, 1) := by decide +kernel
theorem dX0_init_16 : decode cX0_init 16 = .ok (.new 18, 3) := by decide +kernel
theorem dX0_init_19 : decode cX0_init 19 = .ok (.dup, 1) := by decide +kernel
theorem dX0_init_20 : decode cX0_init 20 = .ok (.invokespecial 20, 3) := by decide +kernel
theorem dX0_init_23 : decode cX0_init 23 = .ok (.putfield 21, 3) := by decide +kernel
theorem dX0_init_26 : decode cX0_init 26 = .ok (.aload_n 0, 1) := by decide +kernel
theorem dX0_init_27 : decode cX0_init 27 = .ok (.iconst 2, 1) := by decide +kernel
theorem dX0_init_28 : decode cX0_init 28 = .ok (.putfield 25, 3) := by decide +kernel
theorem dX0_init_31 : decode cX0_init 31 = .ok (.aload_n 0, 1) := by decide +kernel
theorem dX0_init_32 : decode cX0_init 32 = .ok (.iconst 1, 1) := by decide +kernel
theorem dX0_init_33 : decode cX0_init 33 = .ok (.putfield 29, 3) := by decide +kernel
theorem dX0_init_36 : decode cX0_init 36 = .ok (.aload_n 0, 1) := by decide +kernel
theorem dX0_init_37 : decode cX0_init 37 = .ok (.bipush 32, 2) := by decide +kernel
theorem dX0_init_39 : decode cX0_init 39 = .ok (.newarray .int, 2) := by decide +kernel
theorem dX0_init_41 : decode cX0_init 41 = .ok (.putfield 32, 3) := by decide +kernel
theorem dX0_init_44 : decode cX0_init 44 = .ok (.aload_n 0, 1) := by decide +kernel
theorem dX0_init_45 : decode cX0_init 45 = .ok (.bipush 16, 2) := by decide +kernel
theorem dX0_init_47 : decode cX0_init 47 = .ok (.sipush 1024, 3) := by decide +kernel
theorem dX0_init_50 : decode cX0_init 50 = .ok (.multianewarray 36 2, 4) := by decide +kernel
theorem dX0_init_54 : decode cX0_init 54 = .ok (.putfield 38, 3) := by decide +kernel
theorem dX0_init_57 : decode cX0_init 57 = .ok (.return_, 1) := by decide +kernel
theorem dX0_isFor_0 : decode cX0_isFor 0 = .ok (.aload_n 0, 1) := by decide +kernel
theorem dX0_isFor_1 : decode cX0_isFor 1 = .ok (.getfield 41, 3) := by decide +kernel
theorem dX0_isFor_4 : decode cX0_isFor 4 = .ok (.ifCond .eq 18, 3) := by decide +kernel
theorem dX0_isFor_7 : decode cX0_isFor 7 = .ok (.aload_n 0, 1) := by decide +kernel
theorem dX0_isFor_8 : decode cX0_isFor 8 = .ok (.getfield 21, 3) := by decide +kernel
theorem dX0_isFor_11 : decode cX0_isFor 11 = .ok (.aload_n 1, 1) := by decide +kernel
theorem dX0_isFor_12 : decode cX0_isFor 12 = .ok (.invokevirtual 45, 3) := by decide +kernel
theorem dX0_isFor_15 : decode cX0_isFor 15 = .ok (.ifCond .eq 7, 3) := by decide +kernel
theorem dX0_isFor_18 : decode cX0_isFor 18 = .ok (.iconst 1, 1) := by decide +kernel
theorem dX0_isFor_19 : decode cX0_isFor 19 = .ok (.goto 4, 3) := by decide +kernel
theorem dX0_isFor_22 : decode cX0_isFor 22 = .ok (.iconst 0, 1) := by decide +kernel
theorem dX0_isFor_23 : decode cX0_isFor 23 = .ok (.ireturn, 1) := by decide +kernel
theorem dX0_begin_0 : decode cX0_begin 0 = .ok (.aload_n 0, 1) := by decide +kernel
theorem dX0_begin_1 : decode cX0_begin 1 = .ok (.getfield 21, 3) := by decide +kernel
theorem dX0_begin_4 : decode cX0_begin 4 = .ok (.aload_n 1, 1) := by decide +kernel
theorem dX0_begin_5 : decode cX0_begin 5 = .ok (.invokevirtual 49, 3) := by decide +kernel
theorem dX0_begin_8 : decode cX0_begin 8 = .ok (.aload_n 0, 1) := by decide +kernel
theorem dX0_begin_9 : decode cX0_begin 9 = .ok (.iconst 0, 1) := by decide +kernel
theorem dX0_begin_10 : decode cX0_begin 10 = .ok (.putfield 41, 3) := by decide +kernel
theorem dX0_begin_13 : decode cX0_begin 13 = .ok (.aload_n 0, 1) := by decide +kernel
theorem dX0_begin_14 : decode cX0_begin 14 = .ok (.getfield 12, 3) := by decide +kernel
theorem dX0_begin_17 : decode cX0_begin 17 = .ok (.aload_n 1, 1) := by decide +kernel
theorem dX0_begin_18 : decode cX0_begin 18 = .ok (.invokevirtual 53, 3) := by decide +kernel
theorem dX0_begin_21 : decode cX0_begin 21 = .ok (.aload_n 0, 1) := by decide +kernel
theorem dX0_begin_22 : decode cX0_begin 22 = .ok (.aload_n 1, 1) := by decide +kernel
theorem dX0_begin_23 : decode cX0_begin 23 = .ok (.invokevirtual 56, 3) := by decide +kernel
theorem dX0_begin_26 : decode cX0_begin 26 = .ok (.putfield 60, 3) := by decide +kernel
theorem dX0_begin_29 : decode cX0_begin 29 = .ok (.aload_n 0, 1) := by decide +kernel
theorem dX0_begin_30 : decode cX0_begin 30 = .ok (.aload_n 1, 1) := by decide +kernel
theorem dX0_begin_31 : decode cX0_begin 31 = .ok (.invokevirtual 62, 3) := by decide +kernel
theorem dX0_begin_34 : decode cX0_begin 34 = .ok (.putfield 25, 3) := by decide +kernel
theorem dX0_begin_37 : decode cX0_begin 37 = .ok (.aload_n 0, 1) := by decide +kernel
theorem dX0_begin_38 : decode cX0_begin 38 = .ok (.aload_n 1, 1) := by decide +kernel
theorem dX0_begin_39 : decode cX0_begin 39 = .ok (.invokevirtual 64, 3) := by decide +kernel
theorem dX0_begin_42 : decode cX0_begin 42 = .ok (.putfield 29, 3) := by decide +kernel
theorem dX0_begin_45 : decode cX0_begin 45 = .ok (.aload_n 0, 1) := by decide +kernel
theorem dX0_begin_46 : decode cX0_begin 46 = .ok (.iconst 0, 1) := by decide +kernel
theorem dX0_begin_47 : decode cX0_begin 47 = .ok (.putfield 66, 3) := by decide +kernel
theorem dX0_begin_50 : decode cX0_begin 50 = .ok (.iconst 0, 1) := by decide +kernel
theorem dX0_begin_51 : decode cX0_begin 51 = .ok (.istore_n 2, 1) := by decide +kernel
theorem dX0_begin_52 : decode cX0_begin 52 = .ok (.iload_n 2, 1) := by decide +kernel
theorem dX0_begin_53 : decode cX0_begin 53 = .ok (.aload_n 0, 1) := by decide +kernel
theorem dX0_begin_54 : decode cX0_begin 54 = .ok (.getfield 32, 3) := by decide +kernel
theorem dX0_begin_57 : decode cX0_begin 57 = .ok (.arraylength, 1) := by decide +kernel
theorem dX0_begin_58 : decode cX0_begin 58 = .ok (.if_icmp .ge 16, 3) := by decide +kernel
theorem dX0_begin_61 : decode cX0_begin 61 = .ok (.aload_n 0, 1) := by decide +kernel
theorem dX0_begin_62 : decode cX0_begin 62 = .ok (.getfield 32, 3) := by decide +kernel
theorem dX0_begin_65 : decode cX0_begin 65 = .ok (.iload_n 2, 1) := by decide +kernel
theorem dX0_begin_66 : decode cX0_begin 66 = .ok (.iconst 0, 1) := by decide +kernel
theorem dX0_begin_67 : decode cX0_begin 67 = .ok (.iastore, 1) := by decide +kernel
theorem dX0_begin_68 : decode cX0_begin 68 = .ok (.iinc 2 1, 3) := by decide +kernel
theorem dX0_begin_71 : decode cX0_begin 71 = .ok (.goto (-19), 3) := by decide +kernel
theorem dX0_begin_74 : decode cX0_begin 74 = .ok (.iconst 0, 1) := by decide +kernel
theorem dX0_begin_75 : decode cX0_begin 75 = .ok (.istore_n 2, 1) := by decide +kernel
theorem dX0_begin_76 : decode cX0_begin 76 = .ok (.iload_n 2, 1) := by decide +kernel
theorem dX0_begin_77 : decode cX0_begin 77 = .ok (.aload_n 1, 1) := by decide +kernel
theorem dX0_begin_78 : decode cX0_begin 78 = .ok (.getfield 69, 3) := by decide +kernel
theorem dX0_begin_81 : decode cX0_begin 81 = .ok (.if_icmp .ge 20, 3) := by decide +kernel
theorem dX0_begin_84 : decode cX0_begin 84 = .ok (.aload_n 0, 1) := by decide +kernel
theorem dX0_begin_85 : decode cX0_begin 85 = .ok (.iload_n 2, 1) := by decide +kernel
theorem dX0_begin_86 : decode cX0_begin 86 = .ok (.aload_n 1, 1) := by decide +kernel
theorem dX0_begin_87 : decode cX0_begin 87 = .ok (.iload_n 2, 1) := by decide +kernel
theorem dX0_begin_88 : decode cX0_begin 88 = .ok (.invokevirtual 72, 3) := by decide +kernel
theorem dX0_begin_91 : decode cX0_begin 91 = .ok (.invokevirtual 76, 3) := by decide +kernel
theorem dX0_begin_94 : decode cX0_begin 94 = .ok (.pop, 1) := by decide +kernel
theorem dX0_begin_95 : decode cX0_begin 95 = .ok (.iinc 2 1, 3) := by decide +kernel
theorem dX0_begin_98 : decode cX0_begin 98 = .ok (.goto (-22), 3) := by decide +kernel
theorem dX0_begin_101 : decode cX0_begin 101 = .ok (.return_, 1) := by decide +kernel
theorem dX0_pin_0 : decode cX0_pin 0 = .ok (.iload_n 2, 1) := by decide +kernel
theorem dX0_pin_1 : decode cX0_pin 1 = .ok (.ifCond .lt 25, 3) := by decide +kernel
theorem dX0_pin_4 : decode cX0_pin 4 = .ok (.iload_n 2, 1) := by decide +kernel
theorem dX0_pin_5 : decode cX0_pin 5 = .ok (.aload_n 0, 1) := by decide +kernel
theorem dX0_pin_6 : decode cX0_pin 6 = .ok (.getfield 25, 3) := by decide +kernel
theorem dX0_pin_9 : decode cX0_pin 9 = .ok (.if_icmp .ge 17, 3) := by decide +kernel
theorem dX0_pin_12 : decode cX0_pin 12 = .ok (.aload_n 0, 1) := by decide +kernel
theorem dX0_pin_13 : decode cX0_pin 13 = .ok (.getfield 32, 3) := by decide +kernel
theorem dX0_pin_16 : decode cX0_pin 16 = .ok (.aload_n 0, 1) := by decide +kernel
theorem dX0_pin_17 : decode cX0_pin 17 = .ok (.getfield 25, 3) := by decide +kernel
theorem dX0_pin_20 : decode cX0_pin 20 = .ok (.iload_n 2, 1) := by decide +kernel
theorem dX0_pin_21 : decode cX0_pin 21 = .ok (.iadd, 1) := by decide +kernel
theorem dX0_pin_22 : decode cX0_pin 22 = .ok (.iaload, 1) := by decide +kernel
theorem dX0_pin_23 : decode cX0_pin 23 = .ok (.ifCond .eq 5, 3) := by decide +kernel
theorem dX0_pin_26 : decode cX0_pin 26 = .ok (.iconst 0, 1) := by decide +kernel
theorem dX0_pin_27 : decode cX0_pin 27 = .ok (.ireturn, 1) := by decide +kernel
theorem dX0_pin_28 : decode cX0_pin 28 = .ok (.aload_n 0, 1) := by decide +kernel
theorem dX0_pin_29 : decode cX0_pin 29 = .ok (.dup, 1) := by decide +kernel
theorem dX0_pin_30 : decode cX0_pin 30 = .ok (.getfield 66, 3) := by decide +kernel
theorem dX0_pin_33 : decode cX0_pin 33 = .ok (.iconst 1, 1) := by decide +kernel
theorem dX0_pin_34 : decode cX0_pin 34 = .ok (.iload_n 1, 1) := by decide +kernel
theorem dX0_pin_35 : decode cX0_pin 35 = .ok (.ishl, 1) := by decide +kernel
theorem dX0_pin_36 : decode cX0_pin 36 = .ok (.ior, 1) := by decide +kernel
theorem dX0_pin_37 : decode cX0_pin 37 = .ok (.putfield 66, 3) := by decide +kernel
theorem dX0_pin_40 : decode cX0_pin 40 = .ok (.aload_n 0, 1) := by decide +kernel
theorem dX0_pin_41 : decode cX0_pin 41 = .ok (.getfield 25, 3) := by decide +kernel
theorem dX0_pin_44 : decode cX0_pin 44 = .ok (.iload_n 2, 1) := by decide +kernel
theorem dX0_pin_45 : decode cX0_pin 45 = .ok (.iadd, 1) := by decide +kernel
theorem dX0_pin_46 : decode cX0_pin 46 = .ok (.istore_n 3, 1) := by decide +kernel
theorem dX0_pin_47 : decode cX0_pin 47 = .ok (.iload_n 3, 1) := by decide +kernel
theorem dX0_pin_48 : decode cX0_pin 48 = .ok (.iconst 1, 1) := by decide +kernel
theorem dX0_pin_49 : decode cX0_pin 49 = .ok (.if_icmp .lt 22, 3) := by decide +kernel
theorem dX0_pin_52 : decode cX0_pin 52 = .ok (.aload_n 0, 1) := by decide +kernel
theorem dX0_pin_53 : decode cX0_pin 53 = .ok (.getfield 32, 3) := by decide +kernel
theorem dX0_pin_56 : decode cX0_pin 56 = .ok (.iload_n 3, 1) := by decide +kernel
theorem dX0_pin_57 : decode cX0_pin 57 = .ok (.dup2, 1) := by decide +kernel
theorem dX0_pin_58 : decode cX0_pin 58 = .ok (.iaload, 1) := by decide +kernel
theorem dX0_pin_59 : decode cX0_pin 59 = .ok (.iconst 1, 1) := by decide +kernel
theorem dX0_pin_60 : decode cX0_pin 60 = .ok (.iload_n 1, 1) := by decide +kernel
theorem dX0_pin_61 : decode cX0_pin 61 = .ok (.ishl, 1) := by decide +kernel
theorem dX0_pin_62 : decode cX0_pin 62 = .ok (.ior, 1) := by decide +kernel
theorem dX0_pin_63 : decode cX0_pin 63 = .ok (.iastore, 1) := by decide +kernel
theorem dX0_pin_64 : decode cX0_pin 64 = .ok (.iload_n 3, 1) := by decide +kernel
theorem dX0_pin_65 : decode cX0_pin 65 = .ok (.iconst 2, 1) := by decide +kernel
theorem dX0_pin_66 : decode cX0_pin 66 = .ok (.idiv, 1) := by decide +kernel
theorem dX0_pin_67 : decode cX0_pin 67 = .ok (.istore_n 3, 1) := by decide +kernel
theorem dX0_pin_68 : decode cX0_pin 68 = .ok (.goto (-21), 3) := by decide +kernel
theorem dX0_pin_71 : decode cX0_pin 71 = .ok (.iconst 1, 1) := by decide +kernel
theorem dX0_pin_72 : decode cX0_pin 72 = .ok (.ireturn, 1) := by decide +kernel
theorem dX0_total_0 : decode cX0_total 0 = .ok (.iconst 1, 1) := by decide +kernel
theorem dX0_total_1 : decode cX0_total 1 = .ok (.istore_n 1, 1) := by decide +kernel
theorem dX0_total_2 : decode cX0_total 2 = .ok (.iload_n 1, 1) := by decide +kernel
theorem dX0_total_3 : decode cX0_total 3 = .ok (.aload_n 0, 1) := by decide +kernel
theorem dX0_total_4 : decode cX0_total 4 = .ok (.getfield 29, 3) := by decide +kernel
theorem dX0_total_7 : decode cX0_total 7 = .ok (.if_icmp .gt 37, 3) := by decide +kernel
theorem dX0_total_10 : decode cX0_total 10 = .ok (.aload_n 0, 1) := by decide +kernel
theorem dX0_total_11 : decode cX0_total 11 = .ok (.getfield 25, 3) := by decide +kernel
theorem dX0_total_14 : decode cX0_total 14 = .ok (.iload_n 1, 1) := by decide +kernel
theorem dX0_total_15 : decode cX0_total 15 = .ok (.ishr, 1) := by decide +kernel
theorem dX0_total_16 : decode cX0_total 16 = .ok (.istore_n 2, 1) := by decide +kernel
theorem dX0_total_17 : decode cX0_total 17 = .ok (.iload_n 2, 1) := by decide +kernel
theorem dX0_total_18 : decode cX0_total 18 = .ok (.istore_n 3, 1) := by decide +kernel
theorem dX0_total_19 : decode cX0_total 19 = .ok (.iload_n 3, 1) := by decide +kernel
theorem dX0_total_20 : decode cX0_total 20 = .ok (.iconst 2, 1) := by decide +kernel
theorem dX0_total_21 : decode cX0_total 21 = .ok (.iload_n 2, 1) := by decide +kernel
theorem dX0_total_22 : decode cX0_total 22 = .ok (.imul, 1) := by decide +kernel
theorem dX0_total_23 : decode cX0_total 23 = .ok (.if_icmp .ge 15, 3) := by decide +kernel
theorem dX0_total_26 : decode cX0_total 26 = .ok (.aload_n 0, 1) := by decide +kernel
theorem dX0_total_27 : decode cX0_total 27 = .ok (.iload_n 3, 1) := by decide +kernel
theorem dX0_total_28 : decode cX0_total 28 = .ok (.iload_n 1, 1) := by decide +kernel
theorem dX0_total_29 : decode cX0_total 29 = .ok (.invokevirtual 80, 3) := by decide +kernel
theorem dX0_total_32 : decode cX0_total 32 = .ok (.iinc 3 1, 3) := by decide +kernel
theorem dX0_total_35 : decode cX0_total 35 = .ok (.goto (-16), 3) := by decide +kernel
theorem dX0_total_38 : decode cX0_total 38 = .ok (.iinc 1 1, 3) := by decide +kernel
theorem dX0_total_41 : decode cX0_total 41 = .ok (.goto (-39), 3) := by decide +kernel
theorem dX0_total_44 : decode cX0_total 44 = .ok (.aload_n 0, 1) := by decide +kernel
theorem dX0_total_45 : decode cX0_total 45 = .ok (.aload_n 0, 1) := by decide +kernel
theorem dX0_total_46 : decode cX0_total 46 = .ok (.iconst 1, 1) := by decide +kernel
theorem dX0_total_47 : decode cX0_total 47 = .ok (.aload_n 0, 1) := by decide +kernel
theorem dX0_total_48 : decode cX0_total 48 = .ok (.getfield 60, 3) := by decide +kernel
theorem dX0_total_51 : decode cX0_total 51 = .ok (.invokevirtual 84, 3) := by decide +kernel
theorem dX0_total_54 : decode cX0_total 54 = .ok (.putfield 88, 3) := by decide +kernel
theorem dX0_total_57 : decode cX0_total 57 = .ok (.aload_n 0, 1) := by decide +kernel
theorem dX0_total_58 : decode cX0_total 58 = .ok (.iconst 1, 1) := by decide +kernel
theorem dX0_total_59 : decode cX0_total 59 = .ok (.putfield 41, 3) := by decide +kernel
theorem dX0_total_62 : decode cX0_total 62 = .ok (.aload_n 0, 1) := by decide +kernel
theorem dX0_total_63 : decode cX0_total 63 = .ok (.getfield 88, 3) := by decide +kernel
theorem dX0_total_66 : decode cX0_total 66 = .ok (.lreturn, 1) := by decide +kernel
theorem dX0_waysOf_0 : decode cX0_waysOf 0 = .ok (.iload_n 1, 1) := by decide +kernel
theorem dX0_waysOf_1 : decode cX0_waysOf 1 = .ok (.iconst 1, 1) := by decide +kernel
theorem dX0_waysOf_2 : decode cX0_waysOf 2 = .ok (.if_icmp .lt 39, 3) := by decide +kernel
theorem dX0_waysOf_5 : decode cX0_waysOf 5 = .ok (.iload_n 1, 1) := by decide +kernel
theorem dX0_waysOf_6 : decode cX0_waysOf 6 = .ok (.iconst 2, 1) := by decide +kernel
theorem dX0_waysOf_7 : decode cX0_waysOf 7 = .ok (.aload_n 0, 1) := by decide +kernel
theorem dX0_waysOf_8 : decode cX0_waysOf 8 = .ok (.getfield 25, 3) := by decide +kernel
theorem dX0_waysOf_11 : decode cX0_waysOf 11 = .ok (.imul, 1) := by decide +kernel
theorem dX0_waysOf_12 : decode cX0_waysOf 12 = .ok (.if_icmp .ge 29, 3) := by decide +kernel
theorem dX0_waysOf_15 : decode cX0_waysOf 15 = .ok (.iload_n 2, 1) := by decide +kernel
theorem dX0_waysOf_16 : decode cX0_waysOf 16 = .ok (.aload_n 0, 1) := by decide +kernel
theorem dX0_waysOf_17 : decode cX0_waysOf 17 = .ok (.getfield 60, 3) := by decide +kernel
theorem dX0_waysOf_20 : decode cX0_waysOf 20 = .ok (.iconst (-1), 1) := by decide +kernel
theorem dX0_waysOf_21 : decode cX0_waysOf 21 = .ok (.ixor, 1) := by decide +kernel
theorem dX0_waysOf_22 : decode cX0_waysOf 22 = .ok (.iand, 1) := by decide +kernel
theorem dX0_waysOf_23 : decode cX0_waysOf 23 = .ok (.ifCond .ne 18, 3) := by decide +kernel
theorem dX0_waysOf_26 : decode cX0_waysOf 26 = .ok (.iload_n 2, 1) := by decide +kernel
theorem dX0_waysOf_27 : decode cX0_waysOf 27 = .ok (.aload_n 0, 1) := by decide +kernel
theorem dX0_waysOf_28 : decode cX0_waysOf 28 = .ok (.getfield 66, 3) := by decide +kernel
theorem dX0_waysOf_31 : decode cX0_waysOf 31 = .ok (.iand, 1) := by decide +kernel
theorem dX0_waysOf_32 : decode cX0_waysOf 32 = .ok (.aload_n 0, 1) := by decide +kernel
theorem dX0_waysOf_33 : decode cX0_waysOf 33 = .ok (.getfield 32, 3) := by decide +kernel
theorem dX0_waysOf_36 : decode cX0_waysOf 36 = .ok (.iload_n 1, 1) := by decide +kernel
theorem dX0_waysOf_37 : decode cX0_waysOf 37 = .ok (.iaload, 1) := by decide +kernel
theorem dX0_waysOf_38 : decode cX0_waysOf 38 = .ok (.if_icmp .eq 5, 3) := by decide +kernel
theorem dX0_waysOf_41 : decode cX0_waysOf 41 = .ok (.lconst 0, 1) := by decide +kernel
theorem dX0_waysOf_42 : decode cX0_waysOf 42 = .ok (.lreturn, 1) := by decide +kernel
theorem dX0_waysOf_43 : decode cX0_waysOf 43 = .ok (.iload_n 1, 1) := by decide +kernel
theorem dX0_waysOf_44 : decode cX0_waysOf 44 = .ok (.aload_n 0, 1) := by decide +kernel
theorem dX0_waysOf_45 : decode cX0_waysOf 45 = .ok (.getfield 25, 3) := by decide +kernel
theorem dX0_waysOf_48 : decode cX0_waysOf 48 = .ok (.if_icmp .lt 17, 3) := by decide +kernel
theorem dX0_waysOf_51 : decode cX0_waysOf 51 = .ok (.iload_n 2, 1) := by decide +kernel
theorem dX0_waysOf_52 : decode cX0_waysOf 52 = .ok (.invokestatic 92, 3) := by decide +kernel
theorem dX0_waysOf_55 : decode cX0_waysOf 55 = .ok (.iconst 1, 1) := by decide +kernel
theorem dX0_waysOf_56 : decode cX0_waysOf 56 = .ok (.if_icmp .gt 7, 3) := by decide +kernel
theorem dX0_waysOf_59 : decode cX0_waysOf 59 = .ok (.lconst 1, 1) := by decide +kernel
theorem dX0_waysOf_60 : decode cX0_waysOf 60 = .ok (.goto 4, 3) := by decide +kernel
theorem dX0_waysOf_63 : decode cX0_waysOf 63 = .ok (.lconst 0, 1) := by decide +kernel
theorem dX0_waysOf_64 : decode cX0_waysOf 64 = .ok (.lreturn, 1) := by decide +kernel
theorem dX0_waysOf_65 : decode cX0_waysOf 65 = .ok (.aload_n 0, 1) := by decide +kernel
theorem dX0_waysOf_66 : decode cX0_waysOf 66 = .ok (.getfield 38, 3) := by decide +kernel
theorem dX0_waysOf_69 : decode cX0_waysOf 69 = .ok (.iload_n 1, 1) := by decide +kernel
theorem dX0_waysOf_70 : decode cX0_waysOf 70 = .ok (.aaload, 1) := by decide +kernel
theorem dX0_waysOf_71 : decode cX0_waysOf 71 = .ok (.iload_n 2, 1) := by decide +kernel
theorem dX0_waysOf_72 : decode cX0_waysOf 72 = .ok (.sipush 1023, 3) := by decide +kernel
theorem dX0_waysOf_75 : decode cX0_waysOf 75 = .ok (.iand, 1) := by decide +kernel
theorem dX0_waysOf_76 : decode cX0_waysOf 76 = .ok (.laload, 1) := by decide +kernel
theorem dX0_waysOf_77 : decode cX0_waysOf 77 = .ok (.lreturn, 1) := by decide +kernel
theorem dX0_fillRow_0 : decode cX0_fillRow 0 = .ok (.iload_n 1, 1) := by decide +kernel
theorem dX0_fillRow_1 : decode cX0_fillRow 1 = .ok (.iconst 1, 1) := by decide +kernel
theorem dX0_fillRow_2 : decode cX0_fillRow 2 = .ok (.if_icmp .lt 11, 3) := by decide +kernel
theorem dX0_fillRow_5 : decode cX0_fillRow 5 = .ok (.iload_n 1, 1) := by decide +kernel
theorem dX0_fillRow_6 : decode cX0_fillRow 6 = .ok (.aload_n 0, 1) := by decide +kernel
theorem dX0_fillRow_7 : decode cX0_fillRow 7 = .ok (.getfield 25, 3) := by decide +kernel
theorem dX0_fillRow_10 : decode cX0_fillRow 10 = .ok (.if_icmp .lt 4, 3) := by decide +kernel
theorem dX0_fillRow_13 : decode cX0_fillRow 13 = .ok (.return_, 1) := by decide +kernel
theorem dX0_fillRow_14 : decode cX0_fillRow 14 = .ok (.aload_n 0, 1) := by decide +kernel
theorem dX0_fillRow_15 : decode cX0_fillRow 15 = .ok (.getfield 38, 3) := by decide +kernel
theorem dX0_fillRow_18 : decode cX0_fillRow 18 = .ok (.iload_n 1, 1) := by decide +kernel
theorem dX0_fillRow_19 : decode cX0_fillRow 19 = .ok (.aaload, 1) := by decide +kernel
theorem dX0_fillRow_20 : decode cX0_fillRow 20 = .ok (.astore_n 3, 1) := by decide +kernel
theorem dX0_fillRow_21 : decode cX0_fillRow 21 = .ok (.aload_n 0, 1) := by decide +kernel
theorem dX0_fillRow_22 : decode cX0_fillRow 22 = .ok (.iload_n 1, 1) := by decide +kernel
theorem dX0_fillRow_23 : decode cX0_fillRow 23 = .ok (.iload_n 2, 1) := by decide +kernel
theorem dX0_fillRow_24 : decode cX0_fillRow 24 = .ok (.invokevirtual 97, 3) := by decide +kernel
theorem dX0_fillRow_27 : decode cX0_fillRow 27 = .ok (.istore 4, 2) := by decide +kernel
theorem dX0_fillRow_29 : decode cX0_fillRow 29 = .ok (.iload 4, 2) := by decide +kernel
theorem dX0_fillRow_31 : decode cX0_fillRow 31 = .ok (.iconst (-1), 1) := by decide +kernel
theorem dX0_fillRow_32 : decode cX0_fillRow 32 = .ok (.if_icmp .eq 19, 3) := by decide +kernel
theorem dX0_fillRow_35 : decode cX0_fillRow 35 = .ok (.aload_n 0, 1) := by decide +kernel
theorem dX0_fillRow_36 : decode cX0_fillRow 36 = .ok (.getfield 38, 3) := by decide +kernel
theorem dX0_fillRow_39 : decode cX0_fillRow 39 = .ok (.iload 4, 2) := by decide +kernel
theorem dX0_fillRow_41 : decode cX0_fillRow 41 = .ok (.aaload, 1) := by decide +kernel
theorem dX0_fillRow_42 : decode cX0_fillRow 42 = .ok (.iconst 0, 1) := by decide +kernel
theorem dX0_fillRow_43 : decode cX0_fillRow 43 = .ok (.aload_n 3, 1) := by decide +kernel
theorem dX0_fillRow_44 : decode cX0_fillRow 44 = .ok (.iconst 0, 1) := by decide +kernel
theorem dX0_fillRow_45 : decode cX0_fillRow 45 = .ok (.aload_n 3, 1) := by decide +kernel
theorem dX0_fillRow_46 : decode cX0_fillRow 46 = .ok (.arraylength, 1) := by decide +kernel
theorem dX0_fillRow_47 : decode cX0_fillRow 47 = .ok (.invokestatic 101, 3) := by decide +kernel
theorem dX0_fillRow_50 : decode cX0_fillRow 50 = .ok (.return_, 1) := by decide +kernel
theorem dX0_fillRow_51 : decode cX0_fillRow 51 = .ok (.aload_n 0, 1) := by decide +kernel
theorem dX0_fillRow_52 : decode cX0_fillRow 52 = .ok (.getfield 60, 3) := by decide +kernel
theorem dX0_fillRow_55 : decode cX0_fillRow 55 = .ok (.aload_n 0, 1) := by decide +kernel
theorem dX0_fillRow_56 : decode cX0_fillRow 56 = .ok (.getfield 66, 3) := by decide +kernel
theorem dX0_fillRow_59 : decode cX0_fillRow 59 = .ok (.iconst (-1), 1) := by decide +kernel
theorem dX0_fillRow_60 : decode cX0_fillRow 60 = .ok (.ixor, 1) := by decide +kernel
theorem dX0_fillRow_61 : decode cX0_fillRow 61 = .ok (.iand, 1) := by decide +kernel
theorem dX0_fillRow_62 : decode cX0_fillRow 62 = .ok (.istore 5, 2) := by decide +kernel
theorem dX0_fillRow_64 : decode cX0_fillRow 64 = .ok (.iconst 1, 1) := by decide +kernel
theorem dX0_fillRow_65 : decode cX0_fillRow 65 = .ok (.iload 5, 2) := by decide +kernel
theorem dX0_fillRow_67 : decode cX0_fillRow 67 = .ok (.invokestatic 92, 3) := by decide +kernel
theorem dX0_fillRow_70 : decode cX0_fillRow 70 = .ok (.ishl, 1) := by decide +kernel
theorem dX0_fillRow_71 : decode cX0_fillRow 71 = .ok (.istore 6, 2) := by decide +kernel
theorem dX0_fillRow_73 : decode cX0_fillRow 73 = .ok (.iconst 0, 1) := by decide +kernel
theorem dX0_fillRow_74 : decode cX0_fillRow 74 = .ok (.istore 7, 2) := by decide +kernel
theorem dX0_fillRow_76 : decode cX0_fillRow 76 = .ok (.iconst 0, 1) := by decide +kernel
theorem dX0_fillRow_77 : decode cX0_fillRow 77 = .ok (.istore 8, 2) := by decide +kernel
theorem dX0_fillRow_79 : decode cX0_fillRow 79 = .ok (.iload 8, 2) := by decide +kernel
theorem dX0_fillRow_81 : decode cX0_fillRow 81 = .ok (.iload 6, 2) := by decide +kernel
theorem dX0_fillRow_83 : decode cX0_fillRow 83 = .ok (.if_icmp .ge 80, 3) := by decide +kernel
theorem dX0_fillRow_86 : decode cX0_fillRow 86 = .ok (.aload_n 0, 1) := by decide +kernel
theorem dX0_fillRow_87 : decode cX0_fillRow 87 = .ok (.getfield 32, 3) := by decide +kernel
theorem dX0_fillRow_90 : decode cX0_fillRow 90 = .ok (.iload_n 1, 1) := by decide +kernel
theorem dX0_fillRow_91 : decode cX0_fillRow 91 = .ok (.iaload, 1) := by decide +kernel
theorem dX0_fillRow_92 : decode cX0_fillRow 92 = .ok (.iload 7, 2) := by decide +kernel
theorem dX0_fillRow_94 : decode cX0_fillRow 94 = .ok (.ior, 1) := by decide +kernel
theorem dX0_fillRow_95 : decode cX0_fillRow 95 = .ok (.istore 9, 2) := by decide +kernel
theorem dX0_fillRow_97 : decode cX0_fillRow 97 = .ok (.lconst 0, 1) := by decide +kernel
theorem dX0_fillRow_98 : decode cX0_fillRow 98 = .ok (.lstore 10, 2) := by decide +kernel
theorem dX0_fillRow_100 : decode cX0_fillRow 100 = .ok (.aload_n 0, 1) := by decide +kernel
theorem dX0_fillRow_101 : decode cX0_fillRow 101 = .ok (.getfield 12, 3) := by decide +kernel
theorem dX0_fillRow_104 : decode cX0_fillRow 104 = .ok (.iload 9, 2) := by decide +kernel
theorem dX0_fillRow_106 : decode cX0_fillRow 106 = .ok (.iload_n 2, 1) := by decide +kernel
theorem dX0_fillRow_107 : decode cX0_fillRow 107 = .ok (.invokevirtual 107, 3) := by decide +kernel
theorem dX0_fillRow_110 : decode cX0_fillRow 110 = .ok (.ifCond .eq 27, 3) := by decide +kernel
theorem dX0_fillRow_113 : decode cX0_fillRow 113 = .ok (.iload_n 2, 1) := by decide +kernel
theorem dX0_fillRow_114 : decode cX0_fillRow 114 = .ok (.iconst 1, 1) := by decide +kernel
theorem dX0_fillRow_115 : decode cX0_fillRow 115 = .ok (.if_icmp .ne 13, 3) := by decide +kernel
theorem dX0_fillRow_118 : decode cX0_fillRow 118 = .ok (.aload_n 0, 1) := by decide +kernel
theorem dX0_fillRow_119 : decode cX0_fillRow 119 = .ok (.iload_n 1, 1) := by decide +kernel
theorem dX0_fillRow_120 : decode cX0_fillRow 120 = .ok (.iload 9, 2) := by decide +kernel
theorem dX0_fillRow_122 : decode cX0_fillRow 122 = .ok (.invokevirtual 110, 3) := by decide +kernel
theorem dX0_fillRow_125 : decode cX0_fillRow 125 = .ok (.goto 10, 3) := by decide +kernel
theorem dX0_fillRow_128 : decode cX0_fillRow 128 = .ok (.aload_n 0, 1) := by decide +kernel
theorem dX0_fillRow_129 : decode cX0_fillRow 129 = .ok (.iload_n 1, 1) := by decide +kernel
theorem dX0_fillRow_130 : decode cX0_fillRow 130 = .ok (.iload 7, 2) := by decide +kernel
theorem dX0_fillRow_132 : decode cX0_fillRow 132 = .ok (.invokevirtual 113, 3) := by decide +kernel
theorem dX0_fillRow_135 : decode cX0_fillRow 135 = .ok (.lstore 10, 2) := by decide +kernel
theorem dX0_fillRow_137 : decode cX0_fillRow 137 = .ok (.aload_n 3, 1) := by decide +kernel
theorem dX0_fillRow_138 : decode cX0_fillRow 138 = .ok (.iload 9, 2) := by decide +kernel
theorem dX0_fillRow_140 : decode cX0_fillRow 140 = .ok (.sipush 1023, 3) := by decide +kernel
theorem dX0_fillRow_143 : decode cX0_fillRow 143 = .ok (.iand, 1) := by decide +kernel
theorem dX0_fillRow_144 : decode cX0_fillRow 144 = .ok (.lload 10, 2) := by decide +kernel
theorem dX0_fillRow_146 : decode cX0_fillRow 146 = .ok (.lastore, 1) := by decide +kernel
theorem dX0_fillRow_147 : decode cX0_fillRow 147 = .ok (.iload 7, 2) := by decide +kernel
theorem dX0_fillRow_149 : decode cX0_fillRow 149 = .ok (.iload 5, 2) := by decide +kernel
theorem dX0_fillRow_151 : decode cX0_fillRow 151 = .ok (.isub, 1) := by decide +kernel
theorem dX0_fillRow_152 : decode cX0_fillRow 152 = .ok (.iload 5, 2) := by decide +kernel
theorem dX0_fillRow_154 : decode cX0_fillRow 154 = .ok (.iand, 1) := by decide +kernel
theorem dX0_fillRow_155 : decode cX0_fillRow 155 = .ok (.istore 7, 2) := by decide +kernel
theorem dX0_fillRow_157 : decode cX0_fillRow 157 = .ok (.iinc 8 1, 3) := by decide +kernel
theorem dX0_fillRow_160 : decode cX0_fillRow 160 = .ok (.goto (-81), 3) := by decide +kernel
theorem dX0_fillRow_163 : decode cX0_fillRow 163 = .ok (.return_, 1) := by decide +kernel
theorem dX0_twinOf_0 : decode cX0_twinOf 0 = .ok (.aload_n 0, 1) := by decide +kernel
theorem dX0_twinOf_1 : decode cX0_twinOf 1 = .ok (.getfield 25, 3) := by decide +kernel
theorem dX0_twinOf_4 : decode cX0_twinOf 4 = .ok (.iload_n 2, 1) := by decide +kernel
theorem dX0_twinOf_5 : decode cX0_twinOf 5 = .ok (.ishr, 1) := by decide +kernel
theorem dX0_twinOf_6 : decode cX0_twinOf 6 = .ok (.istore_n 3, 1) := by decide +kernel
theorem dX0_twinOf_7 : decode cX0_twinOf 7 = .ok (.aload_n 0, 1) := by decide +kernel
theorem dX0_twinOf_8 : decode cX0_twinOf 8 = .ok (.getfield 32, 3) := by decide +kernel
theorem dX0_twinOf_11 : decode cX0_twinOf 11 = .ok (.iload_n 1, 1) := by decide +kernel
theorem dX0_twinOf_12 : decode cX0_twinOf 12 = .ok (.iaload, 1) := by decide +kernel
theorem dX0_twinOf_13 : decode cX0_twinOf 13 = .ok (.ifCond .ne 25, 3) := by decide +kernel
theorem dX0_twinOf_16 : decode cX0_twinOf 16 = .ok (.iload_n 3, 1) := by decide +kernel
theorem dX0_twinOf_17 : decode cX0_twinOf 17 = .ok (.iload_n 1, 1) := by decide +kernel
theorem dX0_twinOf_18 : decode cX0_twinOf 18 = .ok (.if_icmp .ge 20, 3) := by decide +kernel
theorem dX0_twinOf_21 : decode cX0_twinOf 21 = .ok (.aload_n 0, 1) := by decide +kernel
theorem dX0_twinOf_22 : decode cX0_twinOf 22 = .ok (.getfield 32, 3) := by decide +kernel
theorem dX0_twinOf_25 : decode cX0_twinOf 25 = .ok (.iload_n 3, 1) := by decide +kernel
theorem dX0_twinOf_26 : decode cX0_twinOf 26 = .ok (.iaload, 1) := by decide +kernel
theorem dX0_twinOf_27 : decode cX0_twinOf 27 = .ok (.ifCond .ne 5, 3) := by decide +kernel
theorem dX0_twinOf_30 : decode cX0_twinOf 30 = .ok (.iload_n 3, 1) := by decide +kernel
theorem dX0_twinOf_31 : decode cX0_twinOf 31 = .ok (.ireturn, 1) := by decide +kernel
theorem dX0_twinOf_32 : decode cX0_twinOf 32 = .ok (.iinc 3 1, 3) := by decide +kernel
theorem dX0_twinOf_35 : decode cX0_twinOf 35 = .ok (.goto (-28), 3) := by decide +kernel
theorem dX0_twinOf_38 : decode cX0_twinOf 38 = .ok (.iconst (-1), 1) := by decide +kernel
theorem dX0_twinOf_39 : decode cX0_twinOf 39 = .ok (.ireturn, 1) := by decide +kernel
theorem dX0_pairWays_0 : decode cX0_pairWays 0 = .ok (.iconst 1, 1) := by decide +kernel
theorem dX0_pairWays_1 : decode cX0_pairWays 1 = .ok (.iload_n 2, 1) := by decide +kernel
theorem dX0_pairWays_2 : decode cX0_pairWays 2 = .ok (.invokestatic 92, 3) := by decide +kernel
theorem dX0_pairWays_5 : decode cX0_pairWays 5 = .ok (.ishl, 1) := by decide +kernel
theorem dX0_pairWays_6 : decode cX0_pairWays 6 = .ok (.istore_n 3, 1) := by decide +kernel
theorem dX0_pairWays_7 : decode cX0_pairWays 7 = .ok (.iconst 0, 1) := by decide +kernel
theorem dX0_pairWays_8 : decode cX0_pairWays 8 = .ok (.istore 4, 2) := by decide +kernel
theorem dX0_pairWays_10 : decode cX0_pairWays 10 = .ok (.lconst 0, 1) := by decide +kernel
theorem dX0_pairWays_11 : decode cX0_pairWays 11 = .ok (.lstore 5, 2) := by decide +kernel
theorem dX0_pairWays_13 : decode cX0_pairWays 13 = .ok (.iconst 0, 1) := by decide +kernel
theorem dX0_pairWays_14 : decode cX0_pairWays 14 = .ok (.istore 7, 2) := by decide +kernel
theorem dX0_pairWays_16 : decode cX0_pairWays 16 = .ok (.iload 7, 2) := by decide +kernel
theorem dX0_pairWays_18 : decode cX0_pairWays 18 = .ok (.iload_n 3, 1) := by decide +kernel
theorem dX0_pairWays_19 : decode cX0_pairWays 19 = .ok (.if_icmp .ge 45, 3) := by decide +kernel
theorem dX0_pairWays_22 : decode cX0_pairWays 22 = .ok (.lload 5, 2) := by decide +kernel
theorem dX0_pairWays_24 : decode cX0_pairWays 24 = .ok (.aload_n 0, 1) := by decide +kernel
theorem dX0_pairWays_25 : decode cX0_pairWays 25 = .ok (.iconst 2, 1) := by decide +kernel
theorem dX0_pairWays_26 : decode cX0_pairWays 26 = .ok (.iload_n 1, 1) := by decide +kernel
theorem dX0_pairWays_27 : decode cX0_pairWays 27 = .ok (.imul, 1) := by decide +kernel
theorem dX0_pairWays_28 : decode cX0_pairWays 28 = .ok (.iload 4, 2) := by decide +kernel
theorem dX0_pairWays_30 : decode cX0_pairWays 30 = .ok (.invokevirtual 84, 3) := by decide +kernel
theorem dX0_pairWays_33 : decode cX0_pairWays 33 = .ok (.aload_n 0, 1) := by decide +kernel
theorem dX0_pairWays_34 : decode cX0_pairWays 34 = .ok (.iconst 2, 1) := by decide +kernel
theorem dX0_pairWays_35 : decode cX0_pairWays 35 = .ok (.iload_n 1, 1) := by decide +kernel
theorem dX0_pairWays_36 : decode cX0_pairWays 36 = .ok (.imul, 1) := by decide +kernel
theorem dX0_pairWays_37 : decode cX0_pairWays 37 = .ok (.iconst 1, 1) := by decide +kernel
theorem dX0_pairWays_38 : decode cX0_pairWays 38 = .ok (.iadd, 1) := by decide +kernel
theorem dX0_pairWays_39 : decode cX0_pairWays 39 = .ok (.iload_n 2, 1) := by decide +kernel
theorem dX0_pairWays_40 : decode cX0_pairWays 40 = .ok (.iload 4, 2) := by decide +kernel
theorem dX0_pairWays_42 : decode cX0_pairWays 42 = .ok (.ixor, 1) := by decide +kernel
theorem dX0_pairWays_43 : decode cX0_pairWays 43 = .ok (.invokevirtual 84, 3) := by decide +kernel
theorem dX0_pairWays_46 : decode cX0_pairWays 46 = .ok (.lmul, 1) := by decide +kernel
theorem dX0_pairWays_47 : decode cX0_pairWays 47 = .ok (.ladd, 1) := by decide +kernel
theorem dX0_pairWays_48 : decode cX0_pairWays 48 = .ok (.lstore 5, 2) := by decide +kernel
theorem dX0_pairWays_50 : decode cX0_pairWays 50 = .ok (.iload 4, 2) := by decide +kernel
theorem dX0_pairWays_52 : decode cX0_pairWays 52 = .ok (.iload_n 2, 1) := by decide +kernel
theorem dX0_pairWays_53 : decode cX0_pairWays 53 = .ok (.isub, 1) := by decide +kernel
theorem dX0_pairWays_54 : decode cX0_pairWays 54 = .ok (.iload_n 2, 1) := by decide +kernel
theorem dX0_pairWays_55 : decode cX0_pairWays 55 = .ok (.iand, 1) := by decide +kernel
theorem dX0_pairWays_56 : decode cX0_pairWays 56 = .ok (.istore 4, 2) := by decide +kernel
theorem dX0_pairWays_58 : decode cX0_pairWays 58 = .ok (.iinc 7 1, 3) := by decide +kernel
theorem dX0_pairWays_61 : decode cX0_pairWays 61 = .ok (.goto (-45), 3) := by decide +kernel
theorem dX0_pairWays_64 : decode cX0_pairWays 64 = .ok (.lload 5, 2) := by decide +kernel
theorem dX0_pairWays_66 : decode cX0_pairWays 66 = .ok (.lreturn, 1) := by decide +kernel
theorem dX0_halvesWays_0 : decode cX0_halvesWays 0 = .ok (.iload_n 1, 1) := by decide +kernel
theorem dX0_halvesWays_1 : decode cX0_halvesWays 1 = .ok (.iconst 1, 1) := by decide +kernel
theorem dX0_halvesWays_2 : decode cX0_halvesWays 2 = .ok (.if_icmp .lt 16, 3) := by decide +kernel
theorem dX0_halvesWays_5 : decode cX0_halvesWays 5 = .ok (.iconst 2, 1) := by decide +kernel
theorem dX0_halvesWays_6 : decode cX0_halvesWays 6 = .ok (.iload_n 1, 1) := by decide +kernel
theorem dX0_halvesWays_7 : decode cX0_halvesWays 7 = .ok (.imul, 1) := by decide +kernel
theorem dX0_halvesWays_8 : decode cX0_halvesWays 8 = .ok (.iconst 1, 1) := by decide +kernel
theorem dX0_halvesWays_9 : decode cX0_halvesWays 9 = .ok (.iadd, 1) := by decide +kernel
theorem dX0_halvesWays_10 : decode cX0_halvesWays 10 = .ok (.aload_n 0, 1) := by decide +kernel
theorem dX0_halvesWays_11 : decode cX0_halvesWays 11 = .ok (.getfield 38, 3) := by decide +kernel
theorem dX0_halvesWays_14 : decode cX0_halvesWays 14 = .ok (.arraylength, 1) := by decide +kernel
theorem dX0_halvesWays_15 : decode cX0_halvesWays 15 = .ok (.if_icmp .lt 5, 3) := by decide +kernel
theorem dX0_halvesWays_18 : decode cX0_halvesWays 18 = .ok (.lconst 0, 1) := by decide +kernel
theorem dX0_halvesWays_19 : decode cX0_halvesWays 19 = .ok (.lreturn, 1) := by decide +kernel
theorem dX0_halvesWays_20 : decode cX0_halvesWays 20 = .ok (.aload_n 0, 1) := by decide +kernel
theorem dX0_halvesWays_21 : decode cX0_halvesWays 21 = .ok (.getfield 38, 3) := by decide +kernel
theorem dX0_halvesWays_24 : decode cX0_halvesWays 24 = .ok (.iconst 2, 1) := by decide +kernel
theorem dX0_halvesWays_25 : decode cX0_halvesWays 25 = .ok (.iload_n 1, 1) := by decide +kernel
theorem dX0_halvesWays_26 : decode cX0_halvesWays 26 = .ok (.imul, 1) := by decide +kernel
theorem dX0_halvesWays_27 : decode cX0_halvesWays 27 = .ok (.aaload, 1) := by decide +kernel
theorem dX0_halvesWays_28 : decode cX0_halvesWays 28 = .ok (.astore_n 3, 1) := by decide +kernel
theorem dX0_halvesWays_29 : decode cX0_halvesWays 29 = .ok (.aload_n 0, 1) := by decide +kernel
theorem dX0_halvesWays_30 : decode cX0_halvesWays 30 = .ok (.getfield 38, 3) := by decide +kernel
theorem dX0_halvesWays_33 : decode cX0_halvesWays 33 = .ok (.iconst 2, 1) := by decide +kernel
theorem dX0_halvesWays_34 : decode cX0_halvesWays 34 = .ok (.iload_n 1, 1) := by decide +kernel
theorem dX0_halvesWays_35 : decode cX0_halvesWays 35 = .ok (.imul, 1) := by decide +kernel
theorem dX0_halvesWays_36 : decode cX0_halvesWays 36 = .ok (.iconst 1, 1) := by decide +kernel
theorem dX0_halvesWays_37 : decode cX0_halvesWays 37 = .ok (.iadd, 1) := by decide +kernel
theorem dX0_halvesWays_38 : decode cX0_halvesWays 38 = .ok (.aaload, 1) := by decide +kernel
theorem dX0_halvesWays_39 : decode cX0_halvesWays 39 = .ok (.astore 4, 2) := by decide +kernel
theorem dX0_halvesWays_41 : decode cX0_halvesWays 41 = .ok (.aload_n 0, 1) := by decide +kernel
theorem dX0_halvesWays_42 : decode cX0_halvesWays 42 = .ok (.getfield 32, 3) := by decide +kernel
theorem dX0_halvesWays_45 : decode cX0_halvesWays 45 = .ok (.iconst 2, 1) := by decide +kernel
theorem dX0_halvesWays_46 : decode cX0_halvesWays 46 = .ok (.iload_n 1, 1) := by decide +kernel
theorem dX0_halvesWays_47 : decode cX0_halvesWays 47 = .ok (.imul, 1) := by decide +kernel
theorem dX0_halvesWays_48 : decode cX0_halvesWays 48 = .ok (.iaload, 1) := by decide +kernel
theorem dX0_halvesWays_49 : decode cX0_halvesWays 49 = .ok (.istore 5, 2) := by decide +kernel
theorem dX0_halvesWays_51 : decode cX0_halvesWays 51 = .ok (.aload_n 0, 1) := by decide +kernel
theorem dX0_halvesWays_52 : decode cX0_halvesWays 52 = .ok (.getfield 32, 3) := by decide +kernel
theorem dX0_halvesWays_55 : decode cX0_halvesWays 55 = .ok (.iconst 2, 1) := by decide +kernel
theorem dX0_halvesWays_56 : decode cX0_halvesWays 56 = .ok (.iload_n 1, 1) := by decide +kernel
theorem dX0_halvesWays_57 : decode cX0_halvesWays 57 = .ok (.imul, 1) := by decide +kernel
theorem dX0_halvesWays_58 : decode cX0_halvesWays 58 = .ok (.iconst 1, 1) := by decide +kernel
theorem dX0_halvesWays_59 : decode cX0_halvesWays 59 = .ok (.iadd, 1) := by decide +kernel
theorem dX0_halvesWays_60 : decode cX0_halvesWays 60 = .ok (.iaload, 1) := by decide +kernel
theorem dX0_halvesWays_61 : decode cX0_halvesWays 61 = .ok (.istore 6, 2) := by decide +kernel
theorem dX0_halvesWays_63 : decode cX0_halvesWays 63 = .ok (.iconst 1, 1) := by decide +kernel
theorem dX0_halvesWays_64 : decode cX0_halvesWays 64 = .ok (.iload_n 2, 1) := by decide +kernel
theorem dX0_halvesWays_65 : decode cX0_halvesWays 65 = .ok (.invokestatic 92, 3) := by decide +kernel
theorem dX0_halvesWays_68 : decode cX0_halvesWays 68 = .ok (.ishl, 1) := by decide +kernel
theorem dX0_halvesWays_69 : decode cX0_halvesWays 69 = .ok (.istore 7, 2) := by decide +kernel
theorem dX0_halvesWays_71 : decode cX0_halvesWays 71 = .ok (.iconst 0, 1) := by decide +kernel
theorem dX0_halvesWays_72 : decode cX0_halvesWays 72 = .ok (.istore 8, 2) := by decide +kernel
theorem dX0_halvesWays_74 : decode cX0_halvesWays 74 = .ok (.lconst 0, 1) := by decide +kernel
theorem dX0_halvesWays_75 : decode cX0_halvesWays 75 = .ok (.lstore 9, 2) := by decide +kernel
theorem dX0_halvesWays_77 : decode cX0_halvesWays 77 = .ok (.iconst 0, 1) := by decide +kernel
theorem dX0_halvesWays_78 : decode cX0_halvesWays 78 = .ok (.istore 11, 2) := by decide +kernel
theorem dX0_halvesWays_80 : decode cX0_halvesWays 80 = .ok (.iload 11, 2) := by decide +kernel
theorem dX0_halvesWays_82 : decode cX0_halvesWays 82 = .ok (.iload 7, 2) := by decide +kernel
theorem dX0_halvesWays_84 : decode cX0_halvesWays 84 = .ok (.if_icmp .ge 59, 3) := by decide +kernel
theorem dX0_halvesWays_87 : decode cX0_halvesWays 87 = .ok (.aload_n 3, 1) := by decide +kernel
theorem dX0_halvesWays_88 : decode cX0_halvesWays 88 = .ok (.iload 5, 2) := by decide +kernel
theorem dX0_halvesWays_90 : decode cX0_halvesWays 90 = .ok (.iload 8, 2) := by decide +kernel
theorem dX0_halvesWays_92 : decode cX0_halvesWays 92 = .ok (.ior, 1) := by decide +kernel
theorem dX0_halvesWays_93 : decode cX0_halvesWays 93 = .ok (.sipush 1023, 3) := by decide +kernel
theorem dX0_halvesWays_96 : decode cX0_halvesWays 96 = .ok (.iand, 1) := by decide +kernel
theorem dX0_halvesWays_97 : decode cX0_halvesWays 97 = .ok (.laload, 1) := by decide +kernel
theorem dX0_halvesWays_98 : decode cX0_halvesWays 98 = .ok (.lstore 12, 2) := by decide +kernel
theorem dX0_halvesWays_100 : decode cX0_halvesWays 100 = .ok (.lload 12, 2) := by decide +kernel
theorem dX0_halvesWays_102 : decode cX0_halvesWays 102 = .ok (.lconst 0, 1) := by decide +kernel
theorem dX0_halvesWays_103 : decode cX0_halvesWays 103 = .ok (.lcmp, 1) := by decide +kernel
theorem dX0_halvesWays_104 : decode cX0_halvesWays 104 = .ok (.ifCond .eq 25, 3) := by decide +kernel
theorem dX0_halvesWays_107 : decode cX0_halvesWays 107 = .ok (.lload 9, 2) := by decide +kernel
theorem dX0_halvesWays_109 : decode cX0_halvesWays 109 = .ok (.lload 12, 2) := by decide +kernel
theorem dX0_halvesWays_111 : decode cX0_halvesWays 111 = .ok (.aload 4, 2) := by decide +kernel
theorem dX0_halvesWays_113 : decode cX0_halvesWays 113 = .ok (.iload 6, 2) := by decide +kernel
theorem dX0_halvesWays_115 : decode cX0_halvesWays 115 = .ok (.iload_n 2, 1) := by decide +kernel
theorem dX0_halvesWays_116 : decode cX0_halvesWays 116 = .ok (.iload 8, 2) := by decide +kernel
theorem dX0_halvesWays_118 : decode cX0_halvesWays 118 = .ok (.ixor, 1) := by decide +kernel
theorem dX0_halvesWays_119 : decode cX0_halvesWays 119 = .ok (.ior, 1) := by decide +kernel
theorem dX0_halvesWays_120 : decode cX0_halvesWays 120 = .ok (.sipush 1023, 3) := by decide +kernel
theorem dX0_halvesWays_123 : decode cX0_halvesWays 123 = .ok (.iand, 1) := by decide +kernel
theorem dX0_halvesWays_124 : decode cX0_halvesWays 124 = .ok (.laload, 1) := by decide +kernel
theorem dX0_halvesWays_125 : decode cX0_halvesWays 125 = .ok (.lmul, 1) := by decide +kernel
theorem dX0_halvesWays_126 : decode cX0_halvesWays 126 = .ok (.ladd, 1) := by decide +kernel
theorem dX0_halvesWays_127 : decode cX0_halvesWays 127 = .ok (.lstore 9, 2) := by decide +kernel
theorem dX0_halvesWays_129 : decode cX0_halvesWays 129 = .ok (.iload 8, 2) := by decide +kernel
theorem dX0_halvesWays_131 : decode cX0_halvesWays 131 = .ok (.iload_n 2, 1) := by decide +kernel
theorem dX0_halvesWays_132 : decode cX0_halvesWays 132 = .ok (.isub, 1) := by decide +kernel
theorem dX0_halvesWays_133 : decode cX0_halvesWays 133 = .ok (.iload_n 2, 1) := by decide +kernel
theorem dX0_halvesWays_134 : decode cX0_halvesWays 134 = .ok (.iand, 1) := by decide +kernel
theorem dX0_halvesWays_135 : decode cX0_halvesWays 135 = .ok (.istore 8, 2) := by decide +kernel
theorem dX0_halvesWays_137 : decode cX0_halvesWays 137 = .ok (.iinc 11 1, 3) := by decide +kernel
theorem dX0_halvesWays_140 : decode cX0_halvesWays 140 = .ok (.goto (-60), 3) := by decide +kernel
theorem dX0_halvesWays_143 : decode cX0_halvesWays 143 = .ok (.lload 9, 2) := by decide +kernel
theorem dX0_halvesWays_145 : decode cX0_halvesWays 145 = .ok (.lreturn, 1) := by decide +kernel
theorem dX1_init_0 : decode cX1_init 0 = .ok (.aload_n 0, 1) := by decide +kernel
theorem dX1_init_1 : decode cX1_init 1 = .ok (.invokespecial 3, 3) := by decide +kernel
theorem dX1_init_4 : decode cX1_init 4 = .ok (.aload_n 0, 1) := by decide +kernel
theorem dX1_init_5 : decode cX1_init 5 = .ok (.iconst 2, 1) := by decide +kernel
theorem dX1_init_6 : decode cX1_init 6 = .ok (.putfield 9, 3) := by decide +kernel
theorem dX1_init_9 : decode cX1_init 9 = .ok (.aload_n 0, 1) := by decide +kernel
theorem dX1_init_10 : decode cX1_init 10 = .ok (.iconst 1, 1) := by decide +kernel
theorem dX1_init_11 : decode cX1_init 11 = .ok (.putfield 15, 3) := by decide +kernel
theorem dX1_init_14 : decode cX1_init 14 = .ok (.aload_n 0, 1) := by decide +kernel
theorem dX1_init_15 : decode cX1_init 15 = .ok (.bipush 32, 2) := by decide +kernel
theorem dX1_init_17 : decode cX1_init 17 = .ok (.newarray .int, 2) := by decide +kernel
theorem dX1_init_19 : decode cX1_init 19 = .ok (.putfield 18, 3) := by decide +kernel
theorem dX1_init_22 : decode cX1_init 22 = .ok (.aload_n 0, 1) := by decide +kernel
theorem dX1_init_23 : decode cX1_init 23 = .ok (.bipush 16, 2) := by decide +kernel
theorem dX1_init_25 : decode cX1_init 25 = .ok (.newarray .int, 2) := by decide +kernel
theorem dX1_init_27 : decode cX1_init 27 = .ok (.putfield 22, 3) := by decide +kernel
theorem dX1_init_30 : decode cX1_init 30 = .ok (.return_, 1) := by decide +kernel
theorem dX1_copyFrom_0 : decode cX1_copyFrom 0 = .ok (.aload_n 0, 1) := by decide +kernel
theorem dX1_copyFrom_1 : decode cX1_copyFrom 1 = .ok (.aload_n 1, 1) := by decide +kernel
theorem dX1_copyFrom_2 : decode cX1_copyFrom 2 = .ok (.getfield 25, 3) := by decide +kernel
theorem dX1_copyFrom_5 : decode cX1_copyFrom 5 = .ok (.putfield 25, 3) := by decide +kernel
theorem dX1_copyFrom_8 : decode cX1_copyFrom 8 = .ok (.aload_n 0, 1) := by decide +kernel
theorem dX1_copyFrom_9 : decode cX1_copyFrom 9 = .ok (.aload_n 1, 1) := by decide +kernel
theorem dX1_copyFrom_10 : decode cX1_copyFrom 10 = .ok (.getfield 29, 3) := by decide +kernel
theorem dX1_copyFrom_13 : decode cX1_copyFrom 13 = .ok (.putfield 29, 3) := by decide +kernel
theorem dX1_copyFrom_16 : decode cX1_copyFrom 16 = .ok (.aload_n 0, 1) := by decide +kernel
theorem dX1_copyFrom_17 : decode cX1_copyFrom 17 = .ok (.aload_n 1, 1) := by decide +kernel
theorem dX1_copyFrom_18 : decode cX1_copyFrom 18 = .ok (.getfield 9, 3) := by decide +kernel
theorem dX1_copyFrom_21 : decode cX1_copyFrom 21 = .ok (.putfield 9, 3) := by decide +kernel
theorem dX1_copyFrom_24 : decode cX1_copyFrom 24 = .ok (.aload_n 0, 1) := by decide +kernel
theorem dX1_copyFrom_25 : decode cX1_copyFrom 25 = .ok (.aload_n 1, 1) := by decide +kernel
theorem dX1_copyFrom_26 : decode cX1_copyFrom 26 = .ok (.getfield 15, 3) := by decide +kernel
theorem dX1_copyFrom_29 : decode cX1_copyFrom 29 = .ok (.putfield 15, 3) := by decide +kernel
theorem dX1_copyFrom_32 : decode cX1_copyFrom 32 = .ok (.aload_n 0, 1) := by decide +kernel
theorem dX1_copyFrom_33 : decode cX1_copyFrom 33 = .ok (.aload_n 1, 1) := by decide +kernel
theorem dX1_copyFrom_34 : decode cX1_copyFrom 34 = .ok (.getfield 33, 3) := by decide +kernel
theorem dX1_copyFrom_37 : decode cX1_copyFrom 37 = .ok (.putfield 33, 3) := by decide +kernel
theorem dX1_copyFrom_40 : decode cX1_copyFrom 40 = .ok (.aload_n 1, 1) := by decide +kernel
theorem dX1_copyFrom_41 : decode cX1_copyFrom 41 = .ok (.getfield 18, 3) := by decide +kernel
theorem dX1_copyFrom_44 : decode cX1_copyFrom 44 = .ok (.iconst 0, 1) := by decide +kernel
theorem dX1_copyFrom_45 : decode cX1_copyFrom 45 = .ok (.aload_n 0, 1) := by decide +kernel
theorem dX1_copyFrom_46 : decode cX1_copyFrom 46 = .ok (.getfield 18, 3) := by decide +kernel
theorem dX1_copyFrom_49 : decode cX1_copyFrom 49 = .ok (.iconst 0, 1) := by decide +kernel
theorem dX1_copyFrom_50 : decode cX1_copyFrom 50 = .ok (.aload_n 0, 1) := by decide +kernel
theorem dX1_copyFrom_51 : decode cX1_copyFrom 51 = .ok (.getfield 18, 3) := by decide +kernel
theorem dX1_copyFrom_54 : decode cX1_copyFrom 54 = .ok (.arraylength, 1) := by decide +kernel
theorem dX1_copyFrom_55 : decode cX1_copyFrom 55 = .ok (.invokestatic 36, 3) := by decide +kernel
theorem dX1_copyFrom_58 : decode cX1_copyFrom 58 = .ok (.aload_n 1, 1) := by decide +kernel
theorem dX1_copyFrom_59 : decode cX1_copyFrom 59 = .ok (.getfield 22, 3) := by decide +kernel
theorem dX1_copyFrom_62 : decode cX1_copyFrom 62 = .ok (.iconst 0, 1) := by decide +kernel
theorem dX1_copyFrom_63 : decode cX1_copyFrom 63 = .ok (.aload_n 0, 1) := by decide +kernel
theorem dX1_copyFrom_64 : decode cX1_copyFrom 64 = .ok (.getfield 22, 3) := by decide +kernel
theorem dX1_copyFrom_67 : decode cX1_copyFrom 67 = .ok (.iconst 0, 1) := by decide +kernel
theorem dX1_copyFrom_68 : decode cX1_copyFrom 68 = .ok (.aload_n 0, 1) := by decide +kernel
theorem dX1_copyFrom_69 : decode cX1_copyFrom 69 = .ok (.getfield 22, 3) := by decide +kernel
theorem dX1_copyFrom_72 : decode cX1_copyFrom 72 = .ok (.arraylength, 1) := by decide +kernel
theorem dX1_copyFrom_73 : decode cX1_copyFrom 73 = .ok (.invokestatic 36, 3) := by decide +kernel
theorem dX1_copyFrom_76 : decode cX1_copyFrom 76 = .ok (.return_, 1) := by decide +kernel
theorem dX1_drop_0 : decode cX1_drop 0 = .ok (.aload_n 0, 1) := by decide +kernel
theorem dX1_drop_1 : decode cX1_drop 1 = .ok (.iconst 0, 1) := by decide +kernel
theorem dX1_drop_2 : decode cX1_drop 2 = .ok (.putfield 25, 3) := by decide +kernel
theorem dX1_drop_5 : decode cX1_drop 5 = .ok (.aload_n 0, 1) := by decide +kernel
theorem dX1_drop_6 : decode cX1_drop 6 = .ok (.iconst 0, 1) := by decide +kernel
theorem dX1_drop_7 : decode cX1_drop 7 = .ok (.putfield 33, 3) := by decide +kernel
theorem dX1_drop_10 : decode cX1_drop 10 = .ok (.return_, 1) := by decide +kernel
theorem dX1_begin_0 : decode cX1_begin 0 = .ok (.aload_n 0, 1) := by decide +kernel
theorem dX1_begin_1 : decode cX1_begin 1 = .ok (.iconst 1, 1) := by decide +kernel
theorem dX1_begin_2 : decode cX1_begin 2 = .ok (.putfield 25, 3) := by decide +kernel
theorem dX1_begin_5 : decode cX1_begin 5 = .ok (.aload_n 0, 1) := by decide +kernel
theorem dX1_begin_6 : decode cX1_begin 6 = .ok (.lload_n 1, 1) := by decide +kernel
theorem dX1_begin_7 : decode cX1_begin 7 = .ok (.putfield 29, 3) := by decide +kernel
theorem dX1_begin_10 : decode cX1_begin 10 = .ok (.aload_n 0, 1) := by decide +kernel
theorem dX1_begin_11 : decode cX1_begin 11 = .ok (.aload_n 3, 1) := by decide +kernel
theorem dX1_begin_12 : decode cX1_begin 12 = .ok (.invokevirtual 42, 3) := by decide +kernel
theorem dX1_begin_15 : decode cX1_begin 15 = .ok (.putfield 9, 3) := by decide +kernel
theorem dX1_begin_18 : decode cX1_begin 18 = .ok (.aload_n 0, 1) := by decide +kernel
theorem dX1_begin_19 : decode cX1_begin 19 = .ok (.aload_n 3, 1) := by decide +kernel
theorem dX1_begin_20 : decode cX1_begin 20 = .ok (.invokevirtual 47, 3) := by decide +kernel
theorem dX1_begin_23 : decode cX1_begin 23 = .ok (.putfield 15, 3) := by decide +kernel
theorem dX1_begin_26 : decode cX1_begin 26 = .ok (.aload_n 0, 1) := by decide +kernel
theorem dX1_begin_27 : decode cX1_begin 27 = .ok (.iconst 0, 1) := by decide +kernel
theorem dX1_begin_28 : decode cX1_begin 28 = .ok (.putfield 33, 3) := by decide +kernel
theorem dX1_begin_31 : decode cX1_begin 31 = .ok (.iconst 0, 1) := by decide +kernel
theorem dX1_begin_32 : decode cX1_begin 32 = .ok (.istore 4, 2) := by decide +kernel
theorem dX1_begin_34 : decode cX1_begin 34 = .ok (.iload 4, 2) := by decide +kernel
theorem dX1_begin_36 : decode cX1_begin 36 = .ok (.aload_n 0, 1) := by decide +kernel
theorem dX1_begin_37 : decode cX1_begin 37 = .ok (.getfield 22, 3) := by decide +kernel
theorem dX1_begin_40 : decode cX1_begin 40 = .ok (.arraylength, 1) := by decide +kernel
theorem dX1_begin_41 : decode cX1_begin 41 = .ok (.if_icmp .ge 17, 3) := by decide +kernel
theorem dX1_begin_44 : decode cX1_begin 44 = .ok (.aload_n 0, 1) := by decide +kernel
theorem dX1_begin_45 : decode cX1_begin 45 = .ok (.getfield 22, 3) := by decide +kernel
theorem dX1_begin_48 : decode cX1_begin 48 = .ok (.iload 4, 2) := by decide +kernel
theorem dX1_begin_50 : decode cX1_begin 50 = .ok (.iconst (-1), 1) := by decide +kernel
theorem dX1_begin_51 : decode cX1_begin 51 = .ok (.iastore, 1) := by decide +kernel
theorem dX1_begin_52 : decode cX1_begin 52 = .ok (.iinc 4 1, 3) := by decide +kernel
theorem dX1_begin_55 : decode cX1_begin 55 = .ok (.goto (-21), 3) := by decide +kernel
theorem dX1_begin_58 : decode cX1_begin 58 = .ok (.return_, 1) := by decide +kernel
theorem dX1_canGoOn_0 : decode cX1_canGoOn 0 = .ok (.aload_n 0, 1) := by decide +kernel
theorem dX1_canGoOn_1 : decode cX1_canGoOn 1 = .ok (.getfield 25, 3) := by decide +kernel
theorem dX1_canGoOn_4 : decode cX1_canGoOn 4 = .ok (.ifCond .eq 18, 3) := by decide +kernel
theorem dX1_canGoOn_7 : decode cX1_canGoOn 7 = .ok (.aload_n 0, 1) := by decide +kernel
theorem dX1_canGoOn_8 : decode cX1_canGoOn 8 = .ok (.getfield 33, 3) := by decide +kernel
theorem dX1_canGoOn_11 : decode cX1_canGoOn 11 = .ok (.aload_n 0, 1) := by decide +kernel
theorem dX1_canGoOn_12 : decode cX1_canGoOn 12 = .ok (.getfield 15, 3) := by decide +kernel
theorem dX1_canGoOn_15 : decode cX1_canGoOn 15 = .ok (.if_icmp .ge 7, 3) := by decide +kernel
theorem dX1_canGoOn_18 : decode cX1_canGoOn 18 = .ok (.iconst 1, 1) := by decide +kernel
theorem dX1_canGoOn_19 : decode cX1_canGoOn 19 = .ok (.goto 4, 3) := by decide +kernel
theorem dX1_canGoOn_22 : decode cX1_canGoOn 22 = .ok (.iconst 0, 1) := by decide +kernel
theorem dX1_canGoOn_23 : decode cX1_canGoOn 23 = .ok (.ireturn, 1) := by decide +kernel
theorem dX1_cameTo_0 : decode cX1_cameTo 0 = .ok (.iload_n 1, 1) := by decide +kernel
theorem dX1_cameTo_1 : decode cX1_cameTo 1 = .ok (.iconst 1, 1) := by decide +kernel
theorem dX1_cameTo_2 : decode cX1_cameTo 2 = .ok (.if_icmp .lt 21, 3) := by decide +kernel
theorem dX1_cameTo_5 : decode cX1_cameTo 5 = .ok (.iload_n 1, 1) := by decide +kernel
theorem dX1_cameTo_6 : decode cX1_cameTo 6 = .ok (.aload_n 0, 1) := by decide +kernel
theorem dX1_cameTo_7 : decode cX1_cameTo 7 = .ok (.getfield 18, 3) := by decide +kernel
theorem dX1_cameTo_10 : decode cX1_cameTo 10 = .ok (.arraylength, 1) := by decide +kernel
theorem dX1_cameTo_11 : decode cX1_cameTo 11 = .ok (.if_icmp .ge 12, 3) := by decide +kernel
theorem dX1_cameTo_14 : decode cX1_cameTo 14 = .ok (.aload_n 0, 1) := by decide +kernel
theorem dX1_cameTo_15 : decode cX1_cameTo 15 = .ok (.getfield 18, 3) := by decide +kernel
theorem dX1_cameTo_18 : decode cX1_cameTo 18 = .ok (.iload_n 1, 1) := by decide +kernel
theorem dX1_cameTo_19 : decode cX1_cameTo 19 = .ok (.iaload, 1) := by decide +kernel
theorem dX1_cameTo_20 : decode cX1_cameTo 20 = .ok (.goto 5, 3) := by decide +kernel
theorem dX1_cameTo_23 : decode cX1_cameTo 23 = .ok (.bipush 10, 2) := by decide +kernel
theorem dX1_cameTo_25 : decode cX1_cameTo 25 = .ok (.ireturn, 1) := by decide +kernel
theorem dX1_standing_0 : decode cX1_standing 0 = .ok (.aload_n 0, 1) := by decide +kernel
theorem dX1_standing_1 : decode cX1_standing 1 = .ok (.aload_n 0, 1) := by decide +kernel
theorem dX1_standing_2 : decode cX1_standing 2 = .ok (.getfield 9, 3) := by decide +kernel
theorem dX1_standing_5 : decode cX1_standing 5 = .ok (.iload_n 1, 1) := by decide +kernel
theorem dX1_standing_6 : decode cX1_standing 6 = .ok (.iadd, 1) := by decide +kernel
theorem dX1_standing_7 : decode cX1_standing 7 = .ok (.invokevirtual 49, 3) := by decide +kernel
theorem dX1_standing_10 : decode cX1_standing 10 = .ok (.ireturn, 1) := by decide +kernel
theorem dX1_cameThrough_0 : decode cX1_cameThrough 0 = .ok (.iload_n 1, 1) := by decide +kernel
theorem dX1_cameThrough_1 : decode cX1_cameThrough 1 = .ok (.iconst 1, 1) := by decide +kernel
theorem dX1_cameThrough_2 : decode cX1_cameThrough 2 = .ok (.if_icmp .lt 26, 3) := by decide +kernel
theorem dX1_cameThrough_5 : decode cX1_cameThrough 5 = .ok (.iload_n 1, 1) := by decide +kernel
theorem dX1_cameThrough_6 : decode cX1_cameThrough 6 = .ok (.aload_n 0, 1) := by decide +kernel
theorem dX1_cameThrough_7 : decode cX1_cameThrough 7 = .ok (.getfield 15, 3) := by decide +kernel
theorem dX1_cameThrough_10 : decode cX1_cameThrough 10 = .ok (.if_icmp .gt 18, 3) := by decide +kernel
theorem dX1_cameThrough_13 : decode cX1_cameThrough 13 = .ok (.aload_n 0, 1) := by decide +kernel
theorem dX1_cameThrough_14 : decode cX1_cameThrough 14 = .ok (.aload_n 0, 1) := by decide +kernel
theorem dX1_cameThrough_15 : decode cX1_cameThrough 15 = .ok (.getfield 9, 3) := by decide +kernel
theorem dX1_cameThrough_18 : decode cX1_cameThrough 18 = .ok (.iload_n 1, 1) := by decide +kernel
theorem dX1_cameThrough_19 : decode cX1_cameThrough 19 = .ok (.ishr, 1) := by decide +kernel
theorem dX1_cameThrough_20 : decode cX1_cameThrough 20 = .ok (.iload_n 2, 1) := by decide +kernel
theorem dX1_cameThrough_21 : decode cX1_cameThrough 21 = .ok (.iadd, 1) := by decide +kernel
theorem dX1_cameThrough_22 : decode cX1_cameThrough 22 = .ok (.invokevirtual 49, 3) := by decide +kernel
theorem dX1_cameThrough_25 : decode cX1_cameThrough 25 = .ok (.goto 5, 3) := by decide +kernel
theorem dX1_cameThrough_28 : decode cX1_cameThrough 28 = .ok (.bipush 10, 2) := by decide +kernel
theorem dX1_cameThrough_30 : decode cX1_cameThrough 30 = .ok (.ireturn, 1) := by decide +kernel
theorem dX1_slotOf_0 : decode cX1_slotOf 0 = .ok (.iconst 0, 1) := by decide +kernel
theorem dX1_slotOf_1 : decode cX1_slotOf 1 = .ok (.istore_n 2, 1) := by decide +kernel
theorem dX1_slotOf_2 : decode cX1_slotOf 2 = .ok (.iload_n 2, 1) := by decide +kernel
theorem dX1_slotOf_3 : decode cX1_slotOf 3 = .ok (.aload_n 0, 1) := by decide +kernel
theorem dX1_slotOf_4 : decode cX1_slotOf 4 = .ok (.getfield 9, 3) := by decide +kernel
theorem dX1_slotOf_7 : decode cX1_slotOf 7 = .ok (.if_icmp .ge 20, 3) := by decide +kernel
theorem dX1_slotOf_10 : decode cX1_slotOf 10 = .ok (.aload_n 0, 1) := by decide +kernel
theorem dX1_slotOf_11 : decode cX1_slotOf 11 = .ok (.iload_n 2, 1) := by decide +kernel
theorem dX1_slotOf_12 : decode cX1_slotOf 12 = .ok (.invokevirtual 53, 3) := by decide +kernel
theorem dX1_slotOf_15 : decode cX1_slotOf 15 = .ok (.iload_n 1, 1) := by decide +kernel
theorem dX1_slotOf_16 : decode cX1_slotOf 16 = .ok (.if_icmp .ne 5, 3) := by decide +kernel
theorem dX1_slotOf_19 : decode cX1_slotOf 19 = .ok (.iload_n 2, 1) := by decide +kernel
theorem dX1_slotOf_20 : decode cX1_slotOf 20 = .ok (.ireturn, 1) := by decide +kernel
theorem dX1_slotOf_21 : decode cX1_slotOf 21 = .ok (.iinc 2 1, 3) := by decide +kernel
theorem dX1_slotOf_24 : decode cX1_slotOf 24 = .ok (.goto (-22), 3) := by decide +kernel
theorem dX1_slotOf_27 : decode cX1_slotOf 27 = .ok (.iconst 0, 1) := by decide +kernel
theorem dX1_slotOf_28 : decode cX1_slotOf 28 = .ok (.ireturn, 1) := by decide +kernel
theorem dX1_firstCommonRound_0 : decode cX1_firstCommonRound 0 = .ok (.aload_n 0, 1) := by decide +kernel
theorem dX1_firstCommonRound_1 : decode cX1_firstCommonRound 1 = .ok (.iload_n 1, 1) := by decide +kernel
theorem dX1_firstCommonRound_2 : decode cX1_firstCommonRound 2 = .ok (.invokevirtual 56, 3) := by decide +kernel
theorem dX1_firstCommonRound_5 : decode cX1_firstCommonRound 5 = .ok (.aload_n 0, 1) := by decide +kernel
theorem dX1_firstCommonRound_6 : decode cX1_firstCommonRound 6 = .ok (.iload_n 2, 1) := by decide +kernel
theorem dX1_firstCommonRound_7 : decode cX1_firstCommonRound 7 = .ok (.invokevirtual 56, 3) := by decide +kernel
theorem dX1_firstCommonRound_10 : decode cX1_firstCommonRound 10 = .ok (.ixor, 1) := by decide +kernel
theorem dX1_firstCommonRound_11 : decode cX1_firstCommonRound 11 = .ok (.istore_n 3, 1) := by decide +kernel
theorem dX1_firstCommonRound_12 : decode cX1_firstCommonRound 12 = .ok (.iconst 0, 1) := by decide +kernel
theorem dX1_firstCommonRound_13 : decode cX1_firstCommonRound 13 = .ok (.istore 4, 2) := by decide +kernel
theorem dX1_firstCommonRound_15 : decode cX1_firstCommonRound 15 = .ok (.iload 4, 2) := by decide +kernel
theorem dX1_firstCommonRound_17 : decode cX1_firstCommonRound 17 = .ok (.aload_n 0, 1) := by decide +kernel
theorem dX1_firstCommonRound_18 : decode cX1_firstCommonRound 18 = .ok (.getfield 15, 3) := by decide +kernel
theorem dX1_firstCommonRound_21 : decode cX1_firstCommonRound 21 = .ok (.if_icmp .ge 16, 3) := by decide +kernel
theorem dX1_firstCommonRound_24 : decode cX1_firstCommonRound 24 = .ok (.iload_n 3, 1) := by decide +kernel
theorem dX1_firstCommonRound_25 : decode cX1_firstCommonRound 25 = .ok (.iload 4, 2) := by decide +kernel
theorem dX1_firstCommonRound_27 : decode cX1_firstCommonRound 27 = .ok (.ishr, 1) := by decide +kernel
theorem dX1_firstCommonRound_28 : decode cX1_firstCommonRound 28 = .ok (.ifCond .eq 9, 3) := by decide +kernel
theorem dX1_firstCommonRound_31 : decode cX1_firstCommonRound 31 = .ok (.iinc 4 1, 3) := by decide +kernel
theorem dX1_firstCommonRound_34 : decode cX1_firstCommonRound 34 = .ok (.goto (-19), 3) := by decide +kernel
theorem dX1_firstCommonRound_37 : decode cX1_firstCommonRound 37 = .ok (.iload 4, 2) := by decide +kernel
theorem dX1_firstCommonRound_39 : decode cX1_firstCommonRound 39 = .ok (.ireturn, 1) := by decide +kernel
theorem dX1_blockOf_0 : decode cX1_blockOf 0 = .ok (.aload_n 0, 1) := by decide +kernel
theorem dX1_blockOf_1 : decode cX1_blockOf 1 = .ok (.getfield 9, 3) := by decide +kernel
theorem dX1_blockOf_4 : decode cX1_blockOf 4 = .ok (.aload_n 0, 1) := by decide +kernel
theorem dX1_blockOf_5 : decode cX1_blockOf 5 = .ok (.iload_n 1, 1) := by decide +kernel
theorem dX1_blockOf_6 : decode cX1_blockOf 6 = .ok (.invokevirtual 56, 3) := by decide +kernel
theorem dX1_blockOf_9 : decode cX1_blockOf 9 = .ok (.iadd, 1) := by decide +kernel
theorem dX1_blockOf_10 : decode cX1_blockOf 10 = .ok (.iload_n 2, 1) := by decide +kernel
theorem dX1_blockOf_11 : decode cX1_blockOf 11 = .ok (.ishr, 1) := by decide +kernel
theorem dX1_blockOf_12 : decode cX1_blockOf 12 = .ok (.ireturn, 1) := by decide +kernel
theorem dX1_isIn_0 : decode cX1_isIn 0 = .ok (.aload_n 0, 1) := by decide +kernel
theorem dX1_isIn_1 : decode cX1_isIn 1 = .ok (.aload_n 0, 1) := by decide +kernel
theorem dX1_isIn_2 : decode cX1_isIn 2 = .ok (.iload_n 1, 1) := by decide +kernel
theorem dX1_isIn_3 : decode cX1_isIn 3 = .ok (.iload_n 2, 1) := by decide +kernel
theorem dX1_isIn_4 : decode cX1_isIn 4 = .ok (.invokevirtual 59, 3) := by decide +kernel
theorem dX1_isIn_7 : decode cX1_isIn 7 = .ok (.invokevirtual 49, 3) := by decide +kernel
theorem dX1_isIn_10 : decode cX1_isIn 10 = .ok (.iload_n 1, 1) := by decide +kernel
theorem dX1_isIn_11 : decode cX1_isIn 11 = .ok (.if_icmp .ne 7, 3) := by decide +kernel
theorem dX1_isIn_14 : decode cX1_isIn 14 = .ok (.iconst 1, 1) := by decide +kernel
theorem dX1_isIn_15 : decode cX1_isIn 15 = .ok (.goto 4, 3) := by decide +kernel
theorem dX1_isIn_18 : decode cX1_isIn 18 = .ok (.iconst 0, 1) := by decide +kernel
theorem dX1_isIn_19 : decode cX1_isIn 19 = .ok (.ireturn, 1) := by decide +kernel
theorem dX1_opponent_0 : decode cX1_opponent 0 = .ok (.aload_n 0, 1) := by decide +kernel
theorem dX1_opponent_1 : decode cX1_opponent 1 = .ok (.aload_n 0, 1) := by decide +kernel
theorem dX1_opponent_2 : decode cX1_opponent 2 = .ok (.iload_n 1, 1) := by decide +kernel
theorem dX1_opponent_3 : decode cX1_opponent 3 = .ok (.iload_n 2, 1) := by decide +kernel
theorem dX1_opponent_4 : decode cX1_opponent 4 = .ok (.iconst 1, 1) := by decide +kernel
theorem dX1_opponent_5 : decode cX1_opponent 5 = .ok (.isub, 1) := by decide +kernel
theorem dX1_opponent_6 : decode cX1_opponent 6 = .ok (.invokevirtual 59, 3) := by decide +kernel
theorem dX1_opponent_9 : decode cX1_opponent 9 = .ok (.iconst 1, 1) := by decide +kernel
theorem dX1_opponent_10 : decode cX1_opponent 10 = .ok (.ixor, 1) := by decide +kernel
theorem dX1_opponent_11 : decode cX1_opponent 11 = .ok (.invokevirtual 49, 3) := by decide +kernel
theorem dX1_opponent_14 : decode cX1_opponent 14 = .ok (.ireturn, 1) := by decide +kernel
theorem dX1_favour_0 : decode cX1_favour 0 = .ok (.aload_n 0, 1) := by decide +kernel
theorem dX1_favour_1 : decode cX1_favour 1 = .ok (.iload_n 1, 1) := by decide +kernel
theorem dX1_favour_2 : decode cX1_favour 2 = .ok (.aload_n 0, 1) := by decide +kernel
theorem dX1_favour_3 : decode cX1_favour 3 = .ok (.getfield 33, 3) := by decide +kernel
theorem dX1_favour_6 : decode cX1_favour 6 = .ok (.iconst 1, 1) := by decide +kernel
theorem dX1_favour_7 : decode cX1_favour 7 = .ok (.iadd, 1) := by decide +kernel
theorem dX1_favour_8 : decode cX1_favour 8 = .ok (.invokevirtual 59, 3) := by decide +kernel
theorem dX1_favour_11 : decode cX1_favour 11 = .ok (.istore_n 2, 1) := by decide +kernel
theorem dX1_favour_12 : decode cX1_favour 12 = .ok (.iload_n 2, 1) := by decide +kernel
theorem dX1_favour_13 : decode cX1_favour 13 = .ok (.iconst 1, 1) := by decide +kernel
theorem dX1_favour_14 : decode cX1_favour 14 = .ok (.if_icmp .lt 19, 3) := by decide +kernel
theorem dX1_favour_17 : decode cX1_favour 17 = .ok (.iload_n 2, 1) := by decide +kernel
theorem dX1_favour_18 : decode cX1_favour 18 = .ok (.aload_n 0, 1) := by decide +kernel
theorem dX1_favour_19 : decode cX1_favour 19 = .ok (.getfield 22, 3) := by decide +kernel
theorem dX1_favour_22 : decode cX1_favour 22 = .ok (.arraylength, 1) := by decide +kernel
theorem dX1_favour_23 : decode cX1_favour 23 = .ok (.if_icmp .ge 10, 3) := by decide +kernel
theorem dX1_favour_26 : decode cX1_favour 26 = .ok (.aload_n 0, 1) := by decide +kernel
theorem dX1_favour_27 : decode cX1_favour 27 = .ok (.getfield 22, 3) := by decide +kernel
theorem dX1_favour_30 : decode cX1_favour 30 = .ok (.iload_n 2, 1) := by decide +kernel
theorem dX1_favour_31 : decode cX1_favour 31 = .ok (.iload_n 1, 1) := by decide +kernel
theorem dX1_favour_32 : decode cX1_favour 32 = .ok (.iastore, 1) := by decide +kernel
theorem dX1_favour_33 : decode cX1_favour 33 = .ok (.return_, 1) := by decide +kernel
theorem dX1_goOn_0 : decode cX1_goOn 0 = .ok (.aload_n 0, 1) := by decide +kernel
theorem dX1_goOn_1 : decode cX1_goOn 1 = .ok (.invokevirtual 63, 3) := by decide +kernel
theorem dX1_goOn_4 : decode cX1_goOn 4 = .ok (.ifCond .ne 4, 3) := by decide +kernel
theorem dX1_goOn_7 : decode cX1_goOn 7 = .ok (.return_, 1) := by decide +kernel
theorem dX1_goOn_8 : decode cX1_goOn 8 = .ok (.aload_n 0, 1) := by decide +kernel
theorem dX1_goOn_9 : decode cX1_goOn 9 = .ok (.getfield 9, 3) := by decide +kernel
theorem dX1_goOn_12 : decode cX1_goOn 12 = .ok (.aload_n 0, 1) := by decide +kernel
theorem dX1_goOn_13 : decode cX1_goOn 13 = .ok (.getfield 33, 3) := by decide +kernel
theorem dX1_goOn_16 : decode cX1_goOn 16 = .ok (.iconst 1, 1) := by decide +kernel
theorem dX1_goOn_17 : decode cX1_goOn 17 = .ok (.iadd, 1) := by decide +kernel
theorem dX1_goOn_18 : decode cX1_goOn 18 = .ok (.ishr, 1) := by decide +kernel
theorem dX1_goOn_19 : decode cX1_goOn 19 = .ok (.istore_n 2, 1) := by decide +kernel
theorem dX1_goOn_20 : decode cX1_goOn 20 = .ok (.iload_n 2, 1) := by decide +kernel
theorem dX1_goOn_21 : decode cX1_goOn 21 = .ok (.istore_n 3, 1) := by decide +kernel
theorem dX1_goOn_22 : decode cX1_goOn 22 = .ok (.iload_n 3, 1) := by decide +kernel
theorem dX1_goOn_23 : decode cX1_goOn 23 = .ok (.iconst 2, 1) := by decide +kernel
theorem dX1_goOn_24 : decode cX1_goOn 24 = .ok (.iload_n 2, 1) := by decide +kernel
theorem dX1_goOn_25 : decode cX1_goOn 25 = .ok (.imul, 1) := by decide +kernel
theorem dX1_goOn_26 : decode cX1_goOn 26 = .ok (.if_icmp .ge 30, 3) := by decide +kernel
theorem dX1_goOn_29 : decode cX1_goOn 29 = .ok (.iload_n 3, 1) := by decide +kernel
theorem dX1_goOn_30 : decode cX1_goOn 30 = .ok (.aload_n 0, 1) := by decide +kernel
theorem dX1_goOn_31 : decode cX1_goOn 31 = .ok (.getfield 22, 3) := by decide +kernel
theorem dX1_goOn_34 : decode cX1_goOn 34 = .ok (.arraylength, 1) := by decide +kernel
theorem dX1_goOn_35 : decode cX1_goOn 35 = .ok (.if_icmp .ge 21, 3) := by decide +kernel
theorem dX1_goOn_38 : decode cX1_goOn 38 = .ok (.aload_n 0, 1) := by decide +kernel
theorem dX1_goOn_39 : decode cX1_goOn 39 = .ok (.getfield 18, 3) := by decide +kernel
theorem dX1_goOn_42 : decode cX1_goOn 42 = .ok (.iload_n 3, 1) := by decide +kernel
theorem dX1_goOn_43 : decode cX1_goOn 43 = .ok (.aload_n 0, 1) := by decide +kernel
theorem dX1_goOn_44 : decode cX1_goOn 44 = .ok (.iload_n 3, 1) := by decide +kernel
theorem dX1_goOn_45 : decode cX1_goOn 45 = .ok (.aload_n 1, 1) := by decide +kernel
theorem dX1_goOn_46 : decode cX1_goOn 46 = .ok (.invokevirtual 67, 3) := by decide +kernel
theorem dX1_goOn_49 : decode cX1_goOn 49 = .ok (.iastore, 1) := by decide +kernel
theorem dX1_goOn_50 : decode cX1_goOn 50 = .ok (.iinc 3 1, 3) := by decide +kernel
theorem dX1_goOn_53 : decode cX1_goOn 53 = .ok (.goto (-31), 3) := by decide +kernel
theorem dX1_goOn_56 : decode cX1_goOn 56 = .ok (.aload_n 0, 1) := by decide +kernel
theorem dX1_goOn_57 : decode cX1_goOn 57 = .ok (.dup, 1) := by decide +kernel
theorem dX1_goOn_58 : decode cX1_goOn 58 = .ok (.getfield 33, 3) := by decide +kernel
theorem dX1_goOn_61 : decode cX1_goOn 61 = .ok (.iconst 1, 1) := by decide +kernel
theorem dX1_goOn_62 : decode cX1_goOn 62 = .ok (.iadd, 1) := by decide +kernel
theorem dX1_goOn_63 : decode cX1_goOn 63 = .ok (.putfield 33, 3) := by decide +kernel
theorem dX1_goOn_66 : decode cX1_goOn 66 = .ok (.return_, 1) := by decide +kernel
theorem dX1_comesThrough_0 : decode cX1_comesThrough 0 = .ok (.aload_n 0, 1) := by decide +kernel
theorem dX1_comesThrough_1 : decode cX1_comesThrough 1 = .ok (.iconst 2, 1) := by decide +kernel
theorem dX1_comesThrough_2 : decode cX1_comesThrough 2 = .ok (.iload_n 1, 1) := by decide +kernel
theorem dX1_comesThrough_3 : decode cX1_comesThrough 3 = .ok (.imul, 1) := by decide +kernel
theorem dX1_comesThrough_4 : decode cX1_comesThrough 4 = .ok (.invokevirtual 49, 3) := by decide +kernel
theorem dX1_comesThrough_7 : decode cX1_comesThrough 7 = .ok (.istore_n 3, 1) := by decide +kernel
theorem dX1_comesThrough_8 : decode cX1_comesThrough 8 = .ok (.aload_n 0, 1) := by decide +kernel
theorem dX1_comesThrough_9 : decode cX1_comesThrough 9 = .ok (.iconst 2, 1) := by decide +kernel
theorem dX1_comesThrough_10 : decode cX1_comesThrough 10 = .ok (.iload_n 1, 1) := by decide +kernel
theorem dX1_comesThrough_11 : decode cX1_comesThrough 11 = .ok (.imul, 1) := by decide +kernel
theorem dX1_comesThrough_12 : decode cX1_comesThrough 12 = .ok (.iconst 1, 1) := by decide +kernel
theorem dX1_comesThrough_13 : decode cX1_comesThrough 13 = .ok (.iadd, 1) := by decide +kernel
theorem dX1_comesThrough_14 : decode cX1_comesThrough 14 = .ok (.invokevirtual 49, 3) := by decide +kernel
theorem dX1_comesThrough_17 : decode cX1_comesThrough 17 = .ok (.istore 4, 2) := by decide +kernel
theorem dX1_comesThrough_19 : decode cX1_comesThrough 19 = .ok (.iload_n 3, 1) := by decide +kernel
theorem dX1_comesThrough_20 : decode cX1_comesThrough 20 = .ok (.bipush 10, 2) := by decide +kernel
theorem dX1_comesThrough_22 : decode cX1_comesThrough 22 = .ok (.if_icmp .eq 10, 3) := by decide +kernel
theorem dX1_comesThrough_25 : decode cX1_comesThrough 25 = .ok (.iload 4, 2) := by decide +kernel
theorem dX1_comesThrough_27 : decode cX1_comesThrough 27 = .ok (.bipush 10, 2) := by decide +kernel
theorem dX1_comesThrough_29 : decode cX1_comesThrough 29 = .ok (.if_icmp .ne 16, 3) := by decide +kernel
theorem dX1_comesThrough_32 : decode cX1_comesThrough 32 = .ok (.iload_n 3, 1) := by decide +kernel
theorem dX1_comesThrough_33 : decode cX1_comesThrough 33 = .ok (.bipush 10, 2) := by decide +kernel
theorem dX1_comesThrough_35 : decode cX1_comesThrough 35 = .ok (.if_icmp .ne 8, 3) := by decide +kernel
theorem dX1_comesThrough_38 : decode cX1_comesThrough 38 = .ok (.iload 4, 2) := by decide +kernel
theorem dX1_comesThrough_40 : decode cX1_comesThrough 40 = .ok (.goto 4, 3) := by decide +kernel
theorem dX1_comesThrough_43 : decode cX1_comesThrough 43 = .ok (.iload_n 3, 1) := by decide +kernel
theorem dX1_comesThrough_44 : decode cX1_comesThrough 44 = .ok (.ireturn, 1) := by decide +kernel
theorem dX1_comesThrough_45 : decode cX1_comesThrough 45 = .ok (.iload_n 1, 1) := by decide +kernel
theorem dX1_comesThrough_46 : decode cX1_comesThrough 46 = .ok (.iconst 1, 1) := by decide +kernel
theorem dX1_comesThrough_47 : decode cX1_comesThrough 47 = .ok (.if_icmp .lt 21, 3) := by decide +kernel
theorem dX1_comesThrough_50 : decode cX1_comesThrough 50 = .ok (.iload_n 1, 1) := by decide +kernel
theorem dX1_comesThrough_51 : decode cX1_comesThrough 51 = .ok (.aload_n 0, 1) := by decide +kernel
theorem dX1_comesThrough_52 : decode cX1_comesThrough 52 = .ok (.getfield 22, 3) := by decide +kernel
theorem dX1_comesThrough_55 : decode cX1_comesThrough 55 = .ok (.arraylength, 1) := by decide +kernel
theorem dX1_comesThrough_56 : decode cX1_comesThrough 56 = .ok (.if_icmp .ge 12, 3) := by decide +kernel
theorem dX1_comesThrough_59 : decode cX1_comesThrough 59 = .ok (.aload_n 0, 1) := by decide +kernel
theorem dX1_comesThrough_60 : decode cX1_comesThrough 60 = .ok (.getfield 22, 3) := by decide +kernel
theorem dX1_comesThrough_63 : decode cX1_comesThrough 63 = .ok (.iload_n 1, 1) := by decide +kernel
theorem dX1_comesThrough_64 : decode cX1_comesThrough 64 = .ok (.iaload, 1) := by decide +kernel
theorem dX1_comesThrough_65 : decode cX1_comesThrough 65 = .ok (.goto 4, 3) := by decide +kernel
theorem dX1_comesThrough_68 : decode cX1_comesThrough 68 = .ok (.iconst (-1), 1) := by decide +kernel
theorem dX1_comesThrough_69 : decode cX1_comesThrough 69 = .ok (.istore 5, 2) := by decide +kernel
theorem dX1_comesThrough_71 : decode cX1_comesThrough 71 = .ok (.iload 5, 2) := by decide +kernel
theorem dX1_comesThrough_73 : decode cX1_comesThrough 73 = .ok (.iload_n 3, 1) := by decide +kernel
theorem dX1_comesThrough_74 : decode cX1_comesThrough 74 = .ok (.if_icmp .eq 10, 3) := by decide +kernel
theorem dX1_comesThrough_77 : decode cX1_comesThrough 77 = .ok (.iload 5, 2) := by decide +kernel
theorem dX1_comesThrough_79 : decode cX1_comesThrough 79 = .ok (.iload 4, 2) := by decide +kernel
theorem dX1_comesThrough_81 : decode cX1_comesThrough 81 = .ok (.if_icmp .ne 6, 3) := by decide +kernel
theorem dX1_comesThrough_84 : decode cX1_comesThrough 84 = .ok (.iload 5, 2) := by decide +kernel
theorem dX1_comesThrough_86 : decode cX1_comesThrough 86 = .ok (.ireturn, 1) := by decide +kernel
theorem dX1_comesThrough_87 : decode cX1_comesThrough 87 = .ok (.aload_n 2, 1) := by decide +kernel
theorem dX1_comesThrough_88 : decode cX1_comesThrough 88 = .ok (.iload_n 3, 1) := by decide +kernel
theorem dX1_comesThrough_89 : decode cX1_comesThrough 89 = .ok (.iload 4, 2) := by decide +kernel
theorem dX1_comesThrough_91 : decode cX1_comesThrough 91 = .ok (.invokevirtual 71, 3) := by decide +kernel
theorem dX1_comesThrough_94 : decode cX1_comesThrough 94 = .ok (.ifCond .eq 7, 3) := by decide +kernel
theorem dX1_comesThrough_97 : decode cX1_comesThrough 97 = .ok (.iload_n 3, 1) := by decide +kernel
theorem dX1_comesThrough_98 : decode cX1_comesThrough 98 = .ok (.goto 5, 3) := by decide +kernel
theorem dX1_comesThrough_101 : decode cX1_comesThrough 101 = .ok (.iload 4, 2) := by decide +kernel
theorem dX1_comesThrough_103 : decode cX1_comesThrough 103 = .ok (.ireturn, 1) := by decide +kernel
theorem dX1_printedByte_0 : decode cX1_printedByte 0 = .ok (.iconst 2, 1) := by decide +kernel
theorem dX1_printedByte_1 : decode cX1_printedByte 1 = .ok (.aload_n 0, 1) := by decide +kernel
theorem dX1_printedByte_2 : decode cX1_printedByte 2 = .ok (.getfield 9, 3) := by decide +kernel
theorem dX1_printedByte_5 : decode cX1_printedByte 5 = .ok (.imul, 1) := by decide +kernel
theorem dX1_printedByte_6 : decode cX1_printedByte 6 = .ok (.iconst 1, 1) := by decide +kernel
theorem dX1_printedByte_7 : decode cX1_printedByte 7 = .ok (.isub, 1) := by decide +kernel
theorem dX1_printedByte_8 : decode cX1_printedByte 8 = .ok (.istore_n 2, 1) := by decide +kernel
theorem dX1_printedByte_9 : decode cX1_printedByte 9 = .ok (.iload_n 1, 1) := by decide +kernel
theorem dX1_printedByte_10 : decode cX1_printedByte 10 = .ok (.ifCond .lt 8, 3) := by decide +kernel
theorem dX1_printedByte_13 : decode cX1_printedByte 13 = .ok (.iload_n 1, 1) := by decide +kernel
theorem dX1_printedByte_14 : decode cX1_printedByte 14 = .ok (.iload_n 2, 1) := by decide +kernel
theorem dX1_printedByte_15 : decode cX1_printedByte 15 = .ok (.if_icmp .lt 14, 3) := by decide +kernel
theorem dX1_printedByte_18 : decode cX1_printedByte 18 = .ok (.iload_n 1, 1) := by decide +kernel
theorem dX1_printedByte_19 : decode cX1_printedByte 19 = .ok (.ifCond .ge 7, 3) := by decide +kernel
theorem dX1_printedByte_22 : decode cX1_printedByte 22 = .ok (.iload_n 2, 1) := by decide +kernel
theorem dX1_printedByte_23 : decode cX1_printedByte 23 = .ok (.goto 5, 3) := by decide +kernel
theorem dX1_printedByte_26 : decode cX1_printedByte 26 = .ok (.bipush (-2), 2) := by decide +kernel
theorem dX1_printedByte_28 : decode cX1_printedByte 28 = .ok (.ireturn, 1) := by decide +kernel
theorem dX1_printedByte_29 : decode cX1_printedByte 29 = .ok (.iload_n 1, 1) := by decide +kernel
theorem dX1_printedByte_30 : decode cX1_printedByte 30 = .ok (.iconst 2, 1) := by decide +kernel
theorem dX1_printedByte_31 : decode cX1_printedByte 31 = .ok (.irem, 1) := by decide +kernel
theorem dX1_printedByte_32 : decode cX1_printedByte 32 = .ok (.ifCond .ne 27, 3) := by decide +kernel
theorem dX1_printedByte_35 : decode cX1_printedByte 35 = .ok (.aload_n 0, 1) := by decide +kernel
theorem dX1_printedByte_36 : decode cX1_printedByte 36 = .ok (.iload_n 1, 1) := by decide +kernel
theorem dX1_printedByte_37 : decode cX1_printedByte 37 = .ok (.iconst 2, 1) := by decide +kernel
theorem dX1_printedByte_38 : decode cX1_printedByte 38 = .ok (.idiv, 1) := by decide +kernel
theorem dX1_printedByte_39 : decode cX1_printedByte 39 = .ok (.invokevirtual 53, 3) := by decide +kernel
theorem dX1_printedByte_42 : decode cX1_printedByte 42 = .ok (.istore_n 3, 1) := by decide +kernel
theorem dX1_printedByte_43 : decode cX1_printedByte 43 = .ok (.iload_n 3, 1) := by decide +kernel
theorem dX1_printedByte_44 : decode cX1_printedByte 44 = .ok (.bipush 10, 2) := by decide +kernel
theorem dX1_printedByte_46 : decode cX1_printedByte 46 = .ok (.if_icmp .ne 8, 3) := by decide +kernel
theorem dX1_printedByte_49 : decode cX1_printedByte 49 = .ok (.bipush 45, 2) := by decide +kernel
theorem dX1_printedByte_51 : decode cX1_printedByte 51 = .ok (.goto 7, 3) := by decide +kernel
theorem dX1_printedByte_54 : decode cX1_printedByte 54 = .ok (.bipush 48, 2) := by decide +kernel
theorem dX1_printedByte_56 : decode cX1_printedByte 56 = .ok (.iload_n 3, 1) := by decide +kernel
theorem dX1_printedByte_57 : decode cX1_printedByte 57 = .ok (.iadd, 1) := by decide +kernel
theorem dX1_printedByte_58 : decode cX1_printedByte 58 = .ok (.ireturn, 1) := by decide +kernel
theorem dX1_printedByte_59 : decode cX1_printedByte 59 = .ok (.iload_n 1, 1) := by decide +kernel
theorem dX1_printedByte_60 : decode cX1_printedByte 60 = .ok (.iconst 2, 1) := by decide +kernel
theorem dX1_printedByte_61 : decode cX1_printedByte 61 = .ok (.idiv, 1) := by decide +kernel
theorem dX1_printedByte_62 : decode cX1_printedByte 62 = .ok (.iconst 1, 1) := by decide +kernel
theorem dX1_printedByte_63 : decode cX1_printedByte 63 = .ok (.iadd, 1) := by decide +kernel
theorem dX1_printedByte_64 : decode cX1_printedByte 64 = .ok (.iconst 4, 1) := by decide +kernel
theorem dX1_printedByte_65 : decode cX1_printedByte 65 = .ok (.irem, 1) := by decide +kernel
theorem dX1_printedByte_66 : decode cX1_printedByte 66 = .ok (.ifCond .ne 8, 3) := by decide +kernel
theorem dX1_printedByte_69 : decode cX1_printedByte 69 = .ok (.bipush 124, 2) := by decide +kernel
theorem dX1_printedByte_71 : decode cX1_printedByte 71 = .ok (.goto 5, 3) := by decide +kernel
theorem dX1_printedByte_74 : decode cX1_printedByte 74 = .ok (.bipush 32, 2) := by decide +kernel
theorem dX1_printedByte_76 : decode cX1_printedByte 76 = .ok (.ireturn, 1) := by decide +kernel
theorem dX1_bracketsByte_0 : decode cX1_bracketsByte 0 = .ok (.iconst 0, 1) := by decide +kernel
theorem dX1_bracketsByte_1 : decode cX1_bracketsByte 1 = .ok (.istore_n 2, 1) := by decide +kernel
theorem dX1_bracketsByte_2 : decode cX1_bracketsByte 2 = .ok (.iconst 1, 1) := by decide +kernel
theorem dX1_bracketsByte_3 : decode cX1_bracketsByte 3 = .ok (.istore_n 3, 1) := by decide +kernel
theorem dX1_bracketsByte_4 : decode cX1_bracketsByte 4 = .ok (.iload_n 3, 1) := by decide +kernel
theorem dX1_bracketsByte_5 : decode cX1_bracketsByte 5 = .ok (.aload_n 0, 1) := by decide +kernel
theorem dX1_bracketsByte_6 : decode cX1_bracketsByte 6 = .ok (.getfield 33, 3) := by decide +kernel
theorem dX1_bracketsByte_9 : decode cX1_bracketsByte 9 = .ok (.if_icmp .gt 53, 3) := by decide +kernel
theorem dX1_bracketsByte_12 : decode cX1_bracketsByte 12 = .ok (.aload_n 0, 1) := by decide +kernel
theorem dX1_bracketsByte_13 : decode cX1_bracketsByte 13 = .ok (.getfield 9, 3) := by decide +kernel
theorem dX1_bracketsByte_16 : decode cX1_bracketsByte 16 = .ok (.iload_n 3, 1) := by decide +kernel
theorem dX1_bracketsByte_17 : decode cX1_bracketsByte 17 = .ok (.ishr, 1) := by decide +kernel
theorem dX1_bracketsByte_18 : decode cX1_bracketsByte 18 = .ok (.istore 4, 2) := by decide +kernel
theorem dX1_bracketsByte_20 : decode cX1_bracketsByte 20 = .ok (.iload_n 1, 1) := by decide +kernel
theorem dX1_bracketsByte_21 : decode cX1_bracketsByte 21 = .ok (.iload_n 2, 1) := by decide +kernel
theorem dX1_bracketsByte_22 : decode cX1_bracketsByte 22 = .ok (.isub, 1) := by decide +kernel
theorem dX1_bracketsByte_23 : decode cX1_bracketsByte 23 = .ok (.istore 5, 2) := by decide +kernel
theorem dX1_bracketsByte_25 : decode cX1_bracketsByte 25 = .ok (.iload 5, 2) := by decide +kernel
theorem dX1_bracketsByte_27 : decode cX1_bracketsByte 27 = .ok (.ifCond .lt 22, 3) := by decide +kernel
theorem dX1_bracketsByte_30 : decode cX1_bracketsByte 30 = .ok (.iload 5, 2) := by decide +kernel
theorem dX1_bracketsByte_32 : decode cX1_bracketsByte 32 = .ok (.iconst 2, 1) := by decide +kernel
theorem dX1_bracketsByte_33 : decode cX1_bracketsByte 33 = .ok (.iload 4, 2) := by decide +kernel
theorem dX1_bracketsByte_35 : decode cX1_bracketsByte 35 = .ok (.imul, 1) := by decide +kernel
theorem dX1_bracketsByte_36 : decode cX1_bracketsByte 36 = .ok (.if_icmp .ge 13, 3) := by decide +kernel
theorem dX1_bracketsByte_39 : decode cX1_bracketsByte 39 = .ok (.aload_n 0, 1) := by decide +kernel
theorem dX1_bracketsByte_40 : decode cX1_bracketsByte 40 = .ok (.iload_n 3, 1) := by decide +kernel
theorem dX1_bracketsByte_41 : decode cX1_bracketsByte 41 = .ok (.iload 5, 2) := by decide +kernel
theorem dX1_bracketsByte_43 : decode cX1_bracketsByte 43 = .ok (.iload 4, 2) := by decide +kernel
theorem dX1_bracketsByte_45 : decode cX1_bracketsByte 45 = .ok (.invokevirtual 75, 3) := by decide +kernel
theorem dX1_bracketsByte_48 : decode cX1_bracketsByte 48 = .ok (.ireturn, 1) := by decide +kernel
theorem dX1_bracketsByte_49 : decode cX1_bracketsByte 49 = .ok (.iload_n 2, 1) := by decide +kernel
theorem dX1_bracketsByte_50 : decode cX1_bracketsByte 50 = .ok (.iconst 2, 1) := by decide +kernel
theorem dX1_bracketsByte_51 : decode cX1_bracketsByte 51 = .ok (.iload 4, 2) := by decide +kernel
theorem dX1_bracketsByte_53 : decode cX1_bracketsByte 53 = .ok (.imul, 1) := by decide +kernel
theorem dX1_bracketsByte_54 : decode cX1_bracketsByte 54 = .ok (.iadd, 1) := by decide +kernel
theorem dX1_bracketsByte_55 : decode cX1_bracketsByte 55 = .ok (.istore_n 2, 1) := by decide +kernel
theorem dX1_bracketsByte_56 : decode cX1_bracketsByte 56 = .ok (.iinc 3 1, 3) := by decide +kernel
theorem dX1_bracketsByte_59 : decode cX1_bracketsByte 59 = .ok (.goto (-55), 3) := by decide +kernel
theorem dX1_bracketsByte_62 : decode cX1_bracketsByte 62 = .ok (.iload_n 1, 1) := by decide +kernel
theorem dX1_bracketsByte_63 : decode cX1_bracketsByte 63 = .ok (.ifCond .ge 7, 3) := by decide +kernel
theorem dX1_bracketsByte_66 : decode cX1_bracketsByte 66 = .ok (.iload_n 2, 1) := by decide +kernel
theorem dX1_bracketsByte_67 : decode cX1_bracketsByte 67 = .ok (.goto 5, 3) := by decide +kernel
theorem dX1_bracketsByte_70 : decode cX1_bracketsByte 70 = .ok (.bipush (-2), 2) := by decide +kernel
theorem dX1_bracketsByte_72 : decode cX1_bracketsByte 72 = .ok (.ireturn, 1) := by decide +kernel
theorem dX1_roundsByte_0 : decode cX1_roundsByte 0 = .ok (.iload_n 2, 1) := by decide +kernel
theorem dX1_roundsByte_1 : decode cX1_roundsByte 1 = .ok (.iconst 2, 1) := by decide +kernel
theorem dX1_roundsByte_2 : decode cX1_roundsByte 2 = .ok (.irem, 1) := by decide +kernel
theorem dX1_roundsByte_3 : decode cX1_roundsByte 3 = .ok (.ifCond .ne 15, 3) := by decide +kernel
theorem dX1_roundsByte_6 : decode cX1_roundsByte 6 = .ok (.bipush 48, 2) := by decide +kernel
theorem dX1_roundsByte_8 : decode cX1_roundsByte 8 = .ok (.aload_n 0, 1) := by decide +kernel
theorem dX1_roundsByte_9 : decode cX1_roundsByte 9 = .ok (.iload_n 1, 1) := by decide +kernel
theorem dX1_roundsByte_10 : decode cX1_roundsByte 10 = .ok (.iload_n 2, 1) := by decide +kernel
theorem dX1_roundsByte_11 : decode cX1_roundsByte 11 = .ok (.iconst 2, 1) := by decide +kernel
theorem dX1_roundsByte_12 : decode cX1_roundsByte 12 = .ok (.idiv, 1) := by decide +kernel
theorem dX1_roundsByte_13 : decode cX1_roundsByte 13 = .ok (.invokevirtual 79, 3) := by decide +kernel
theorem dX1_roundsByte_16 : decode cX1_roundsByte 16 = .ok (.iadd, 1) := by decide +kernel
theorem dX1_roundsByte_17 : decode cX1_roundsByte 17 = .ok (.ireturn, 1) := by decide +kernel
theorem dX1_roundsByte_18 : decode cX1_roundsByte 18 = .ok (.iload_n 2, 1) := by decide +kernel
theorem dX1_roundsByte_19 : decode cX1_roundsByte 19 = .ok (.iconst 2, 1) := by decide +kernel
theorem dX1_roundsByte_20 : decode cX1_roundsByte 20 = .ok (.idiv, 1) := by decide +kernel
theorem dX1_roundsByte_21 : decode cX1_roundsByte 21 = .ok (.iload_n 3, 1) := by decide +kernel
theorem dX1_roundsByte_22 : decode cX1_roundsByte 22 = .ok (.iconst 1, 1) := by decide +kernel
theorem dX1_roundsByte_23 : decode cX1_roundsByte 23 = .ok (.isub, 1) := by decide +kernel
theorem dX1_roundsByte_24 : decode cX1_roundsByte 24 = .ok (.if_icmp .ne 8, 3) := by decide +kernel
theorem dX1_roundsByte_27 : decode cX1_roundsByte 27 = .ok (.bipush 59, 2) := by decide +kernel
theorem dX1_roundsByte_29 : decode cX1_roundsByte 29 = .ok (.goto 5, 3) := by decide +kernel
theorem dX1_roundsByte_32 : decode cX1_roundsByte 32 = .ok (.bipush 44, 2) := by decide +kernel
theorem dX1_roundsByte_34 : decode cX1_roundsByte 34 = .ok (.ireturn, 1) := by decide +kernel
theorem dX2_init_0 : decode cX2_init 0 = .ok (.aload_n 0, 1) := by decide +kernel
theorem dX2_init_1 : decode cX2_init 1 = .ok (.invokespecial 3, 3) := by decide +kernel
theorem dX2_init_4 : decode cX2_init 4 = .ok (.aload_n 0, 1) := by decide +kernel
theorem dX2_init_5 : decode cX2_init 5 = .ok (.iconst 1, 1) := by decide +kernel
theorem dX2_init_6 : decode cX2_init 6 = .ok (.putfield 9, 3) := by decide +kernel
theorem dX2_init_9 : decode cX2_init 9 = .ok (.aload_n 0, 1) := by decide +kernel
theorem dX2_init_10 : decode cX2_init 10 = .ok (.bipush 40, 2) := by decide +kernel
theorem dX2_init_12 : decode cX2_init 12 = .ok (.newarray .int, 2) := by decide +kernel
theorem dX2_init_14 : decode cX2_init 14 = .ok (.putfield 15, 3) := by decide +kernel
theorem dX2_init_17 : decode cX2_init 17 = .ok (.return_, 1) := by decide +kernel
theorem dX2_copyFrom_0 : decode cX2_copyFrom 0 = .ok (.aload_n 0, 1) := by decide +kernel
theorem dX2_copyFrom_1 : decode cX2_copyFrom 1 = .ok (.aload_n 1, 1) := by decide +kernel
theorem dX2_copyFrom_2 : decode cX2_copyFrom 2 = .ok (.getfield 19, 3) := by decide +kernel
theorem dX2_copyFrom_5 : decode cX2_copyFrom 5 = .ok (.putfield 19, 3) := by decide +kernel
theorem dX2_copyFrom_8 : decode cX2_copyFrom 8 = .ok (.aload_n 0, 1) := by decide +kernel
theorem dX2_copyFrom_9 : decode cX2_copyFrom 9 = .ok (.aload_n 1, 1) := by decide +kernel
theorem dX2_copyFrom_10 : decode cX2_copyFrom 10 = .ok (.getfield 9, 3) := by decide +kernel
theorem dX2_copyFrom_13 : decode cX2_copyFrom 13 = .ok (.putfield 9, 3) := by decide +kernel
theorem dX2_copyFrom_16 : decode cX2_copyFrom 16 = .ok (.aload_n 0, 1) := by decide +kernel
theorem dX2_copyFrom_17 : decode cX2_copyFrom 17 = .ok (.aload_n 1, 1) := by decide +kernel
theorem dX2_copyFrom_18 : decode cX2_copyFrom 18 = .ok (.getfield 22, 3) := by decide +kernel
theorem dX2_copyFrom_21 : decode cX2_copyFrom 21 = .ok (.putfield 22, 3) := by decide +kernel
theorem dX2_copyFrom_24 : decode cX2_copyFrom 24 = .ok (.aload_n 1, 1) := by decide +kernel
theorem dX2_copyFrom_25 : decode cX2_copyFrom 25 = .ok (.getfield 15, 3) := by decide +kernel
theorem dX2_copyFrom_28 : decode cX2_copyFrom 28 = .ok (.iconst 0, 1) := by decide +kernel
theorem dX2_copyFrom_29 : decode cX2_copyFrom 29 = .ok (.aload_n 0, 1) := by decide +kernel
theorem dX2_copyFrom_30 : decode cX2_copyFrom 30 = .ok (.getfield 15, 3) := by decide +kernel
theorem dX2_copyFrom_33 : decode cX2_copyFrom 33 = .ok (.iconst 0, 1) := by decide +kernel
theorem dX2_copyFrom_34 : decode cX2_copyFrom 34 = .ok (.aload_n 0, 1) := by decide +kernel
theorem dX2_copyFrom_35 : decode cX2_copyFrom 35 = .ok (.getfield 15, 3) := by decide +kernel
theorem dX2_copyFrom_38 : decode cX2_copyFrom 38 = .ok (.arraylength, 1) := by decide +kernel
theorem dX2_copyFrom_39 : decode cX2_copyFrom 39 = .ok (.invokestatic 25, 3) := by decide +kernel
theorem dX2_copyFrom_42 : decode cX2_copyFrom 42 = .ok (.return_, 1) := by decide +kernel
theorem dX2_sameDraws_0 : decode cX2_sameDraws 0 = .ok (.aload_n 0, 1) := by decide +kernel
theorem dX2_sameDraws_1 : decode cX2_sameDraws 1 = .ok (.getfield 19, 3) := by decide +kernel
theorem dX2_sameDraws_4 : decode cX2_sameDraws 4 = .ok (.aload_n 1, 1) := by decide +kernel
theorem dX2_sameDraws_5 : decode cX2_sameDraws 5 = .ok (.getfield 19, 3) := by decide +kernel
theorem dX2_sameDraws_8 : decode cX2_sameDraws 8 = .ok (.if_icmp .ne 29, 3) := by decide +kernel
theorem dX2_sameDraws_11 : decode cX2_sameDraws 11 = .ok (.aload_n 0, 1) := by decide +kernel
theorem dX2_sameDraws_12 : decode cX2_sameDraws 12 = .ok (.getfield 9, 3) := by decide +kernel
theorem dX2_sameDraws_15 : decode cX2_sameDraws 15 = .ok (.aload_n 1, 1) := by decide +kernel
theorem dX2_sameDraws_16 : decode cX2_sameDraws 16 = .ok (.getfield 9, 3) := by decide +kernel
theorem dX2_sameDraws_19 : decode cX2_sameDraws 19 = .ok (.if_icmp .ne 18, 3) := by decide +kernel
theorem dX2_sameDraws_22 : decode cX2_sameDraws 22 = .ok (.aload_n 0, 1) := by decide +kernel
theorem dX2_sameDraws_23 : decode cX2_sameDraws 23 = .ok (.getfield 22, 3) := by decide +kernel
theorem dX2_sameDraws_26 : decode cX2_sameDraws 26 = .ok (.aload_n 1, 1) := by decide +kernel
theorem dX2_sameDraws_27 : decode cX2_sameDraws 27 = .ok (.getfield 22, 3) := by decide +kernel
theorem dX2_sameDraws_30 : decode cX2_sameDraws 30 = .ok (.if_icmp .ne 7, 3) := by decide +kernel
theorem dX2_sameDraws_33 : decode cX2_sameDraws 33 = .ok (.iconst 1, 1) := by decide +kernel
theorem dX2_sameDraws_34 : decode cX2_sameDraws 34 = .ok (.goto 4, 3) := by decide +kernel
theorem dX2_sameDraws_37 : decode cX2_sameDraws 37 = .ok (.iconst 0, 1) := by decide +kernel
theorem dX2_sameDraws_38 : decode cX2_sameDraws 38 = .ok (.istore_n 2, 1) := by decide +kernel
theorem dX2_sameDraws_39 : decode cX2_sameDraws 39 = .ok (.iconst 0, 1) := by decide +kernel
theorem dX2_sameDraws_40 : decode cX2_sameDraws 40 = .ok (.istore_n 3, 1) := by decide +kernel
theorem dX2_sameDraws_41 : decode cX2_sameDraws 41 = .ok (.iload_n 2, 1) := by decide +kernel
theorem dX2_sameDraws_42 : decode cX2_sameDraws 42 = .ok (.ifCond .eq 68, 3) := by decide +kernel
theorem dX2_sameDraws_45 : decode cX2_sameDraws 45 = .ok (.iload_n 3, 1) := by decide +kernel
theorem dX2_sameDraws_46 : decode cX2_sameDraws 46 = .ok (.aload_n 0, 1) := by decide +kernel
theorem dX2_sameDraws_47 : decode cX2_sameDraws 47 = .ok (.getfield 19, 3) := by decide +kernel
theorem dX2_sameDraws_50 : decode cX2_sameDraws 50 = .ok (.if_icmp .ge 60, 3) := by decide +kernel
theorem dX2_sameDraws_53 : decode cX2_sameDraws 53 = .ok (.aload_n 0, 1) := by decide +kernel
theorem dX2_sameDraws_54 : decode cX2_sameDraws 54 = .ok (.iload_n 3, 1) := by decide +kernel
theorem dX2_sameDraws_55 : decode cX2_sameDraws 55 = .ok (.iconst 0, 1) := by decide +kernel
theorem dX2_sameDraws_56 : decode cX2_sameDraws 56 = .ok (.invokevirtual 31, 3) := by decide +kernel
theorem dX2_sameDraws_59 : decode cX2_sameDraws 59 = .ok (.aload_n 1, 1) := by decide +kernel
theorem dX2_sameDraws_60 : decode cX2_sameDraws 60 = .ok (.iload_n 3, 1) := by decide +kernel
theorem dX2_sameDraws_61 : decode cX2_sameDraws 61 = .ok (.iconst 0, 1) := by decide +kernel
theorem dX2_sameDraws_62 : decode cX2_sameDraws 62 = .ok (.invokevirtual 31, 3) := by decide +kernel
theorem dX2_sameDraws_65 : decode cX2_sameDraws 65 = .ok (.if_icmp .ne 37, 3) := by decide +kernel
theorem dX2_sameDraws_68 : decode cX2_sameDraws 68 = .ok (.aload_n 0, 1) := by decide +kernel
theorem dX2_sameDraws_69 : decode cX2_sameDraws 69 = .ok (.iload_n 3, 1) := by decide +kernel
theorem dX2_sameDraws_70 : decode cX2_sameDraws 70 = .ok (.iconst 1, 1) := by decide +kernel
theorem dX2_sameDraws_71 : decode cX2_sameDraws 71 = .ok (.invokevirtual 31, 3) := by decide +kernel
theorem dX2_sameDraws_74 : decode cX2_sameDraws 74 = .ok (.aload_n 1, 1) := by decide +kernel
theorem dX2_sameDraws_75 : decode cX2_sameDraws 75 = .ok (.iload_n 3, 1) := by decide +kernel
theorem dX2_sameDraws_76 : decode cX2_sameDraws 76 = .ok (.iconst 1, 1) := by decide +kernel
theorem dX2_sameDraws_77 : decode cX2_sameDraws 77 = .ok (.invokevirtual 31, 3) := by decide +kernel
theorem dX2_sameDraws_80 : decode cX2_sameDraws 80 = .ok (.if_icmp .ne 22, 3) := by decide +kernel
theorem dX2_sameDraws_83 : decode cX2_sameDraws 83 = .ok (.aload_n 0, 1) := by decide +kernel
theorem dX2_sameDraws_84 : decode cX2_sameDraws 84 = .ok (.iload_n 3, 1) := by decide +kernel
theorem dX2_sameDraws_85 : decode cX2_sameDraws 85 = .ok (.iconst 2, 1) := by decide +kernel
theorem dX2_sameDraws_86 : decode cX2_sameDraws 86 = .ok (.invokevirtual 31, 3) := by decide +kernel
theorem dX2_sameDraws_89 : decode cX2_sameDraws 89 = .ok (.aload_n 1, 1) := by decide +kernel
theorem dX2_sameDraws_90 : decode cX2_sameDraws 90 = .ok (.iload_n 3, 1) := by decide +kernel
theorem dX2_sameDraws_91 : decode cX2_sameDraws 91 = .ok (.iconst 2, 1) := by decide +kernel
theorem dX2_sameDraws_92 : decode cX2_sameDraws 92 = .ok (.invokevirtual 31, 3) := by decide +kernel
theorem dX2_sameDraws_95 : decode cX2_sameDraws 95 = .ok (.if_icmp .ne 7, 3) := by decide +kernel
theorem dX2_sameDraws_98 : decode cX2_sameDraws 98 = .ok (.iconst 1, 1) := by decide +kernel
theorem dX2_sameDraws_99 : decode cX2_sameDraws 99 = .ok (.goto 4, 3) := by decide +kernel
theorem dX2_sameDraws_102 : decode cX2_sameDraws 102 = .ok (.iconst 0, 1) := by decide +kernel
theorem dX2_sameDraws_103 : decode cX2_sameDraws 103 = .ok (.istore_n 2, 1) := by decide +kernel
theorem dX2_sameDraws_104 : decode cX2_sameDraws 104 = .ok (.iinc 3 1, 3) := by decide +kernel
theorem dX2_sameDraws_107 : decode cX2_sameDraws 107 = .ok (.goto (-66), 3) := by decide +kernel
theorem dX2_sameDraws_110 : decode cX2_sameDraws 110 = .ok (.iload_n 2, 1) := by decide +kernel
theorem dX2_sameDraws_111 : decode cX2_sameDraws 111 = .ok (.ireturn, 1) := by decide +kernel
theorem dX2_has_0 : decode cX2_has 0 = .ok (.iload_n 1, 1) := by decide +kernel
theorem dX2_has_1 : decode cX2_has 1 = .ok (.ifCond .lt 15, 3) := by decide +kernel
theorem dX2_has_4 : decode cX2_has 4 = .ok (.iload_n 1, 1) := by decide +kernel
theorem dX2_has_5 : decode cX2_has 5 = .ok (.aload_n 0, 1) := by decide +kernel
theorem dX2_has_6 : decode cX2_has 6 = .ok (.getfield 19, 3) := by decide +kernel
theorem dX2_has_9 : decode cX2_has 9 = .ok (.if_icmp .ge 7, 3) := by decide +kernel
theorem dX2_has_12 : decode cX2_has 12 = .ok (.iconst 1, 1) := by decide +kernel
theorem dX2_has_13 : decode cX2_has 13 = .ok (.goto 4, 3) := by decide +kernel
theorem dX2_has_16 : decode cX2_has 16 = .ok (.iconst 0, 1) := by decide +kernel
theorem dX2_has_17 : decode cX2_has 17 = .ok (.ireturn, 1) := by decide +kernel
theorem dX2_hasBoth_0 : decode cX2_hasBoth 0 = .ok (.aload_n 0, 1) := by decide +kernel
theorem dX2_hasBoth_1 : decode cX2_hasBoth 1 = .ok (.iload_n 1, 1) := by decide +kernel
theorem dX2_hasBoth_2 : decode cX2_hasBoth 2 = .ok (.invokevirtual 35, 3) := by decide +kernel
theorem dX2_hasBoth_5 : decode cX2_hasBoth 5 = .ok (.ifCond .eq 20, 3) := by decide +kernel
theorem dX2_hasBoth_8 : decode cX2_hasBoth 8 = .ok (.aload_n 0, 1) := by decide +kernel
theorem dX2_hasBoth_9 : decode cX2_hasBoth 9 = .ok (.iload_n 2, 1) := by decide +kernel
theorem dX2_hasBoth_10 : decode cX2_hasBoth 10 = .ok (.invokevirtual 35, 3) := by decide +kernel
theorem dX2_hasBoth_13 : decode cX2_hasBoth 13 = .ok (.ifCond .eq 12, 3) := by decide +kernel
theorem dX2_hasBoth_16 : decode cX2_hasBoth 16 = .ok (.iload_n 1, 1) := by decide +kernel
theorem dX2_hasBoth_17 : decode cX2_hasBoth 17 = .ok (.iload_n 2, 1) := by decide +kernel
theorem dX2_hasBoth_18 : decode cX2_hasBoth 18 = .ok (.if_icmp .eq 7, 3) := by decide +kernel
theorem dX2_hasBoth_21 : decode cX2_hasBoth 21 = .ok (.iconst 1, 1) := by decide +kernel
theorem dX2_hasBoth_22 : decode cX2_hasBoth 22 = .ok (.goto 4, 3) := by decide +kernel
theorem dX2_hasBoth_25 : decode cX2_hasBoth 25 = .ok (.iconst 0, 1) := by decide +kernel
theorem dX2_hasBoth_26 : decode cX2_hasBoth 26 = .ok (.ireturn, 1) := by decide +kernel
theorem dX2_bothLevels_0 : decode cX2_bothLevels 0 = .ok (.bipush 10, 2) := by decide +kernel
theorem dX2_bothLevels_2 : decode cX2_bothLevels 2 = .ok (.aload_n 0, 1) := by decide +kernel
theorem dX2_bothLevels_3 : decode cX2_bothLevels 3 = .ok (.getfield 9, 3) := by decide +kernel
theorem dX2_bothLevels_6 : decode cX2_bothLevels 6 = .ok (.imul, 1) := by decide +kernel
theorem dX2_bothLevels_7 : decode cX2_bothLevels 7 = .ok (.aload_n 0, 1) := by decide +kernel
theorem dX2_bothLevels_8 : decode cX2_bothLevels 8 = .ok (.getfield 22, 3) := by decide +kernel
theorem dX2_bothLevels_11 : decode cX2_bothLevels 11 = .ok (.iadd, 1) := by decide +kernel
theorem dX2_bothLevels_12 : decode cX2_bothLevels 12 = .ok (.ireturn, 1) := by decide +kernel
theorem dX2_hasSlot_0 : decode cX2_hasSlot 0 = .ok (.iload_n 1, 1) := by decide +kernel
theorem dX2_hasSlot_1 : decode cX2_hasSlot 1 = .ok (.ifCond .lt 15, 3) := by decide +kernel
theorem dX2_hasSlot_4 : decode cX2_hasSlot 4 = .ok (.iload_n 1, 1) := by decide +kernel
theorem dX2_hasSlot_5 : decode cX2_hasSlot 5 = .ok (.aload_n 0, 1) := by decide +kernel
theorem dX2_hasSlot_6 : decode cX2_hasSlot 6 = .ok (.invokevirtual 39, 3) := by decide +kernel
theorem dX2_hasSlot_9 : decode cX2_hasSlot 9 = .ok (.if_icmp .ge 7, 3) := by decide +kernel
theorem dX2_hasSlot_12 : decode cX2_hasSlot 12 = .ok (.iconst 1, 1) := by decide +kernel
theorem dX2_hasSlot_13 : decode cX2_hasSlot 13 = .ok (.goto 4, 3) := by decide +kernel
theorem dX2_hasSlot_16 : decode cX2_hasSlot 16 = .ok (.iconst 0, 1) := by decide +kernel
theorem dX2_hasSlot_17 : decode cX2_hasSlot 17 = .ok (.ireturn, 1) := by decide +kernel
theorem dX2_hasRound_0 : decode cX2_hasRound 0 = .ok (.iload_n 1, 1) := by decide +kernel
theorem dX2_hasRound_1 : decode cX2_hasRound 1 = .ok (.iconst 1, 1) := by decide +kernel
theorem dX2_hasRound_2 : decode cX2_hasRound 2 = .ok (.if_icmp .lt 15, 3) := by decide +kernel
theorem dX2_hasRound_5 : decode cX2_hasRound 5 = .ok (.iload_n 1, 1) := by decide +kernel
theorem dX2_hasRound_6 : decode cX2_hasRound 6 = .ok (.aload_n 0, 1) := by decide +kernel
theorem dX2_hasRound_7 : decode cX2_hasRound 7 = .ok (.invokevirtual 43, 3) := by decide +kernel
theorem dX2_hasRound_10 : decode cX2_hasRound 10 = .ok (.if_icmp .gt 7, 3) := by decide +kernel
theorem dX2_hasRound_13 : decode cX2_hasRound 13 = .ok (.iconst 1, 1) := by decide +kernel
theorem dX2_hasRound_14 : decode cX2_hasRound 14 = .ok (.goto 4, 3) := by decide +kernel
theorem dX2_hasRound_17 : decode cX2_hasRound 17 = .ok (.iconst 0, 1) := by decide +kernel
theorem dX2_hasRound_18 : decode cX2_hasRound 18 = .ok (.ireturn, 1) := by decide +kernel
theorem dX2_told_0 : decode cX2_told 0 = .ok (.aload_n 0, 1) := by decide +kernel
theorem dX2_told_1 : decode cX2_told 1 = .ok (.iload_n 1, 1) := by decide +kernel
theorem dX2_told_2 : decode cX2_told 2 = .ok (.invokevirtual 35, 3) := by decide +kernel
theorem dX2_told_5 : decode cX2_told 5 = .ok (.ifCond .eq 25, 3) := by decide +kernel
theorem dX2_told_8 : decode cX2_told 8 = .ok (.iload_n 2, 1) := by decide +kernel
theorem dX2_told_9 : decode cX2_told 9 = .ok (.ifCond .lt 21, 3) := by decide +kernel
theorem dX2_told_12 : decode cX2_told 12 = .ok (.iload_n 2, 1) := by decide +kernel
theorem dX2_told_13 : decode cX2_told 13 = .ok (.iconst 3, 1) := by decide +kernel
theorem dX2_told_14 : decode cX2_told 14 = .ok (.if_icmp .gt 16, 3) := by decide +kernel
theorem dX2_told_17 : decode cX2_told 17 = .ok (.aload_n 0, 1) := by decide +kernel
theorem dX2_told_18 : decode cX2_told 18 = .ok (.getfield 15, 3) := by decide +kernel
theorem dX2_told_21 : decode cX2_told 21 = .ok (.iload_n 1, 1) := by decide +kernel
theorem dX2_told_22 : decode cX2_told 22 = .ok (.iconst 4, 1) := by decide +kernel
theorem dX2_told_23 : decode cX2_told 23 = .ok (.imul, 1) := by decide +kernel
theorem dX2_told_24 : decode cX2_told 24 = .ok (.iload_n 2, 1) := by decide +kernel
theorem dX2_told_25 : decode cX2_told 25 = .ok (.iadd, 1) := by decide +kernel
theorem dX2_told_26 : decode cX2_told 26 = .ok (.iaload, 1) := by decide +kernel
theorem dX2_told_27 : decode cX2_told 27 = .ok (.goto 4, 3) := by decide +kernel
theorem dX2_told_30 : decode cX2_told 30 = .ok (.iconst 0, 1) := by decide +kernel
theorem dX2_told_31 : decode cX2_told 31 = .ok (.ireturn, 1) := by decide +kernel
theorem dX2_put_0 : decode cX2_put 0 = .ok (.aload_n 0, 1) := by decide +kernel
theorem dX2_put_1 : decode cX2_put 1 = .ok (.iload_n 1, 1) := by decide +kernel
theorem dX2_put_2 : decode cX2_put 2 = .ok (.invokevirtual 35, 3) := by decide +kernel
theorem dX2_put_5 : decode cX2_put 5 = .ok (.ifCond .eq 23, 3) := by decide +kernel
theorem dX2_put_8 : decode cX2_put 8 = .ok (.iload_n 2, 1) := by decide +kernel
theorem dX2_put_9 : decode cX2_put 9 = .ok (.ifCond .lt 19, 3) := by decide +kernel
theorem dX2_put_12 : decode cX2_put 12 = .ok (.iload_n 2, 1) := by decide +kernel
theorem dX2_put_13 : decode cX2_put 13 = .ok (.iconst 3, 1) := by decide +kernel
theorem dX2_put_14 : decode cX2_put 14 = .ok (.if_icmp .gt 14, 3) := by decide +kernel
theorem dX2_put_17 : decode cX2_put 17 = .ok (.aload_n 0, 1) := by decide +kernel
theorem dX2_put_18 : decode cX2_put 18 = .ok (.getfield 15, 3) := by decide +kernel
theorem dX2_put_21 : decode cX2_put 21 = .ok (.iload_n 1, 1) := by decide +kernel
theorem dX2_put_22 : decode cX2_put 22 = .ok (.iconst 4, 1) := by decide +kernel
theorem dX2_put_23 : decode cX2_put 23 = .ok (.imul, 1) := by decide +kernel
theorem dX2_put_24 : decode cX2_put 24 = .ok (.iload_n 2, 1) := by decide +kernel
theorem dX2_put_25 : decode cX2_put 25 = .ok (.iadd, 1) := by decide +kernel
theorem dX2_put_26 : decode cX2_put 26 = .ok (.iload_n 3, 1) := by decide +kernel
theorem dX2_put_27 : decode cX2_put 27 = .ok (.iastore, 1) := by decide +kernel
theorem dX2_put_28 : decode cX2_put 28 = .ok (.return_, 1) := by decide +kernel
theorem dX2_add_0 : decode cX2_add 0 = .ok (.aload_n 0, 1) := by decide +kernel
theorem dX2_add_1 : decode cX2_add 1 = .ok (.getfield 19, 3) := by decide +kernel
theorem dX2_add_4 : decode cX2_add 4 = .ok (.bipush 10, 2) := by decide +kernel
theorem dX2_add_6 : decode cX2_add 6 = .ok (.if_icmp .ge 62, 3) := by decide +kernel
theorem dX2_add_9 : decode cX2_add 9 = .ok (.aload_n 0, 1) := by decide +kernel
theorem dX2_add_10 : decode cX2_add 10 = .ok (.dup, 1) := by decide +kernel
theorem dX2_add_11 : decode cX2_add 11 = .ok (.getfield 19, 3) := by decide +kernel
theorem dX2_add_14 : decode cX2_add 14 = .ok (.iconst 1, 1) := by decide +kernel
theorem dX2_add_15 : decode cX2_add 15 = .ok (.iadd, 1) := by decide +kernel
theorem dX2_add_16 : decode cX2_add 16 = .ok (.putfield 19, 3) := by decide +kernel
theorem dX2_add_19 : decode cX2_add 19 = .ok (.aload_n 0, 1) := by decide +kernel
theorem dX2_add_20 : decode cX2_add 20 = .ok (.aload_n 0, 1) := by decide +kernel
theorem dX2_add_21 : decode cX2_add 21 = .ok (.getfield 19, 3) := by decide +kernel
theorem dX2_add_24 : decode cX2_add 24 = .ok (.iconst 1, 1) := by decide +kernel
theorem dX2_add_25 : decode cX2_add 25 = .ok (.isub, 1) := by decide +kernel
theorem dX2_add_26 : decode cX2_add 26 = .ok (.iconst 0, 1) := by decide +kernel
theorem dX2_add_27 : decode cX2_add 27 = .ok (.iload_n 1, 1) := by decide +kernel
theorem dX2_add_28 : decode cX2_add 28 = .ok (.invokevirtual 46, 3) := by decide +kernel
theorem dX2_add_31 : decode cX2_add 31 = .ok (.aload_n 0, 1) := by decide +kernel
theorem dX2_add_32 : decode cX2_add 32 = .ok (.aload_n 0, 1) := by decide +kernel
theorem dX2_add_33 : decode cX2_add 33 = .ok (.getfield 19, 3) := by decide +kernel
theorem dX2_add_36 : decode cX2_add 36 = .ok (.iconst 1, 1) := by decide +kernel
theorem dX2_add_37 : decode cX2_add 37 = .ok (.isub, 1) := by decide +kernel
theorem dX2_add_38 : decode cX2_add 38 = .ok (.iconst 1, 1) := by decide +kernel
theorem dX2_add_39 : decode cX2_add 39 = .ok (.iload_n 2, 1) := by decide +kernel
theorem dX2_add_40 : decode cX2_add 40 = .ok (.invokevirtual 46, 3) := by decide +kernel
theorem dX2_add_43 : decode cX2_add 43 = .ok (.aload_n 0, 1) := by decide +kernel
theorem dX2_add_44 : decode cX2_add 44 = .ok (.aload_n 0, 1) := by decide +kernel
theorem dX2_add_45 : decode cX2_add 45 = .ok (.getfield 19, 3) := by decide +kernel
theorem dX2_add_48 : decode cX2_add 48 = .ok (.iconst 1, 1) := by decide +kernel
theorem dX2_add_49 : decode cX2_add 49 = .ok (.isub, 1) := by decide +kernel
theorem dX2_add_50 : decode cX2_add 50 = .ok (.iconst 2, 1) := by decide +kernel
theorem dX2_add_51 : decode cX2_add 51 = .ok (.iload_n 3, 1) := by decide +kernel
theorem dX2_add_52 : decode cX2_add 52 = .ok (.invokevirtual 46, 3) := by decide +kernel
theorem dX2_add_55 : decode cX2_add 55 = .ok (.aload_n 0, 1) := by decide +kernel
theorem dX2_add_56 : decode cX2_add 56 = .ok (.aload_n 0, 1) := by decide +kernel
theorem dX2_add_57 : decode cX2_add 57 = .ok (.getfield 19, 3) := by decide +kernel
theorem dX2_add_60 : decode cX2_add 60 = .ok (.iconst 1, 1) := by decide +kernel
theorem dX2_add_61 : decode cX2_add 61 = .ok (.isub, 1) := by decide +kernel
theorem dX2_add_62 : decode cX2_add 62 = .ok (.iconst 3, 1) := by decide +kernel
theorem dX2_add_63 : decode cX2_add 63 = .ok (.iload 4, 2) := by decide +kernel
theorem dX2_add_65 : decode cX2_add 65 = .ok (.invokevirtual 46, 3) := by decide +kernel
theorem dX2_add_68 : decode cX2_add 68 = .ok (.return_, 1) := by decide +kernel
theorem dX2_mayTell_0 : decode cX2_mayTell 0 = .ok (.iload_n 3, 1) := by decide +kernel
theorem dX2_mayTell_1 : decode cX2_mayTell 1 = .ok (.ifCond .lt 11, 3) := by decide +kernel
theorem dX2_mayTell_4 : decode cX2_mayTell 4 = .ok (.iload_n 3, 1) := by decide +kernel
theorem dX2_mayTell_5 : decode cX2_mayTell 5 = .ok (.iload_n 2, 1) := by decide +kernel
theorem dX2_mayTell_6 : decode cX2_mayTell 6 = .ok (.invokestatic 50, 3) := by decide +kernel
theorem dX2_mayTell_9 : decode cX2_mayTell 9 = .ok (.if_icmp .le 5, 3) := by decide +kernel
theorem dX2_mayTell_12 : decode cX2_mayTell 12 = .ok (.iconst 0, 1) := by decide +kernel
theorem dX2_mayTell_13 : decode cX2_mayTell 13 = .ok (.ireturn, 1) := by decide +kernel
theorem dX2_mayTell_14 : decode cX2_mayTell 14 = .ok (.iconst 0, 1) := by decide +kernel
theorem dX2_mayTell_15 : decode cX2_mayTell 15 = .ok (.istore 4, 2) := by decide +kernel
theorem dX2_mayTell_17 : decode cX2_mayTell 17 = .ok (.iload_n 2, 1) := by decide +kernel
theorem dX2_mayTell_18 : decode cX2_mayTell 18 = .ok (.iconst 2, 1) := by decide +kernel
theorem dX2_mayTell_19 : decode cX2_mayTell 19 = .ok (.if_icmp .ne 41, 3) := by decide +kernel
theorem dX2_mayTell_22 : decode cX2_mayTell 22 = .ok (.iload_n 3, 1) := by decide +kernel
theorem dX2_mayTell_23 : decode cX2_mayTell 23 = .ok (.ifCond .le 37, 3) := by decide +kernel
theorem dX2_mayTell_26 : decode cX2_mayTell 26 = .ok (.iload 4, 2) := by decide +kernel
theorem dX2_mayTell_28 : decode cX2_mayTell 28 = .ok (.aload_n 0, 1) := by decide +kernel
theorem dX2_mayTell_29 : decode cX2_mayTell 29 = .ok (.getfield 19, 3) := by decide +kernel
theorem dX2_mayTell_32 : decode cX2_mayTell 32 = .ok (.if_icmp .ge 28, 3) := by decide +kernel
theorem dX2_mayTell_35 : decode cX2_mayTell 35 = .ok (.iload 4, 2) := by decide +kernel
theorem dX2_mayTell_37 : decode cX2_mayTell 37 = .ok (.iload_n 1, 1) := by decide +kernel
theorem dX2_mayTell_38 : decode cX2_mayTell 38 = .ok (.if_icmp .eq 16, 3) := by decide +kernel
theorem dX2_mayTell_41 : decode cX2_mayTell 41 = .ok (.aload_n 0, 1) := by decide +kernel
theorem dX2_mayTell_42 : decode cX2_mayTell 42 = .ok (.iload 4, 2) := by decide +kernel
theorem dX2_mayTell_44 : decode cX2_mayTell 44 = .ok (.iconst 2, 1) := by decide +kernel
theorem dX2_mayTell_45 : decode cX2_mayTell 45 = .ok (.invokevirtual 31, 3) := by decide +kernel
theorem dX2_mayTell_48 : decode cX2_mayTell 48 = .ok (.iload_n 3, 1) := by decide +kernel
theorem dX2_mayTell_49 : decode cX2_mayTell 49 = .ok (.if_icmp .ne 5, 3) := by decide +kernel
theorem dX2_mayTell_52 : decode cX2_mayTell 52 = .ok (.iconst 0, 1) := by decide +kernel
theorem dX2_mayTell_53 : decode cX2_mayTell 53 = .ok (.ireturn, 1) := by decide +kernel
theorem dX2_mayTell_54 : decode cX2_mayTell 54 = .ok (.iinc 4 1, 3) := by decide +kernel
theorem dX2_mayTell_57 : decode cX2_mayTell 57 = .ok (.goto (-40), 3) := by decide +kernel
theorem dX2_mayTell_60 : decode cX2_mayTell 60 = .ok (.iconst 1, 1) := by decide +kernel
theorem dX2_mayTell_61 : decode cX2_mayTell 61 = .ok (.ireturn, 1) := by decide +kernel
theorem dX2_largest_0 : decode cX2_largest 0 = .ok (.iload_n 0, 1) := by decide +kernel
theorem dX2_largest_1 : decode cX2_largest 1 = .ok (.tableswitch 41 0 3 #[31, 33, 35, 38], 31) := by decide +kernel
theorem dX2_largest_32 : decode cX2_largest 32 = .ok (.iconst 5, 1) := by decide +kernel
theorem dX2_largest_33 : decode cX2_largest 33 = .ok (.ireturn, 1) := by decide +kernel
theorem dX2_largest_34 : decode cX2_largest 34 = .ok (.iconst 3, 1) := by decide +kernel
theorem dX2_largest_35 : decode cX2_largest 35 = .ok (.ireturn, 1) := by decide +kernel
theorem dX2_largest_36 : decode cX2_largest 36 = .ok (.bipush 8, 2) := by decide +kernel
theorem dX2_largest_38 : decode cX2_largest 38 = .ok (.ireturn, 1) := by decide +kernel
theorem dX2_largest_39 : decode cX2_largest 39 = .ok (.bipush 99, 2) := by decide +kernel
theorem dX2_largest_41 : decode cX2_largest 41 = .ok (.ireturn, 1) := by decide +kernel
theorem dX2_largest_42 : decode cX2_largest 42 = .ok (.iconst (-1), 1) := by decide +kernel
theorem dX2_largest_43 : decode cX2_largest 43 = .ok (.ireturn, 1) := by decide +kernel
theorem dX2_all_0 : decode cX2_all 0 = .ok (.iconst 1, 1) := by decide +kernel
theorem dX2_all_1 : decode cX2_all 1 = .ok (.aload_n 0, 1) := by decide +kernel
theorem dX2_all_2 : decode cX2_all 2 = .ok (.getfield 19, 3) := by decide +kernel
theorem dX2_all_5 : decode cX2_all 5 = .ok (.ishl, 1) := by decide +kernel
theorem dX2_all_6 : decode cX2_all 6 = .ok (.iconst 1, 1) := by decide +kernel
theorem dX2_all_7 : decode cX2_all 7 = .ok (.isub, 1) := by decide +kernel
theorem dX2_all_8 : decode cX2_all 8 = .ok (.ireturn, 1) := by decide +kernel
theorem dX2_slots_0 : decode cX2_slots 0 = .ok (.iconst 2, 1) := by decide +kernel
theorem dX2_slots_1 : decode cX2_slots 1 = .ok (.istore_n 1, 1) := by decide +kernel
theorem dX2_slots_2 : decode cX2_slots 2 = .ok (.iconst 2, 1) := by decide +kernel
theorem dX2_slots_3 : decode cX2_slots 3 = .ok (.istore_n 2, 1) := by decide +kernel
theorem dX2_slots_4 : decode cX2_slots 4 = .ok (.iload_n 2, 1) := by decide +kernel
theorem dX2_slots_5 : decode cX2_slots 5 = .ok (.aload_n 0, 1) := by decide +kernel
theorem dX2_slots_6 : decode cX2_slots 6 = .ok (.getfield 19, 3) := by decide +kernel
theorem dX2_slots_9 : decode cX2_slots 9 = .ok (.if_icmp .ge 20, 3) := by decide +kernel
theorem dX2_slots_12 : decode cX2_slots 12 = .ok (.iload_n 1, 1) := by decide +kernel
theorem dX2_slots_13 : decode cX2_slots 13 = .ok (.bipush 16, 2) := by decide +kernel
theorem dX2_slots_15 : decode cX2_slots 15 = .ok (.if_icmp .ge 14, 3) := by decide +kernel
theorem dX2_slots_18 : decode cX2_slots 18 = .ok (.iload_n 2, 1) := by decide +kernel
theorem dX2_slots_19 : decode cX2_slots 19 = .ok (.iconst 2, 1) := by decide +kernel
theorem dX2_slots_20 : decode cX2_slots 20 = .ok (.imul, 1) := by decide +kernel
theorem dX2_slots_21 : decode cX2_slots 21 = .ok (.istore_n 1, 1) := by decide +kernel
theorem dX2_slots_22 : decode cX2_slots 22 = .ok (.iload_n 2, 1) := by decide +kernel
theorem dX2_slots_23 : decode cX2_slots 23 = .ok (.iconst 2, 1) := by decide +kernel
theorem dX2_slots_24 : decode cX2_slots 24 = .ok (.imul, 1) := by decide +kernel
theorem dX2_slots_25 : decode cX2_slots 25 = .ok (.istore_n 2, 1) := by decide +kernel
theorem dX2_slots_26 : decode cX2_slots 26 = .ok (.goto (-22), 3) := by decide +kernel
theorem dX2_slots_29 : decode cX2_slots 29 = .ok (.iload_n 1, 1) := by decide +kernel
theorem dX2_slots_30 : decode cX2_slots 30 = .ok (.ireturn, 1) := by decide +kernel
theorem dX2_rounds_0 : decode cX2_rounds 0 = .ok (.aload_n 0, 1) := by decide +kernel
theorem dX2_rounds_1 : decode cX2_rounds 1 = .ok (.invokevirtual 39, 3) := by decide +kernel
theorem dX2_rounds_4 : decode cX2_rounds 4 = .ok (.istore_n 1, 1) := by decide +kernel
theorem dX2_rounds_5 : decode cX2_rounds 5 = .ok (.iconst 1, 1) := by decide +kernel
theorem dX2_rounds_6 : decode cX2_rounds 6 = .ok (.istore_n 2, 1) := by decide +kernel
theorem dX2_rounds_7 : decode cX2_rounds 7 = .ok (.iconst 2, 1) := by decide +kernel
theorem dX2_rounds_8 : decode cX2_rounds 8 = .ok (.istore_n 3, 1) := by decide +kernel
theorem dX2_rounds_9 : decode cX2_rounds 9 = .ok (.iload_n 3, 1) := by decide +kernel
theorem dX2_rounds_10 : decode cX2_rounds 10 = .ok (.iload_n 1, 1) := by decide +kernel
theorem dX2_rounds_11 : decode cX2_rounds 11 = .ok (.if_icmp .ge 13, 3) := by decide +kernel
theorem dX2_rounds_14 : decode cX2_rounds 14 = .ok (.iinc 2 1, 3) := by decide +kernel
theorem dX2_rounds_17 : decode cX2_rounds 17 = .ok (.iload_n 3, 1) := by decide +kernel
theorem dX2_rounds_18 : decode cX2_rounds 18 = .ok (.iconst 2, 1) := by decide +kernel
theorem dX2_rounds_19 : decode cX2_rounds 19 = .ok (.imul, 1) := by decide +kernel
theorem dX2_rounds_20 : decode cX2_rounds 20 = .ok (.istore_n 3, 1) := by decide +kernel
theorem dX2_rounds_21 : decode cX2_rounds 21 = .ok (.goto (-12), 3) := by decide +kernel
theorem dX2_rounds_24 : decode cX2_rounds 24 = .ok (.iload_n 2, 1) := by decide +kernel
theorem dX2_rounds_25 : decode cX2_rounds 25 = .ok (.ireturn, 1) := by decide +kernel
theorem dX2_byes_0 : decode cX2_byes 0 = .ok (.aload_n 0, 1) := by decide +kernel
theorem dX2_byes_1 : decode cX2_byes 1 = .ok (.invokevirtual 39, 3) := by decide +kernel
theorem dX2_byes_4 : decode cX2_byes 4 = .ok (.aload_n 0, 1) := by decide +kernel
theorem dX2_byes_5 : decode cX2_byes 5 = .ok (.getfield 19, 3) := by decide +kernel
theorem dX2_byes_8 : decode cX2_byes 8 = .ok (.isub, 1) := by decide +kernel
theorem dX2_byes_9 : decode cX2_byes 9 = .ok (.ireturn, 1) := by decide +kernel
theorem dX2_seedSlot_0 : decode cX2_seedSlot 0 = .ok (.aload_n 0, 1) := by decide +kernel
theorem dX2_seedSlot_1 : decode cX2_seedSlot 1 = .ok (.iload_n 1, 1) := by decide +kernel
theorem dX2_seedSlot_2 : decode cX2_seedSlot 2 = .ok (.iconst 2, 1) := by decide +kernel
theorem dX2_seedSlot_3 : decode cX2_seedSlot 3 = .ok (.invokevirtual 31, 3) := by decide +kernel
theorem dX2_seedSlot_6 : decode cX2_seedSlot 6 = .ok (.istore_n 2, 1) := by decide +kernel
theorem dX2_seedSlot_7 : decode cX2_seedSlot 7 = .ok (.aload_n 0, 1) := by decide +kernel
theorem dX2_seedSlot_8 : decode cX2_seedSlot 8 = .ok (.invokevirtual 39, 3) := by decide +kernel
theorem dX2_seedSlot_11 : decode cX2_seedSlot 11 = .ok (.istore_n 3, 1) := by decide +kernel
theorem dX2_seedSlot_12 : decode cX2_seedSlot 12 = .ok (.iload_n 2, 1) := by decide +kernel
theorem dX2_seedSlot_13 : decode cX2_seedSlot 13 = .ok (.iconst 1, 1) := by decide +kernel
theorem dX2_seedSlot_14 : decode cX2_seedSlot 14 = .ok (.if_icmp .lt 8, 3) := by decide +kernel
theorem dX2_seedSlot_17 : decode cX2_seedSlot 17 = .ok (.iload_n 2, 1) := by decide +kernel
theorem dX2_seedSlot_18 : decode cX2_seedSlot 18 = .ok (.iload_n 3, 1) := by decide +kernel
theorem dX2_seedSlot_19 : decode cX2_seedSlot 19 = .ok (.if_icmp .le 5, 3) := by decide +kernel
theorem dX2_seedSlot_22 : decode cX2_seedSlot 22 = .ok (.iconst (-1), 1) := by decide +kernel
theorem dX2_seedSlot_23 : decode cX2_seedSlot 23 = .ok (.ireturn, 1) := by decide +kernel
theorem dX2_seedSlot_24 : decode cX2_seedSlot 24 = .ok (.iconst 0, 1) := by decide +kernel
theorem dX2_seedSlot_25 : decode cX2_seedSlot 25 = .ok (.istore 4, 2) := by decide +kernel
theorem dX2_seedSlot_27 : decode cX2_seedSlot 27 = .ok (.iconst 1, 1) := by decide +kernel
theorem dX2_seedSlot_28 : decode cX2_seedSlot 28 = .ok (.istore 5, 2) := by decide +kernel
theorem dX2_seedSlot_30 : decode cX2_seedSlot 30 = .ok (.iload_n 3, 1) := by decide +kernel
theorem dX2_seedSlot_31 : decode cX2_seedSlot 31 = .ok (.istore 6, 2) := by decide +kernel
theorem dX2_seedSlot_33 : decode cX2_seedSlot 33 = .ok (.iload 6, 2) := by decide +kernel
theorem dX2_seedSlot_35 : decode cX2_seedSlot 35 = .ok (.iconst 1, 1) := by decide +kernel
theorem dX2_seedSlot_36 : decode cX2_seedSlot 36 = .ok (.if_icmp .le 40, 3) := by decide +kernel
theorem dX2_seedSlot_39 : decode cX2_seedSlot 39 = .ok (.iload_n 2, 1) := by decide +kernel
theorem dX2_seedSlot_40 : decode cX2_seedSlot 40 = .ok (.iload 6, 2) := by decide +kernel
theorem dX2_seedSlot_42 : decode cX2_seedSlot 42 = .ok (.iconst 2, 1) := by decide +kernel
theorem dX2_seedSlot_43 : decode cX2_seedSlot 43 = .ok (.idiv, 1) := by decide +kernel
theorem dX2_seedSlot_44 : decode cX2_seedSlot 44 = .ok (.if_icmp .le 17, 3) := by decide +kernel
theorem dX2_seedSlot_47 : decode cX2_seedSlot 47 = .ok (.iload 6, 2) := by decide +kernel
theorem dX2_seedSlot_49 : decode cX2_seedSlot 49 = .ok (.iconst 1, 1) := by decide +kernel
theorem dX2_seedSlot_50 : decode cX2_seedSlot 50 = .ok (.iadd, 1) := by decide +kernel
theorem dX2_seedSlot_51 : decode cX2_seedSlot 51 = .ok (.iload_n 2, 1) := by decide +kernel
theorem dX2_seedSlot_52 : decode cX2_seedSlot 52 = .ok (.isub, 1) := by decide +kernel
theorem dX2_seedSlot_53 : decode cX2_seedSlot 53 = .ok (.istore_n 2, 1) := by decide +kernel
theorem dX2_seedSlot_54 : decode cX2_seedSlot 54 = .ok (.iload 4, 2) := by decide +kernel
theorem dX2_seedSlot_56 : decode cX2_seedSlot 56 = .ok (.iload 5, 2) := by decide +kernel
theorem dX2_seedSlot_58 : decode cX2_seedSlot 58 = .ok (.iadd, 1) := by decide +kernel
theorem dX2_seedSlot_59 : decode cX2_seedSlot 59 = .ok (.istore 4, 2) := by decide +kernel
theorem dX2_seedSlot_61 : decode cX2_seedSlot 61 = .ok (.iload 5, 2) := by decide +kernel
theorem dX2_seedSlot_63 : decode cX2_seedSlot 63 = .ok (.iconst 2, 1) := by decide +kernel
theorem dX2_seedSlot_64 : decode cX2_seedSlot 64 = .ok (.imul, 1) := by decide +kernel
theorem dX2_seedSlot_65 : decode cX2_seedSlot 65 = .ok (.istore 5, 2) := by decide +kernel
theorem dX2_seedSlot_67 : decode cX2_seedSlot 67 = .ok (.iload 6, 2) := by decide +kernel
theorem dX2_seedSlot_69 : decode cX2_seedSlot 69 = .ok (.iconst 2, 1) := by decide +kernel
theorem dX2_seedSlot_70 : decode cX2_seedSlot 70 = .ok (.idiv, 1) := by decide +kernel
theorem dX2_seedSlot_71 : decode cX2_seedSlot 71 = .ok (.istore 6, 2) := by decide +kernel
theorem dX2_seedSlot_73 : decode cX2_seedSlot 73 = .ok (.goto (-40), 3) := by decide +kernel
theorem dX2_seedSlot_76 : decode cX2_seedSlot 76 = .ok (.iload 4, 2) := by decide +kernel
theorem dX2_seedSlot_78 : decode cX2_seedSlot 78 = .ok (.ireturn, 1) := by decide +kernel
theorem dX2_beats_0 : decode cX2_beats 0 = .ok (.aload_n 0, 1) := by decide +kernel
theorem dX2_beats_1 : decode cX2_beats 1 = .ok (.iload_n 1, 1) := by decide +kernel
theorem dX2_beats_2 : decode cX2_beats 2 = .ok (.iconst 3, 1) := by decide +kernel
theorem dX2_beats_3 : decode cX2_beats 3 = .ok (.invokevirtual 31, 3) := by decide +kernel
theorem dX2_beats_6 : decode cX2_beats 6 = .ok (.aload_n 0, 1) := by decide +kernel
theorem dX2_beats_7 : decode cX2_beats 7 = .ok (.iload_n 2, 1) := by decide +kernel
theorem dX2_beats_8 : decode cX2_beats 8 = .ok (.iconst 3, 1) := by decide +kernel
theorem dX2_beats_9 : decode cX2_beats 9 = .ok (.invokevirtual 31, 3) := by decide +kernel
theorem dX2_beats_12 : decode cX2_beats 12 = .ok (.isub, 1) := by decide +kernel
theorem dX2_beats_13 : decode cX2_beats 13 = .ok (.istore_n 3, 1) := by decide +kernel
theorem dX2_beats_14 : decode cX2_beats 14 = .ok (.iload_n 3, 1) := by decide +kernel
theorem dX2_beats_15 : decode cX2_beats 15 = .ok (.ifCond .gt 12, 3) := by decide +kernel
theorem dX2_beats_18 : decode cX2_beats 18 = .ok (.iload_n 3, 1) := by decide +kernel
theorem dX2_beats_19 : decode cX2_beats 19 = .ok (.ifCond .ne 12, 3) := by decide +kernel
theorem dX2_beats_22 : decode cX2_beats 22 = .ok (.iload_n 1, 1) := by decide +kernel
theorem dX2_beats_23 : decode cX2_beats 23 = .ok (.iload_n 2, 1) := by decide +kernel
theorem dX2_beats_24 : decode cX2_beats 24 = .ok (.if_icmp .ge 7, 3) := by decide +kernel
theorem dX2_beats_27 : decode cX2_beats 27 = .ok (.iconst 1, 1) := by decide +kernel
theorem dX2_beats_28 : decode cX2_beats 28 = .ok (.goto 4, 3) := by decide +kernel
theorem dX2_beats_31 : decode cX2_beats 31 = .ok (.iconst 0, 1) := by decide +kernel
theorem dX2_beats_32 : decode cX2_beats 32 = .ok (.ireturn, 1) := by decide +kernel
theorem dX2_strongest_0 : decode cX2_strongest 0 = .ok (.iconst 0, 1) := by decide +kernel
theorem dX2_strongest_1 : decode cX2_strongest 1 = .ok (.istore_n 1, 1) := by decide +kernel
theorem dX2_strongest_2 : decode cX2_strongest 2 = .ok (.iconst 1, 1) := by decide +kernel
theorem dX2_strongest_3 : decode cX2_strongest 3 = .ok (.istore_n 2, 1) := by decide +kernel
theorem dX2_strongest_4 : decode cX2_strongest 4 = .ok (.iload_n 2, 1) := by decide +kernel
theorem dX2_strongest_5 : decode cX2_strongest 5 = .ok (.aload_n 0, 1) := by decide +kernel
theorem dX2_strongest_6 : decode cX2_strongest 6 = .ok (.getfield 19, 3) := by decide +kernel
theorem dX2_strongest_9 : decode cX2_strongest 9 = .ok (.if_icmp .ge 20, 3) := by decide +kernel
theorem dX2_strongest_12 : decode cX2_strongest 12 = .ok (.aload_n 0, 1) := by decide +kernel
theorem dX2_strongest_13 : decode cX2_strongest 13 = .ok (.iload_n 2, 1) := by decide +kernel
theorem dX2_strongest_14 : decode cX2_strongest 14 = .ok (.iload_n 1, 1) := by decide +kernel
theorem dX2_strongest_15 : decode cX2_strongest 15 = .ok (.invokevirtual 54, 3) := by decide +kernel
theorem dX2_strongest_18 : decode cX2_strongest 18 = .ok (.ifCond .eq 5, 3) := by decide +kernel
theorem dX2_strongest_21 : decode cX2_strongest 21 = .ok (.iload_n 2, 1) := by decide +kernel
theorem dX2_strongest_22 : decode cX2_strongest 22 = .ok (.istore_n 1, 1) := by decide +kernel
theorem dX2_strongest_23 : decode cX2_strongest 23 = .ok (.iinc 2 1, 3) := by decide +kernel
theorem dX2_strongest_26 : decode cX2_strongest 26 = .ok (.goto (-22), 3) := by decide +kernel
theorem dX2_strongest_29 : decode cX2_strongest 29 = .ok (.iload_n 1, 1) := by decide +kernel
theorem dX2_strongest_30 : decode cX2_strongest 30 = .ok (.ireturn, 1) := by decide +kernel
theorem dX3_init_0 : decode cX3_init 0 = .ok (.aload_n 0, 1) := by decide +kernel
theorem dX3_init_1 : decode cX3_init 1 = .ok (.invokespecial 1, 3) := by decide +kernel
theorem dX3_init_4 : decode cX3_init 4 = .ok (.aload_n 0, 1) := by decide +kernel
theorem dX3_init_5 : decode cX3_init 5 = .ok (.bipush 11, 2) := by decide +kernel
theorem dX3_init_7 : decode cX3_init 7 = .ok (.anewarray 9, 3) := by decide +kernel
theorem dX3_init_10 : decode cX3_init 10 = .ok (.putfield 11, 3) := by decide +kernel
theorem dX3_init_13 : decode cX3_init 13 = .ok (.iconst 0, 1) := by decide +kernel
theorem dX3_init_14 : decode cX3_init 14 = .ok (.istore_n 1, 1) := by decide +kernel
theorem dX3_init_15 : decode cX3_init 15 = .ok (.iload_n 1, 1) := by decide +kernel
theorem dX3_init_16 : decode cX3_init 16 = .ok (.aload_n 0, 1) := by decide +kernel
theorem dX3_init_17 : decode cX3_init 17 = .ok (.getfield 11, 3) := by decide +kernel
theorem dX3_init_20 : decode cX3_init 20 = .ok (.arraylength, 1) := by decide +kernel
theorem dX3_init_21 : decode cX3_init 21 = .ok (.if_icmp .ge 22, 3) := by decide +kernel
theorem dX3_init_24 : decode cX3_init 24 = .ok (.aload_n 0, 1) := by decide +kernel
theorem dX3_init_25 : decode cX3_init 25 = .ok (.getfield 11, 3) := by decide +kernel
theorem dX3_init_28 : decode cX3_init 28 = .ok (.iload_n 1, 1) := by decide +kernel
theorem dX3_init_29 : decode cX3_init 29 = .ok (.new 9, 3) := by decide +kernel
theorem dX3_init_32 : decode cX3_init 32 = .ok (.dup, 1) := by decide +kernel
theorem dX3_init_33 : decode cX3_init 33 = .ok (.invokespecial 15, 3) := by decide +kernel
theorem dX3_init_36 : decode cX3_init 36 = .ok (.aastore, 1) := by decide +kernel
theorem dX3_init_37 : decode cX3_init 37 = .ok (.iinc 1 1, 3) := by decide +kernel
theorem dX3_init_40 : decode cX3_init 40 = .ok (.goto (-25), 3) := by decide +kernel
theorem dX3_init_43 : decode cX3_init 43 = .ok (.return_, 1) := by decide +kernel
theorem dX3_forget_0 : decode cX3_forget 0 = .ok (.aload_n 0, 1) := by decide +kernel
theorem dX3_forget_1 : decode cX3_forget 1 = .ok (.iconst 0, 1) := by decide +kernel
theorem dX3_forget_2 : decode cX3_forget 2 = .ok (.putfield 16, 3) := by decide +kernel
theorem dX3_forget_5 : decode cX3_forget 5 = .ok (.aload_n 0, 1) := by decide +kernel
theorem dX3_forget_6 : decode cX3_forget 6 = .ok (.iconst 0, 1) := by decide +kernel
theorem dX3_forget_7 : decode cX3_forget 7 = .ok (.putfield 20, 3) := by decide +kernel
theorem dX3_forget_10 : decode cX3_forget 10 = .ok (.aload_n 0, 1) := by decide +kernel
theorem dX3_forget_11 : decode cX3_forget 11 = .ok (.getfield 11, 3) := by decide +kernel
theorem dX3_forget_14 : decode cX3_forget 14 = .ok (.iconst 0, 1) := by decide +kernel
theorem dX3_forget_15 : decode cX3_forget 15 = .ok (.aaload, 1) := by decide +kernel
theorem dX3_forget_16 : decode cX3_forget 16 = .ok (.aload_n 1, 1) := by decide +kernel
theorem dX3_forget_17 : decode cX3_forget 17 = .ok (.invokevirtual 23, 3) := by decide +kernel
theorem dX3_forget_20 : decode cX3_forget 20 = .ok (.return_, 1) := by decide +kernel
theorem dX3_remember_0 : decode cX3_remember 0 = .ok (.aload_n 0, 1) := by decide +kernel
theorem dX3_remember_1 : decode cX3_remember 1 = .ok (.getfield 16, 3) := by decide +kernel
theorem dX3_remember_4 : decode cX3_remember 4 = .ok (.bipush 10, 2) := by decide +kernel
theorem dX3_remember_6 : decode cX3_remember 6 = .ok (.if_icmp .ge 16, 3) := by decide +kernel
theorem dX3_remember_9 : decode cX3_remember 9 = .ok (.aload_n 0, 1) := by decide +kernel
theorem dX3_remember_10 : decode cX3_remember 10 = .ok (.dup, 1) := by decide +kernel
theorem dX3_remember_11 : decode cX3_remember 11 = .ok (.getfield 16, 3) := by decide +kernel
theorem dX3_remember_14 : decode cX3_remember 14 = .ok (.iconst 1, 1) := by decide +kernel
theorem dX3_remember_15 : decode cX3_remember 15 = .ok (.iadd, 1) := by decide +kernel
theorem dX3_remember_16 : decode cX3_remember 16 = .ok (.putfield 16, 3) := by decide +kernel
theorem dX3_remember_19 : decode cX3_remember 19 = .ok (.goto 7, 3) := by decide +kernel
theorem dX3_remember_22 : decode cX3_remember 22 = .ok (.aload_n 0, 1) := by decide +kernel
theorem dX3_remember_23 : decode cX3_remember 23 = .ok (.invokevirtual 27, 3) := by decide +kernel
theorem dX3_remember_26 : decode cX3_remember 26 = .ok (.aload_n 0, 1) := by decide +kernel
theorem dX3_remember_27 : decode cX3_remember 27 = .ok (.aload_n 0, 1) := by decide +kernel
theorem dX3_remember_28 : decode cX3_remember 28 = .ok (.getfield 16, 3) := by decide +kernel
theorem dX3_remember_31 : decode cX3_remember 31 = .ok (.putfield 20, 3) := by decide +kernel
theorem dX3_remember_34 : decode cX3_remember 34 = .ok (.aload_n 0, 1) := by decide +kernel
theorem dX3_remember_35 : decode cX3_remember 35 = .ok (.getfield 11, 3) := by decide +kernel
theorem dX3_remember_38 : decode cX3_remember 38 = .ok (.aload_n 0, 1) := by decide +kernel
theorem dX3_remember_39 : decode cX3_remember 39 = .ok (.getfield 16, 3) := by decide +kernel
theorem dX3_remember_42 : decode cX3_remember 42 = .ok (.aaload, 1) := by decide +kernel
theorem dX3_remember_43 : decode cX3_remember 43 = .ok (.aload_n 1, 1) := by decide +kernel
theorem dX3_remember_44 : decode cX3_remember 44 = .ok (.invokevirtual 23, 3) := by decide +kernel
theorem dX3_remember_47 : decode cX3_remember 47 = .ok (.return_, 1) := by decide +kernel
theorem dX3_loseOldest_0 : decode cX3_loseOldest 0 = .ok (.aload_n 0, 1) := by decide +kernel
theorem dX3_loseOldest_1 : decode cX3_loseOldest 1 = .ok (.getfield 11, 3) := by decide +kernel
theorem dX3_loseOldest_4 : decode cX3_loseOldest 4 = .ok (.iconst 0, 1) := by decide +kernel
theorem dX3_loseOldest_5 : decode cX3_loseOldest 5 = .ok (.aaload, 1) := by decide +kernel
theorem dX3_loseOldest_6 : decode cX3_loseOldest 6 = .ok (.astore_n 1, 1) := by decide +kernel
theorem dX3_loseOldest_7 : decode cX3_loseOldest 7 = .ok (.iconst 1, 1) := by decide +kernel
theorem dX3_loseOldest_8 : decode cX3_loseOldest 8 = .ok (.istore_n 2, 1) := by decide +kernel
theorem dX3_loseOldest_9 : decode cX3_loseOldest 9 = .ok (.iload_n 2, 1) := by decide +kernel
theorem dX3_loseOldest_10 : decode cX3_loseOldest 10 = .ok (.aload_n 0, 1) := by decide +kernel
theorem dX3_loseOldest_11 : decode cX3_loseOldest 11 = .ok (.getfield 11, 3) := by decide +kernel
theorem dX3_loseOldest_14 : decode cX3_loseOldest 14 = .ok (.arraylength, 1) := by decide +kernel
theorem dX3_loseOldest_15 : decode cX3_loseOldest 15 = .ok (.if_icmp .ge 23, 3) := by decide +kernel
theorem dX3_loseOldest_18 : decode cX3_loseOldest 18 = .ok (.aload_n 0, 1) := by decide +kernel
theorem dX3_loseOldest_19 : decode cX3_loseOldest 19 = .ok (.getfield 11, 3) := by decide +kernel
theorem dX3_loseOldest_22 : decode cX3_loseOldest 22 = .ok (.iload_n 2, 1) := by decide +kernel
theorem dX3_loseOldest_23 : decode cX3_loseOldest 23 = .ok (.iconst 1, 1) := by decide +kernel
theorem dX3_loseOldest_24 : decode cX3_loseOldest 24 = .ok (.isub, 1) := by decide +kernel
theorem dX3_loseOldest_25 : decode cX3_loseOldest 25 = .ok (.aload_n 0, 1) := by decide +kernel
theorem dX3_loseOldest_26 : decode cX3_loseOldest 26 = .ok (.getfield 11, 3) := by decide +kernel
theorem dX3_loseOldest_29 : decode cX3_loseOldest 29 = .ok (.iload_n 2, 1) := by decide +kernel
theorem dX3_loseOldest_30 : decode cX3_loseOldest 30 = .ok (.aaload, 1) := by decide +kernel
theorem dX3_loseOldest_31 : decode cX3_loseOldest 31 = .ok (.aastore, 1) := by decide +kernel
theorem dX3_loseOldest_32 : decode cX3_loseOldest 32 = .ok (.iinc 2 1, 3) := by decide +kernel
theorem dX3_loseOldest_35 : decode cX3_loseOldest 35 = .ok (.goto (-26), 3) := by decide +kernel
theorem dX3_loseOldest_38 : decode cX3_loseOldest 38 = .ok (.aload_n 0, 1) := by decide +kernel
theorem dX3_loseOldest_39 : decode cX3_loseOldest 39 = .ok (.getfield 11, 3) := by decide +kernel
theorem dX3_loseOldest_42 : decode cX3_loseOldest 42 = .ok (.aload_n 0, 1) := by decide +kernel
theorem dX3_loseOldest_43 : decode cX3_loseOldest 43 = .ok (.getfield 11, 3) := by decide +kernel
theorem dX3_loseOldest_46 : decode cX3_loseOldest 46 = .ok (.arraylength, 1) := by decide +kernel
theorem dX3_loseOldest_47 : decode cX3_loseOldest 47 = .ok (.iconst 1, 1) := by decide +kernel
theorem dX3_loseOldest_48 : decode cX3_loseOldest 48 = .ok (.isub, 1) := by decide +kernel
theorem dX3_loseOldest_49 : decode cX3_loseOldest 49 = .ok (.aload_n 1, 1) := by decide +kernel
theorem dX3_loseOldest_50 : decode cX3_loseOldest 50 = .ok (.aastore, 1) := by decide +kernel
theorem dX3_loseOldest_51 : decode cX3_loseOldest 51 = .ok (.return_, 1) := by decide +kernel
theorem dX3_step_0 : decode cX3_step 0 = .ok (.aload_n 0, 1) := by decide +kernel
theorem dX3_step_1 : decode cX3_step 1 = .ok (.getfield 16, 3) := by decide +kernel
theorem dX3_step_4 : decode cX3_step 4 = .ok (.iload_n 2, 1) := by decide +kernel
theorem dX3_step_5 : decode cX3_step 5 = .ok (.iadd, 1) := by decide +kernel
theorem dX3_step_6 : decode cX3_step 6 = .ok (.istore_n 3, 1) := by decide +kernel
theorem dX3_step_7 : decode cX3_step 7 = .ok (.iload_n 3, 1) := by decide +kernel
theorem dX3_step_8 : decode cX3_step 8 = .ok (.ifCond .lt 35, 3) := by decide +kernel
theorem dX3_step_11 : decode cX3_step 11 = .ok (.iload_n 3, 1) := by decide +kernel
theorem dX3_step_12 : decode cX3_step 12 = .ok (.aload_n 0, 1) := by decide +kernel
theorem dX3_step_13 : decode cX3_step 13 = .ok (.getfield 20, 3) := by decide +kernel
theorem dX3_step_16 : decode cX3_step 16 = .ok (.if_icmp .gt 27, 3) := by decide +kernel
theorem dX3_step_19 : decode cX3_step 19 = .ok (.iload_n 3, 1) := by decide +kernel
theorem dX3_step_20 : decode cX3_step 20 = .ok (.aload_n 0, 1) := by decide +kernel
theorem dX3_step_21 : decode cX3_step 21 = .ok (.getfield 11, 3) := by decide +kernel
theorem dX3_step_24 : decode cX3_step 24 = .ok (.arraylength, 1) := by decide +kernel
theorem dX3_step_25 : decode cX3_step 25 = .ok (.if_icmp .ge 18, 3) := by decide +kernel
theorem dX3_step_28 : decode cX3_step 28 = .ok (.aload_n 0, 1) := by decide +kernel
theorem dX3_step_29 : decode cX3_step 29 = .ok (.iload_n 3, 1) := by decide +kernel
theorem dX3_step_30 : decode cX3_step 30 = .ok (.putfield 16, 3) := by decide +kernel
theorem dX3_step_33 : decode cX3_step 33 = .ok (.aload_n 1, 1) := by decide +kernel
theorem dX3_step_34 : decode cX3_step 34 = .ok (.aload_n 0, 1) := by decide +kernel
theorem dX3_step_35 : decode cX3_step 35 = .ok (.getfield 11, 3) := by decide +kernel
theorem dX3_step_38 : decode cX3_step 38 = .ok (.iload_n 3, 1) := by decide +kernel
theorem dX3_step_39 : decode cX3_step 39 = .ok (.aaload, 1) := by decide +kernel
theorem dX3_step_40 : decode cX3_step 40 = .ok (.invokevirtual 23, 3) := by decide +kernel
theorem dX3_step_43 : decode cX3_step 43 = .ok (.return_, 1) := by decide +kernel
theorem dX4_init_0 : decode cX4_init 0 = .ok (.aload_n 0, 1) := by decide +kernel
theorem dX4_init_1 : decode cX4_init 1 = .ok (.invokespecial 3, 3) := by decide +kernel
theorem dX4_init_4 : decode cX4_init 4 = .ok (.aload_n 0, 1) := by decide +kernel
theorem dX4_init_5 : decode cX4_init 5 = .ok (.bipush 32, 2) := by decide +kernel
theorem dX4_init_7 : decode cX4_init 7 = .ok (.newarray .int, 2) := by decide +kernel
theorem dX4_init_9 : decode cX4_init 9 = .ok (.putfield 9, 3) := by decide +kernel
theorem dX4_init_12 : decode cX4_init 12 = .ok (.aload_n 0, 1) := by decide +kernel
theorem dX4_init_13 : decode cX4_init 13 = .ok (.bipush 32, 2) := by decide +kernel
theorem dX4_init_15 : decode cX4_init 15 = .ok (.newarray .long, 2) := by decide +kernel
theorem dX4_init_17 : decode cX4_init 17 = .ok (.putfield 15, 3) := by decide +kernel
theorem dX4_init_20 : decode cX4_init 20 = .ok (.return_, 1) := by decide +kernel
theorem dX4_lay_0 : decode cX4_lay 0 = .ok (.aload_n 0, 1) := by decide +kernel
theorem dX4_lay_1 : decode cX4_lay 1 = .ok (.getfield 9, 3) := by decide +kernel
theorem dX4_lay_4 : decode cX4_lay 4 = .ok (.iconst 1, 1) := by decide +kernel
theorem dX4_lay_5 : decode cX4_lay 5 = .ok (.aload_n 1, 1) := by decide +kernel
theorem dX4_lay_6 : decode cX4_lay 6 = .ok (.getfield 19, 3) := by decide +kernel
theorem dX4_lay_9 : decode cX4_lay 9 = .ok (.iastore, 1) := by decide +kernel
theorem dX4_lay_10 : decode cX4_lay 10 = .ok (.aload_n 0, 1) := by decide +kernel
theorem dX4_lay_11 : decode cX4_lay 11 = .ok (.getfield 15, 3) := by decide +kernel
theorem dX4_lay_14 : decode cX4_lay 14 = .ok (.iconst 1, 1) := by decide +kernel
theorem dX4_lay_15 : decode cX4_lay 15 = .ok (.lload_n 2, 1) := by decide +kernel
theorem dX4_lay_16 : decode cX4_lay 16 = .ok (.lastore, 1) := by decide +kernel
theorem dX4_lay_17 : decode cX4_lay 17 = .ok (.iconst 1, 1) := by decide +kernel
theorem dX4_lay_18 : decode cX4_lay 18 = .ok (.istore 5, 2) := by decide +kernel
theorem dX4_lay_20 : decode cX4_lay 20 = .ok (.iload 5, 2) := by decide +kernel
theorem dX4_lay_22 : decode cX4_lay 22 = .ok (.aload_n 1, 1) := by decide +kernel
theorem dX4_lay_23 : decode cX4_lay 23 = .ok (.getfield 25, 3) := by decide +kernel
theorem dX4_lay_26 : decode cX4_lay 26 = .ok (.if_icmp .ge 30, 3) := by decide +kernel
theorem dX4_lay_29 : decode cX4_lay 29 = .ok (.iconst 2, 1) := by decide +kernel
theorem dX4_lay_30 : decode cX4_lay 30 = .ok (.iload 5, 2) := by decide +kernel
theorem dX4_lay_32 : decode cX4_lay 32 = .ok (.imul, 1) := by decide +kernel
theorem dX4_lay_33 : decode cX4_lay 33 = .ok (.iconst 1, 1) := by decide +kernel
theorem dX4_lay_34 : decode cX4_lay 34 = .ok (.iadd, 1) := by decide +kernel
theorem dX4_lay_35 : decode cX4_lay 35 = .ok (.aload_n 0, 1) := by decide +kernel
theorem dX4_lay_36 : decode cX4_lay 36 = .ok (.getfield 9, 3) := by decide +kernel
theorem dX4_lay_39 : decode cX4_lay 39 = .ok (.arraylength, 1) := by decide +kernel
theorem dX4_lay_40 : decode cX4_lay 40 = .ok (.if_icmp .ge 16, 3) := by decide +kernel
theorem dX4_lay_43 : decode cX4_lay 43 = .ok (.aload_n 0, 1) := by decide +kernel
theorem dX4_lay_44 : decode cX4_lay 44 = .ok (.aload_n 1, 1) := by decide +kernel
theorem dX4_lay_45 : decode cX4_lay 45 = .ok (.iload 5, 2) := by decide +kernel
theorem dX4_lay_47 : decode cX4_lay 47 = .ok (.invokevirtual 28, 3) := by decide +kernel
theorem dX4_lay_50 : decode cX4_lay 50 = .ok (.iinc 5 1, 3) := by decide +kernel
theorem dX4_lay_53 : decode cX4_lay 53 = .ok (.goto (-33), 3) := by decide +kernel
theorem dX4_lay_56 : decode cX4_lay 56 = .ok (.aload_n 1, 1) := by decide +kernel
theorem dX4_lay_57 : decode cX4_lay 57 = .ok (.getfield 25, 3) := by decide +kernel
theorem dX4_lay_60 : decode cX4_lay 60 = .ok (.istore 5, 2) := by decide +kernel
theorem dX4_lay_62 : decode cX4_lay 62 = .ok (.iload 5, 2) := by decide +kernel
theorem dX4_lay_64 : decode cX4_lay 64 = .ok (.iconst 2, 1) := by decide +kernel
theorem dX4_lay_65 : decode cX4_lay 65 = .ok (.aload_n 1, 1) := by decide +kernel
theorem dX4_lay_66 : decode cX4_lay 66 = .ok (.getfield 25, 3) := by decide +kernel
theorem dX4_lay_69 : decode cX4_lay 69 = .ok (.imul, 1) := by decide +kernel
theorem dX4_lay_70 : decode cX4_lay 70 = .ok (.if_icmp .ge 59, 3) := by decide +kernel
theorem dX4_lay_73 : decode cX4_lay 73 = .ok (.iload 5, 2) := by decide +kernel
theorem dX4_lay_75 : decode cX4_lay 75 = .ok (.aload 4, 2) := by decide +kernel
theorem dX4_lay_77 : decode cX4_lay 77 = .ok (.arraylength, 1) := by decide +kernel
theorem dX4_lay_78 : decode cX4_lay 78 = .ok (.if_icmp .ge 51, 3) := by decide +kernel
theorem dX4_lay_81 : decode cX4_lay 81 = .ok (.iload 5, 2) := by decide +kernel
theorem dX4_lay_83 : decode cX4_lay 83 = .ok (.aload_n 0, 1) := by decide +kernel
theorem dX4_lay_84 : decode cX4_lay 84 = .ok (.getfield 9, 3) := by decide +kernel
theorem dX4_lay_87 : decode cX4_lay 87 = .ok (.arraylength, 1) := by decide +kernel
theorem dX4_lay_88 : decode cX4_lay 88 = .ok (.if_icmp .ge 41, 3) := by decide +kernel
theorem dX4_lay_91 : decode cX4_lay 91 = .ok (.aload 4, 2) := by decide +kernel
theorem dX4_lay_93 : decode cX4_lay 93 = .ok (.iload 5, 2) := by decide +kernel
theorem dX4_lay_95 : decode cX4_lay 95 = .ok (.aload_n 0, 1) := by decide +kernel
theorem dX4_lay_96 : decode cX4_lay 96 = .ok (.getfield 9, 3) := by decide +kernel
theorem dX4_lay_99 : decode cX4_lay 99 = .ok (.iload 5, 2) := by decide +kernel
theorem dX4_lay_101 : decode cX4_lay 101 = .ok (.iaload, 1) := by decide +kernel
theorem dX4_lay_102 : decode cX4_lay 102 = .ok (.ifCond .ne 8, 3) := by decide +kernel
theorem dX4_lay_105 : decode cX4_lay 105 = .ok (.bipush 10, 2) := by decide +kernel
theorem dX4_lay_107 : decode cX4_lay 107 = .ok (.goto 15, 3) := by decide +kernel
theorem dX4_lay_110 : decode cX4_lay 110 = .ok (.aload_n 0, 1) := by decide +kernel
theorem dX4_lay_111 : decode cX4_lay 111 = .ok (.getfield 9, 3) := by decide +kernel
theorem dX4_lay_114 : decode cX4_lay 114 = .ok (.iload 5, 2) := by decide +kernel
theorem dX4_lay_116 : decode cX4_lay 116 = .ok (.iaload, 1) := by decide +kernel
theorem dX4_lay_117 : decode cX4_lay 117 = .ok (.iconst 1, 1) := by decide +kernel
theorem dX4_lay_118 : decode cX4_lay 118 = .ok (.isub, 1) := by decide +kernel
theorem dX4_lay_119 : decode cX4_lay 119 = .ok (.invokestatic 32, 3) := by decide +kernel
theorem dX4_lay_122 : decode cX4_lay 122 = .ok (.iastore, 1) := by decide +kernel
theorem dX4_lay_123 : decode cX4_lay 123 = .ok (.iinc 5 1, 3) := by decide +kernel
theorem dX4_lay_126 : decode cX4_lay 126 = .ok (.goto (-64), 3) := by decide +kernel
theorem dX4_lay_129 : decode cX4_lay 129 = .ok (.return_, 1) := by decide +kernel
theorem dX4_split_0 : decode cX4_split 0 = .ok (.aload_n 0, 1) := by decide +kernel
theorem dX4_split_1 : decode cX4_split 1 = .ok (.getfield 9, 3) := by decide +kernel
theorem dX4_split_4 : decode cX4_split 4 = .ok (.iload_n 2, 1) := by decide +kernel
theorem dX4_split_5 : decode cX4_split 5 = .ok (.iaload, 1) := by decide +kernel
theorem dX4_split_6 : decode cX4_split 6 = .ok (.istore_n 3, 1) := by decide +kernel
theorem dX4_split_7 : decode cX4_split 7 = .ok (.iconst 1, 1) := by decide +kernel
theorem dX4_split_8 : decode cX4_split 8 = .ok (.iload_n 3, 1) := by decide +kernel
theorem dX4_split_9 : decode cX4_split 9 = .ok (.invokestatic 32, 3) := by decide +kernel
theorem dX4_split_12 : decode cX4_split 12 = .ok (.ishl, 1) := by decide +kernel
theorem dX4_split_13 : decode cX4_split 13 = .ok (.istore 4, 2) := by decide +kernel
theorem dX4_split_15 : decode cX4_split 15 = .ok (.iconst 0, 1) := by decide +kernel
theorem dX4_split_16 : decode cX4_split 16 = .ok (.istore 5, 2) := by decide +kernel
theorem dX4_split_18 : decode cX4_split 18 = .ok (.aload_n 0, 1) := by decide +kernel
theorem dX4_split_19 : decode cX4_split 19 = .ok (.getfield 15, 3) := by decide +kernel
theorem dX4_split_22 : decode cX4_split 22 = .ok (.iload_n 2, 1) := by decide +kernel
theorem dX4_split_23 : decode cX4_split 23 = .ok (.laload, 1) := by decide +kernel
theorem dX4_split_24 : decode cX4_split 24 = .ok (.lstore 6, 2) := by decide +kernel
theorem dX4_split_26 : decode cX4_split 26 = .ok (.iconst 0, 1) := by decide +kernel
theorem dX4_split_27 : decode cX4_split 27 = .ok (.istore 8, 2) := by decide +kernel
theorem dX4_split_29 : decode cX4_split 29 = .ok (.iload 8, 2) := by decide +kernel
theorem dX4_split_31 : decode cX4_split 31 = .ok (.iload 4, 2) := by decide +kernel
theorem dX4_split_33 : decode cX4_split 33 = .ok (.if_icmp .ge 132, 3) := by decide +kernel
theorem dX4_split_36 : decode cX4_split 36 = .ok (.aload_n 1, 1) := by decide +kernel
theorem dX4_split_37 : decode cX4_split 37 = .ok (.iconst 2, 1) := by decide +kernel
theorem dX4_split_38 : decode cX4_split 38 = .ok (.iload_n 2, 1) := by decide +kernel
theorem dX4_split_39 : decode cX4_split 39 = .ok (.imul, 1) := by decide +kernel
theorem dX4_split_40 : decode cX4_split 40 = .ok (.iconst 1, 1) := by decide +kernel
theorem dX4_split_41 : decode cX4_split 41 = .ok (.iadd, 1) := by decide +kernel
theorem dX4_split_42 : decode cX4_split 42 = .ok (.iload_n 3, 1) := by decide +kernel
theorem dX4_split_43 : decode cX4_split 43 = .ok (.iload 5, 2) := by decide +kernel
theorem dX4_split_45 : decode cX4_split 45 = .ok (.ixor, 1) := by decide +kernel
theorem dX4_split_46 : decode cX4_split 46 = .ok (.invokevirtual 38, 3) := by decide +kernel
theorem dX4_split_49 : decode cX4_split 49 = .ok (.lstore 9, 2) := by decide +kernel
theorem dX4_split_51 : decode cX4_split 51 = .ok (.lload 9, 2) := by decide +kernel
theorem dX4_split_53 : decode cX4_split 53 = .ok (.lconst 0, 1) := by decide +kernel
theorem dX4_split_54 : decode cX4_split 54 = .ok (.lcmp, 1) := by decide +kernel
theorem dX4_split_55 : decode cX4_split 55 = .ok (.ifCond .ne 7, 3) := by decide +kernel
theorem dX4_split_58 : decode cX4_split 58 = .ok (.lconst 0, 1) := by decide +kernel
theorem dX4_split_59 : decode cX4_split 59 = .ok (.goto 15, 3) := by decide +kernel
theorem dX4_split_62 : decode cX4_split 62 = .ok (.lload 9, 2) := by decide +kernel
theorem dX4_split_64 : decode cX4_split 64 = .ok (.aload_n 1, 1) := by decide +kernel
theorem dX4_split_65 : decode cX4_split 65 = .ok (.iconst 2, 1) := by decide +kernel
theorem dX4_split_66 : decode cX4_split 66 = .ok (.iload_n 2, 1) := by decide +kernel
theorem dX4_split_67 : decode cX4_split 67 = .ok (.imul, 1) := by decide +kernel
theorem dX4_split_68 : decode cX4_split 68 = .ok (.iload 5, 2) := by decide +kernel
theorem dX4_split_70 : decode cX4_split 70 = .ok (.invokevirtual 38, 3) := by decide +kernel
theorem dX4_split_73 : decode cX4_split 73 = .ok (.lmul, 1) := by decide +kernel
theorem dX4_split_74 : decode cX4_split 74 = .ok (.lstore 11, 2) := by decide +kernel
theorem dX4_split_76 : decode cX4_split 76 = .ok (.lload 9, 2) := by decide +kernel
theorem dX4_split_78 : decode cX4_split 78 = .ok (.lconst 0, 1) := by decide +kernel
theorem dX4_split_79 : decode cX4_split 79 = .ok (.lcmp, 1) := by decide +kernel
theorem dX4_split_80 : decode cX4_split 80 = .ok (.ifCond .le 64, 3) := by decide +kernel
theorem dX4_split_83 : decode cX4_split 83 = .ok (.lload 6, 2) := by decide +kernel
theorem dX4_split_85 : decode cX4_split 85 = .ok (.lload 11, 2) := by decide +kernel
theorem dX4_split_87 : decode cX4_split 87 = .ok (.lcmp, 1) := by decide +kernel
theorem dX4_split_88 : decode cX4_split 88 = .ok (.ifCond .ge 56, 3) := by decide +kernel
theorem dX4_split_91 : decode cX4_split 91 = .ok (.aload_n 0, 1) := by decide +kernel
theorem dX4_split_92 : decode cX4_split 92 = .ok (.getfield 9, 3) := by decide +kernel
theorem dX4_split_95 : decode cX4_split 95 = .ok (.iconst 2, 1) := by decide +kernel
theorem dX4_split_96 : decode cX4_split 96 = .ok (.iload_n 2, 1) := by decide +kernel
theorem dX4_split_97 : decode cX4_split 97 = .ok (.imul, 1) := by decide +kernel
theorem dX4_split_98 : decode cX4_split 98 = .ok (.iload 5, 2) := by decide +kernel
theorem dX4_split_100 : decode cX4_split 100 = .ok (.iastore, 1) := by decide +kernel
theorem dX4_split_101 : decode cX4_split 101 = .ok (.aload_n 0, 1) := by decide +kernel
theorem dX4_split_102 : decode cX4_split 102 = .ok (.getfield 9, 3) := by decide +kernel
theorem dX4_split_105 : decode cX4_split 105 = .ok (.iconst 2, 1) := by decide +kernel
theorem dX4_split_106 : decode cX4_split 106 = .ok (.iload_n 2, 1) := by decide +kernel
theorem dX4_split_107 : decode cX4_split 107 = .ok (.imul, 1) := by decide +kernel
theorem dX4_split_108 : decode cX4_split 108 = .ok (.iconst 1, 1) := by decide +kernel
theorem dX4_split_109 : decode cX4_split 109 = .ok (.iadd, 1) := by decide +kernel
theorem dX4_split_110 : decode cX4_split 110 = .ok (.iload_n 3, 1) := by decide +kernel
theorem dX4_split_111 : decode cX4_split 111 = .ok (.iload 5, 2) := by decide +kernel
theorem dX4_split_113 : decode cX4_split 113 = .ok (.ixor, 1) := by decide +kernel
theorem dX4_split_114 : decode cX4_split 114 = .ok (.iastore, 1) := by decide +kernel
theorem dX4_split_115 : decode cX4_split 115 = .ok (.aload_n 0, 1) := by decide +kernel
theorem dX4_split_116 : decode cX4_split 116 = .ok (.getfield 15, 3) := by decide +kernel
theorem dX4_split_119 : decode cX4_split 119 = .ok (.iconst 2, 1) := by decide +kernel
theorem dX4_split_120 : decode cX4_split 120 = .ok (.iload_n 2, 1) := by decide +kernel
theorem dX4_split_121 : decode cX4_split 121 = .ok (.imul, 1) := by decide +kernel
theorem dX4_split_122 : decode cX4_split 122 = .ok (.lload 6, 2) := by decide +kernel
theorem dX4_split_124 : decode cX4_split 124 = .ok (.lload 9, 2) := by decide +kernel
theorem dX4_split_126 : decode cX4_split 126 = .ok (.ldiv, 1) := by decide +kernel
theorem dX4_split_127 : decode cX4_split 127 = .ok (.lastore, 1) := by decide +kernel
theorem dX4_split_128 : decode cX4_split 128 = .ok (.aload_n 0, 1) := by decide +kernel
theorem dX4_split_129 : decode cX4_split 129 = .ok (.getfield 15, 3) := by decide +kernel
theorem dX4_split_132 : decode cX4_split 132 = .ok (.iconst 2, 1) := by decide +kernel
theorem dX4_split_133 : decode cX4_split 133 = .ok (.iload_n 2, 1) := by decide +kernel
theorem dX4_split_134 : decode cX4_split 134 = .ok (.imul, 1) := by decide +kernel
theorem dX4_split_135 : decode cX4_split 135 = .ok (.iconst 1, 1) := by decide +kernel
theorem dX4_split_136 : decode cX4_split 136 = .ok (.iadd, 1) := by decide +kernel
theorem dX4_split_137 : decode cX4_split 137 = .ok (.lload 6, 2) := by decide +kernel
theorem dX4_split_139 : decode cX4_split 139 = .ok (.lload 9, 2) := by decide +kernel
theorem dX4_split_141 : decode cX4_split 141 = .ok (.lrem, 1) := by decide +kernel
theorem dX4_split_142 : decode cX4_split 142 = .ok (.lastore, 1) := by decide +kernel
theorem dX4_split_143 : decode cX4_split 143 = .ok (.return_, 1) := by decide +kernel
theorem dX4_split_144 : decode cX4_split 144 = .ok (.lload 6, 2) := by decide +kernel
theorem dX4_split_146 : decode cX4_split 146 = .ok (.lload 11, 2) := by decide +kernel
theorem dX4_split_148 : decode cX4_split 148 = .ok (.lsub, 1) := by decide +kernel
theorem dX4_split_149 : decode cX4_split 149 = .ok (.lstore 6, 2) := by decide +kernel
theorem dX4_split_151 : decode cX4_split 151 = .ok (.iload 5, 2) := by decide +kernel
theorem dX4_split_153 : decode cX4_split 153 = .ok (.iload_n 3, 1) := by decide +kernel
theorem dX4_split_154 : decode cX4_split 154 = .ok (.isub, 1) := by decide +kernel
theorem dX4_split_155 : decode cX4_split 155 = .ok (.iload_n 3, 1) := by decide +kernel
theorem dX4_split_156 : decode cX4_split 156 = .ok (.iand, 1) := by decide +kernel
theorem dX4_split_157 : decode cX4_split 157 = .ok (.istore 5, 2) := by decide +kernel
theorem dX4_split_159 : decode cX4_split 159 = .ok (.iinc 8 1, 3) := by decide +kernel
theorem dX4_split_162 : decode cX4_split 162 = .ok (.goto (-133), 3) := by decide +kernel
theorem dX4_split_165 : decode cX4_split 165 = .ok (.return_, 1) := by decide +kernel
theorem dX4_numberOfSwapped_0 : decode cX4_numberOfSwapped 0 = .ok (.iconst 0, 1) := by decide +kernel
theorem dX4_numberOfSwapped_1 : decode cX4_numberOfSwapped 1 = .ok (.istore 5, 2) := by decide +kernel
theorem dX4_numberOfSwapped_3 : decode cX4_numberOfSwapped 3 = .ok (.iload 5, 2) := by decide +kernel
theorem dX4_numberOfSwapped_5 : decode cX4_numberOfSwapped 5 = .ok (.aload_n 2, 1) := by decide +kernel
theorem dX4_numberOfSwapped_6 : decode cX4_numberOfSwapped 6 = .ok (.getfield 42, 3) := by decide +kernel
theorem dX4_numberOfSwapped_9 : decode cX4_numberOfSwapped 9 = .ok (.if_icmp .ge 94, 3) := by decide +kernel
theorem dX4_numberOfSwapped_12 : decode cX4_numberOfSwapped 12 = .ok (.aload_n 2, 1) := by decide +kernel
theorem dX4_numberOfSwapped_13 : decode cX4_numberOfSwapped 13 = .ok (.getfield 42, 3) := by decide +kernel
theorem dX4_numberOfSwapped_16 : decode cX4_numberOfSwapped 16 = .ok (.iload 5, 2) := by decide +kernel
theorem dX4_numberOfSwapped_18 : decode cX4_numberOfSwapped 18 = .ok (.iadd, 1) := by decide +kernel
theorem dX4_numberOfSwapped_19 : decode cX4_numberOfSwapped 19 = .ok (.aload_n 0, 1) := by decide +kernel
theorem dX4_numberOfSwapped_20 : decode cX4_numberOfSwapped 20 = .ok (.getfield 9, 3) := by decide +kernel
theorem dX4_numberOfSwapped_23 : decode cX4_numberOfSwapped 23 = .ok (.arraylength, 1) := by decide +kernel
theorem dX4_numberOfSwapped_24 : decode cX4_numberOfSwapped 24 = .ok (.if_icmp .ge 79, 3) := by decide +kernel
theorem dX4_numberOfSwapped_27 : decode cX4_numberOfSwapped 27 = .ok (.aload_n 2, 1) := by decide +kernel
theorem dX4_numberOfSwapped_28 : decode cX4_numberOfSwapped 28 = .ok (.iload 5, 2) := by decide +kernel
theorem dX4_numberOfSwapped_30 : decode cX4_numberOfSwapped 30 = .ok (.invokevirtual 45, 3) := by decide +kernel
theorem dX4_numberOfSwapped_33 : decode cX4_numberOfSwapped 33 = .ok (.istore 6, 2) := by decide +kernel
theorem dX4_numberOfSwapped_35 : decode cX4_numberOfSwapped 35 = .ok (.iload 6, 2) := by decide +kernel
theorem dX4_numberOfSwapped_37 : decode cX4_numberOfSwapped 37 = .ok (.iload_n 3, 1) := by decide +kernel
theorem dX4_numberOfSwapped_38 : decode cX4_numberOfSwapped 38 = .ok (.if_icmp .eq 10, 3) := by decide +kernel
theorem dX4_numberOfSwapped_41 : decode cX4_numberOfSwapped 41 = .ok (.iload 6, 2) := by decide +kernel
theorem dX4_numberOfSwapped_43 : decode cX4_numberOfSwapped 43 = .ok (.iload 4, 2) := by decide +kernel
theorem dX4_numberOfSwapped_45 : decode cX4_numberOfSwapped 45 = .ok (.if_icmp .ne 12, 3) := by decide +kernel
theorem dX4_numberOfSwapped_48 : decode cX4_numberOfSwapped 48 = .ok (.iload_n 3, 1) := by decide +kernel
theorem dX4_numberOfSwapped_49 : decode cX4_numberOfSwapped 49 = .ok (.iload 4, 2) := by decide +kernel
theorem dX4_numberOfSwapped_51 : decode cX4_numberOfSwapped 51 = .ok (.iadd, 1) := by decide +kernel
theorem dX4_numberOfSwapped_52 : decode cX4_numberOfSwapped 52 = .ok (.iload 6, 2) := by decide +kernel
theorem dX4_numberOfSwapped_54 : decode cX4_numberOfSwapped 54 = .ok (.isub, 1) := by decide +kernel
theorem dX4_numberOfSwapped_55 : decode cX4_numberOfSwapped 55 = .ok (.istore 6, 2) := by decide +kernel
theorem dX4_numberOfSwapped_57 : decode cX4_numberOfSwapped 57 = .ok (.aload_n 0, 1) := by decide +kernel
theorem dX4_numberOfSwapped_58 : decode cX4_numberOfSwapped 58 = .ok (.getfield 9, 3) := by decide +kernel
theorem dX4_numberOfSwapped_61 : decode cX4_numberOfSwapped 61 = .ok (.aload_n 2, 1) := by decide +kernel
theorem dX4_numberOfSwapped_62 : decode cX4_numberOfSwapped 62 = .ok (.getfield 42, 3) := by decide +kernel
theorem dX4_numberOfSwapped_65 : decode cX4_numberOfSwapped 65 = .ok (.iload 5, 2) := by decide +kernel
theorem dX4_numberOfSwapped_67 : decode cX4_numberOfSwapped 67 = .ok (.iadd, 1) := by decide +kernel
theorem dX4_numberOfSwapped_68 : decode cX4_numberOfSwapped 68 = .ok (.iload 6, 2) := by decide +kernel
theorem dX4_numberOfSwapped_70 : decode cX4_numberOfSwapped 70 = .ok (.bipush 10, 2) := by decide +kernel
theorem dX4_numberOfSwapped_72 : decode cX4_numberOfSwapped 72 = .ok (.if_icmp .ne 7, 3) := by decide +kernel
theorem dX4_numberOfSwapped_75 : decode cX4_numberOfSwapped 75 = .ok (.iconst 0, 1) := by decide +kernel
theorem dX4_numberOfSwapped_76 : decode cX4_numberOfSwapped 76 = .ok (.goto 7, 3) := by decide +kernel
theorem dX4_numberOfSwapped_79 : decode cX4_numberOfSwapped 79 = .ok (.iconst 1, 1) := by decide +kernel
theorem dX4_numberOfSwapped_80 : decode cX4_numberOfSwapped 80 = .ok (.iload 6, 2) := by decide +kernel
theorem dX4_numberOfSwapped_82 : decode cX4_numberOfSwapped 82 = .ok (.ishl, 1) := by decide +kernel
theorem dX4_numberOfSwapped_83 : decode cX4_numberOfSwapped 83 = .ok (.iastore, 1) := by decide +kernel
theorem dX4_numberOfSwapped_84 : decode cX4_numberOfSwapped 84 = .ok (.aload_n 0, 1) := by decide +kernel
theorem dX4_numberOfSwapped_85 : decode cX4_numberOfSwapped 85 = .ok (.getfield 15, 3) := by decide +kernel
theorem dX4_numberOfSwapped_88 : decode cX4_numberOfSwapped 88 = .ok (.aload_n 2, 1) := by decide +kernel
theorem dX4_numberOfSwapped_89 : decode cX4_numberOfSwapped 89 = .ok (.getfield 42, 3) := by decide +kernel
theorem dX4_numberOfSwapped_92 : decode cX4_numberOfSwapped 92 = .ok (.iload 5, 2) := by decide +kernel
theorem dX4_numberOfSwapped_94 : decode cX4_numberOfSwapped 94 = .ok (.iadd, 1) := by decide +kernel
theorem dX4_numberOfSwapped_95 : decode cX4_numberOfSwapped 95 = .ok (.lconst 0, 1) := by decide +kernel
theorem dX4_numberOfSwapped_96 : decode cX4_numberOfSwapped 96 = .ok (.lastore, 1) := by decide +kernel
theorem dX4_numberOfSwapped_97 : decode cX4_numberOfSwapped 97 = .ok (.iinc 5 1, 3) := by decide +kernel
theorem dX4_numberOfSwapped_100 : decode cX4_numberOfSwapped 100 = .ok (.goto (-97), 3) := by decide +kernel
theorem dX4_numberOfSwapped_103 : decode cX4_numberOfSwapped 103 = .ok (.aload_n 2, 1) := by decide +kernel
theorem dX4_numberOfSwapped_104 : decode cX4_numberOfSwapped 104 = .ok (.getfield 42, 3) := by decide +kernel
theorem dX4_numberOfSwapped_107 : decode cX4_numberOfSwapped 107 = .ok (.iconst 1, 1) := by decide +kernel
theorem dX4_numberOfSwapped_108 : decode cX4_numberOfSwapped 108 = .ok (.isub, 1) := by decide +kernel
theorem dX4_numberOfSwapped_109 : decode cX4_numberOfSwapped 109 = .ok (.istore 5, 2) := by decide +kernel
theorem dX4_numberOfSwapped_111 : decode cX4_numberOfSwapped 111 = .ok (.iload 5, 2) := by decide +kernel
theorem dX4_numberOfSwapped_113 : decode cX4_numberOfSwapped 113 = .ok (.iconst 1, 1) := by decide +kernel
theorem dX4_numberOfSwapped_114 : decode cX4_numberOfSwapped 114 = .ok (.if_icmp .lt 37, 3) := by decide +kernel
theorem dX4_numberOfSwapped_117 : decode cX4_numberOfSwapped 117 = .ok (.iconst 2, 1) := by decide +kernel
theorem dX4_numberOfSwapped_118 : decode cX4_numberOfSwapped 118 = .ok (.iload 5, 2) := by decide +kernel
theorem dX4_numberOfSwapped_120 : decode cX4_numberOfSwapped 120 = .ok (.imul, 1) := by decide +kernel
theorem dX4_numberOfSwapped_121 : decode cX4_numberOfSwapped 121 = .ok (.iconst 1, 1) := by decide +kernel
theorem dX4_numberOfSwapped_122 : decode cX4_numberOfSwapped 122 = .ok (.iadd, 1) := by decide +kernel
theorem dX4_numberOfSwapped_123 : decode cX4_numberOfSwapped 123 = .ok (.aload_n 0, 1) := by decide +kernel
theorem dX4_numberOfSwapped_124 : decode cX4_numberOfSwapped 124 = .ok (.getfield 9, 3) := by decide +kernel
theorem dX4_numberOfSwapped_127 : decode cX4_numberOfSwapped 127 = .ok (.arraylength, 1) := by decide +kernel
theorem dX4_numberOfSwapped_128 : decode cX4_numberOfSwapped 128 = .ok (.if_icmp .ge 23, 3) := by decide +kernel
theorem dX4_numberOfSwapped_131 : decode cX4_numberOfSwapped 131 = .ok (.aload_n 0, 1) := by decide +kernel
theorem dX4_numberOfSwapped_132 : decode cX4_numberOfSwapped 132 = .ok (.aload_n 1, 1) := by decide +kernel
theorem dX4_numberOfSwapped_133 : decode cX4_numberOfSwapped 133 = .ok (.iload 5, 2) := by decide +kernel
theorem dX4_numberOfSwapped_135 : decode cX4_numberOfSwapped 135 = .ok (.invokevirtual 48, 3) := by decide +kernel
theorem dX4_numberOfSwapped_138 : decode cX4_numberOfSwapped 138 = .ok (.ifCond .ne 7, 3) := by decide +kernel
theorem dX4_numberOfSwapped_141 : decode cX4_numberOfSwapped 141 = .ok (.ldc2_w 52, 3) := by decide +kernel
theorem dX4_numberOfSwapped_144 : decode cX4_numberOfSwapped 144 = .ok (.lreturn, 1) := by decide +kernel
theorem dX4_numberOfSwapped_145 : decode cX4_numberOfSwapped 145 = .ok (.iinc 5 (-1), 3) := by decide +kernel
theorem dX4_numberOfSwapped_148 : decode cX4_numberOfSwapped 148 = .ok (.goto (-37), 3) := by decide +kernel
theorem dX4_numberOfSwapped_151 : decode cX4_numberOfSwapped 151 = .ok (.aload_n 0, 1) := by decide +kernel
theorem dX4_numberOfSwapped_152 : decode cX4_numberOfSwapped 152 = .ok (.getfield 15, 3) := by decide +kernel
theorem dX4_numberOfSwapped_155 : decode cX4_numberOfSwapped 155 = .ok (.iconst 1, 1) := by decide +kernel
theorem dX4_numberOfSwapped_156 : decode cX4_numberOfSwapped 156 = .ok (.laload, 1) := by decide +kernel
theorem dX4_numberOfSwapped_157 : decode cX4_numberOfSwapped 157 = .ok (.lreturn, 1) := by decide +kernel
theorem dX4_join_0 : decode cX4_join 0 = .ok (.aload_n 0, 1) := by decide +kernel
theorem dX4_join_1 : decode cX4_join 1 = .ok (.getfield 9, 3) := by decide +kernel
theorem dX4_join_4 : decode cX4_join 4 = .ok (.iconst 2, 1) := by decide +kernel
theorem dX4_join_5 : decode cX4_join 5 = .ok (.iload_n 2, 1) := by decide +kernel
theorem dX4_join_6 : decode cX4_join 6 = .ok (.imul, 1) := by decide +kernel
theorem dX4_join_7 : decode cX4_join 7 = .ok (.iaload, 1) := by decide +kernel
theorem dX4_join_8 : decode cX4_join 8 = .ok (.istore_n 3, 1) := by decide +kernel
theorem dX4_join_9 : decode cX4_join 9 = .ok (.iload_n 3, 1) := by decide +kernel
theorem dX4_join_10 : decode cX4_join 10 = .ok (.aload_n 0, 1) := by decide +kernel
theorem dX4_join_11 : decode cX4_join 11 = .ok (.getfield 9, 3) := by decide +kernel
theorem dX4_join_14 : decode cX4_join 14 = .ok (.iconst 2, 1) := by decide +kernel
theorem dX4_join_15 : decode cX4_join 15 = .ok (.iload_n 2, 1) := by decide +kernel
theorem dX4_join_16 : decode cX4_join 16 = .ok (.imul, 1) := by decide +kernel
theorem dX4_join_17 : decode cX4_join 17 = .ok (.iconst 1, 1) := by decide +kernel
theorem dX4_join_18 : decode cX4_join 18 = .ok (.iadd, 1) := by decide +kernel
theorem dX4_join_19 : decode cX4_join 19 = .ok (.iaload, 1) := by decide +kernel
theorem dX4_join_20 : decode cX4_join 20 = .ok (.ior, 1) := by decide +kernel
theorem dX4_join_21 : decode cX4_join 21 = .ok (.istore 4, 2) := by decide +kernel
theorem dX4_join_23 : decode cX4_join 23 = .ok (.aload_n 0, 1) := by decide +kernel
theorem dX4_join_24 : decode cX4_join 24 = .ok (.getfield 9, 3) := by decide +kernel
theorem dX4_join_27 : decode cX4_join 27 = .ok (.iload_n 2, 1) := by decide +kernel
theorem dX4_join_28 : decode cX4_join 28 = .ok (.iload 4, 2) := by decide +kernel
theorem dX4_join_30 : decode cX4_join 30 = .ok (.iastore, 1) := by decide +kernel
theorem dX4_join_31 : decode cX4_join 31 = .ok (.aload_n 1, 1) := by decide +kernel
theorem dX4_join_32 : decode cX4_join 32 = .ok (.iconst 2, 1) := by decide +kernel
theorem dX4_join_33 : decode cX4_join 33 = .ok (.iload_n 2, 1) := by decide +kernel
theorem dX4_join_34 : decode cX4_join 34 = .ok (.imul, 1) := by decide +kernel
theorem dX4_join_35 : decode cX4_join 35 = .ok (.iconst 1, 1) := by decide +kernel
theorem dX4_join_36 : decode cX4_join 36 = .ok (.iadd, 1) := by decide +kernel
theorem dX4_join_37 : decode cX4_join 37 = .ok (.iload 4, 2) := by decide +kernel
theorem dX4_join_39 : decode cX4_join 39 = .ok (.iload_n 3, 1) := by decide +kernel
theorem dX4_join_40 : decode cX4_join 40 = .ok (.ixor, 1) := by decide +kernel
theorem dX4_join_41 : decode cX4_join 41 = .ok (.invokevirtual 38, 3) := by decide +kernel
theorem dX4_join_44 : decode cX4_join 44 = .ok (.lstore 5, 2) := by decide +kernel
theorem dX4_join_46 : decode cX4_join 46 = .ok (.lload 5, 2) := by decide +kernel
theorem dX4_join_48 : decode cX4_join 48 = .ok (.lconst 0, 1) := by decide +kernel
theorem dX4_join_49 : decode cX4_join 49 = .ok (.lcmp, 1) := by decide +kernel
theorem dX4_join_50 : decode cX4_join 50 = .ok (.ifCond .eq 28, 3) := by decide +kernel
theorem dX4_join_53 : decode cX4_join 53 = .ok (.aload_n 1, 1) := by decide +kernel
theorem dX4_join_54 : decode cX4_join 54 = .ok (.iconst 2, 1) := by decide +kernel
theorem dX4_join_55 : decode cX4_join 55 = .ok (.iload_n 2, 1) := by decide +kernel
theorem dX4_join_56 : decode cX4_join 56 = .ok (.imul, 1) := by decide +kernel
theorem dX4_join_57 : decode cX4_join 57 = .ok (.iload_n 3, 1) := by decide +kernel
theorem dX4_join_58 : decode cX4_join 58 = .ok (.invokevirtual 38, 3) := by decide +kernel
theorem dX4_join_61 : decode cX4_join 61 = .ok (.lconst 0, 1) := by decide +kernel
theorem dX4_join_62 : decode cX4_join 62 = .ok (.lcmp, 1) := by decide +kernel
theorem dX4_join_63 : decode cX4_join 63 = .ok (.ifCond .eq 15, 3) := by decide +kernel
theorem dX4_join_66 : decode cX4_join 66 = .ok (.aload_n 1, 1) := by decide +kernel
theorem dX4_join_67 : decode cX4_join 67 = .ok (.iload_n 2, 1) := by decide +kernel
theorem dX4_join_68 : decode cX4_join 68 = .ok (.iload 4, 2) := by decide +kernel
theorem dX4_join_70 : decode cX4_join 70 = .ok (.invokevirtual 38, 3) := by decide +kernel
theorem dX4_join_73 : decode cX4_join 73 = .ok (.lconst 0, 1) := by decide +kernel
theorem dX4_join_74 : decode cX4_join 74 = .ok (.lcmp, 1) := by decide +kernel
theorem dX4_join_75 : decode cX4_join 75 = .ok (.ifCond .ne 5, 3) := by decide +kernel
theorem dX4_join_78 : decode cX4_join 78 = .ok (.iconst 0, 1) := by decide +kernel
theorem dX4_join_79 : decode cX4_join 79 = .ok (.ireturn, 1) := by decide +kernel
theorem dX4_join_80 : decode cX4_join 80 = .ok (.aload_n 0, 1) := by decide +kernel
theorem dX4_join_81 : decode cX4_join 81 = .ok (.getfield 15, 3) := by decide +kernel
theorem dX4_join_84 : decode cX4_join 84 = .ok (.iconst 2, 1) := by decide +kernel
theorem dX4_join_85 : decode cX4_join 85 = .ok (.iload_n 2, 1) := by decide +kernel
theorem dX4_join_86 : decode cX4_join 86 = .ok (.imul, 1) := by decide +kernel
theorem dX4_join_87 : decode cX4_join 87 = .ok (.laload, 1) := by decide +kernel
theorem dX4_join_88 : decode cX4_join 88 = .ok (.lload 5, 2) := by decide +kernel
theorem dX4_join_90 : decode cX4_join 90 = .ok (.lmul, 1) := by decide +kernel
theorem dX4_join_91 : decode cX4_join 91 = .ok (.aload_n 0, 1) := by decide +kernel
theorem dX4_join_92 : decode cX4_join 92 = .ok (.getfield 15, 3) := by decide +kernel
theorem dX4_join_95 : decode cX4_join 95 = .ok (.iconst 2, 1) := by decide +kernel
theorem dX4_join_96 : decode cX4_join 96 = .ok (.iload_n 2, 1) := by decide +kernel
theorem dX4_join_97 : decode cX4_join 97 = .ok (.imul, 1) := by decide +kernel
theorem dX4_join_98 : decode cX4_join 98 = .ok (.iconst 1, 1) := by decide +kernel
theorem dX4_join_99 : decode cX4_join 99 = .ok (.iadd, 1) := by decide +kernel
theorem dX4_join_100 : decode cX4_join 100 = .ok (.laload, 1) := by decide +kernel
theorem dX4_join_101 : decode cX4_join 101 = .ok (.ladd, 1) := by decide +kernel
theorem dX4_join_102 : decode cX4_join 102 = .ok (.lstore 7, 2) := by decide +kernel
theorem dX4_join_104 : decode cX4_join 104 = .ok (.iconst 1, 1) := by decide +kernel
theorem dX4_join_105 : decode cX4_join 105 = .ok (.iload 4, 2) := by decide +kernel
theorem dX4_join_107 : decode cX4_join 107 = .ok (.invokestatic 32, 3) := by decide +kernel
theorem dX4_join_110 : decode cX4_join 110 = .ok (.ishl, 1) := by decide +kernel
theorem dX4_join_111 : decode cX4_join 111 = .ok (.istore 9, 2) := by decide +kernel
theorem dX4_join_113 : decode cX4_join 113 = .ok (.iconst 0, 1) := by decide +kernel
theorem dX4_join_114 : decode cX4_join 114 = .ok (.istore 10, 2) := by decide +kernel
theorem dX4_join_116 : decode cX4_join 116 = .ok (.iconst 0, 1) := by decide +kernel
theorem dX4_join_117 : decode cX4_join 117 = .ok (.istore 11, 2) := by decide +kernel
theorem dX4_join_119 : decode cX4_join 119 = .ok (.iload 11, 2) := by decide +kernel
theorem dX4_join_121 : decode cX4_join 121 = .ok (.iload 9, 2) := by decide +kernel
theorem dX4_join_123 : decode cX4_join 123 = .ok (.if_icmp .ge 54, 3) := by decide +kernel
theorem dX4_join_126 : decode cX4_join 126 = .ok (.iload 10, 2) := by decide +kernel
theorem dX4_join_128 : decode cX4_join 128 = .ok (.iload_n 3, 1) := by decide +kernel
theorem dX4_join_129 : decode cX4_join 129 = .ok (.if_icmp .eq 48, 3) := by decide +kernel
theorem dX4_join_132 : decode cX4_join 132 = .ok (.lload 7, 2) := by decide +kernel
theorem dX4_join_134 : decode cX4_join 134 = .ok (.aload_n 1, 1) := by decide +kernel
theorem dX4_join_135 : decode cX4_join 135 = .ok (.iconst 2, 1) := by decide +kernel
theorem dX4_join_136 : decode cX4_join 136 = .ok (.iload_n 2, 1) := by decide +kernel
theorem dX4_join_137 : decode cX4_join 137 = .ok (.imul, 1) := by decide +kernel
theorem dX4_join_138 : decode cX4_join 138 = .ok (.iload 10, 2) := by decide +kernel
theorem dX4_join_140 : decode cX4_join 140 = .ok (.invokevirtual 38, 3) := by decide +kernel
theorem dX4_join_143 : decode cX4_join 143 = .ok (.aload_n 1, 1) := by decide +kernel
theorem dX4_join_144 : decode cX4_join 144 = .ok (.iconst 2, 1) := by decide +kernel
theorem dX4_join_145 : decode cX4_join 145 = .ok (.iload_n 2, 1) := by decide +kernel
theorem dX4_join_146 : decode cX4_join 146 = .ok (.imul, 1) := by decide +kernel
theorem dX4_join_147 : decode cX4_join 147 = .ok (.iconst 1, 1) := by decide +kernel
theorem dX4_join_148 : decode cX4_join 148 = .ok (.iadd, 1) := by decide +kernel
theorem dX4_join_149 : decode cX4_join 149 = .ok (.iload 4, 2) := by decide +kernel
theorem dX4_join_151 : decode cX4_join 151 = .ok (.iload 10, 2) := by decide +kernel
theorem dX4_join_153 : decode cX4_join 153 = .ok (.ixor, 1) := by decide +kernel
theorem dX4_join_154 : decode cX4_join 154 = .ok (.invokevirtual 38, 3) := by decide +kernel
theorem dX4_join_157 : decode cX4_join 157 = .ok (.lmul, 1) := by decide +kernel
theorem dX4_join_158 : decode cX4_join 158 = .ok (.ladd, 1) := by decide +kernel
theorem dX4_join_159 : decode cX4_join 159 = .ok (.lstore 7, 2) := by decide +kernel
theorem dX4_join_161 : decode cX4_join 161 = .ok (.iload 10, 2) := by decide +kernel
theorem dX4_join_163 : decode cX4_join 163 = .ok (.iload 4, 2) := by decide +kernel
theorem dX4_join_165 : decode cX4_join 165 = .ok (.isub, 1) := by decide +kernel
theorem dX4_join_166 : decode cX4_join 166 = .ok (.iload 4, 2) := by decide +kernel
theorem dX4_join_168 : decode cX4_join 168 = .ok (.iand, 1) := by decide +kernel
theorem dX4_join_169 : decode cX4_join 169 = .ok (.istore 10, 2) := by decide +kernel
theorem dX4_join_171 : decode cX4_join 171 = .ok (.iinc 11 1, 3) := by decide +kernel
theorem dX4_join_174 : decode cX4_join 174 = .ok (.goto (-55), 3) := by decide +kernel
theorem dX4_join_177 : decode cX4_join 177 = .ok (.aload_n 0, 1) := by decide +kernel
theorem dX4_join_178 : decode cX4_join 178 = .ok (.getfield 15, 3) := by decide +kernel
theorem dX4_join_181 : decode cX4_join 181 = .ok (.iload_n 2, 1) := by decide +kernel
theorem dX4_join_182 : decode cX4_join 182 = .ok (.lload 7, 2) := by decide +kernel
theorem dX4_join_184 : decode cX4_join 184 = .ok (.lastore, 1) := by decide +kernel
theorem dX4_join_185 : decode cX4_join 185 = .ok (.iconst 1, 1) := by decide +kernel
theorem dX4_join_186 : decode cX4_join 186 = .ok (.ireturn, 1) := by decide +kernel
theorem dX5_init_0 : decode cX5_init 0 = .ok (.aload_n 0, 1) := by decide +kernel
theorem dX5_init_1 : decode cX5_init 1 = .ok (.invokespecial 3, 3) := by decide +kernel
theorem dX5_init_4 : decode cX5_init 4 = .ok (.aload_n 0, 1) := by decide +kernel
theorem dX5_init_5 : decode cX5_init 5 = .ok (.iconst 2, 1) := by decide +kernel
theorem dX5_init_6 : decode cX5_init 6 = .ok (.putfield 9, 3) := by decide +kernel
theorem dX5_init_9 : decode cX5_init 9 = .ok (.aload_n 0, 1) := by decide +kernel
theorem dX5_init_10 : decode cX5_init 10 = .ok (.bipush 8, 2) := by decide +kernel
theorem dX5_init_12 : decode cX5_init 12 = .ok (.newarray .int, 2) := by decide +kernel
theorem dX5_init_14 : decode cX5_init 14 = .ok (.putfield 15, 3) := by decide +kernel
theorem dX5_init_17 : decode cX5_init 17 = .ok (.aload_n 0, 1) := by decide +kernel
theorem dX5_init_18 : decode cX5_init 18 = .ok (.bipush 8, 2) := by decide +kernel
theorem dX5_init_20 : decode cX5_init 20 = .ok (.newarray .int, 2) := by decide +kernel
theorem dX5_init_22 : decode cX5_init 22 = .ok (.putfield 19, 3) := by decide +kernel
theorem dX5_init_25 : decode cX5_init 25 = .ok (.return_, 1) := by decide +kernel
theorem dX5_begin_0 : decode cX5_begin 0 = .ok (.aload_n 0, 1) := by decide +kernel
theorem dX5_begin_1 : decode cX5_begin 1 = .ok (.aload_n 1, 1) := by decide +kernel
theorem dX5_begin_2 : decode cX5_begin 2 = .ok (.getfield 22, 3) := by decide +kernel
theorem dX5_begin_5 : decode cX5_begin 5 = .ok (.putfield 27, 3) := by decide +kernel
theorem dX5_begin_8 : decode cX5_begin 8 = .ok (.aload_n 0, 1) := by decide +kernel
theorem dX5_begin_9 : decode cX5_begin 9 = .ok (.aload_n 1, 1) := by decide +kernel
theorem dX5_begin_10 : decode cX5_begin 10 = .ok (.invokevirtual 28, 3) := by decide +kernel
theorem dX5_begin_13 : decode cX5_begin 13 = .ok (.putfield 9, 3) := by decide +kernel
theorem dX5_begin_16 : decode cX5_begin 16 = .ok (.aload_n 0, 1) := by decide +kernel
theorem dX5_begin_17 : decode cX5_begin 17 = .ok (.iconst 0, 1) := by decide +kernel
theorem dX5_begin_18 : decode cX5_begin 18 = .ok (.putfield 31, 3) := by decide +kernel
theorem dX5_begin_21 : decode cX5_begin 21 = .ok (.aload_n 0, 1) := by decide +kernel
theorem dX5_begin_22 : decode cX5_begin 22 = .ok (.aload_n 1, 1) := by decide +kernel
theorem dX5_begin_23 : decode cX5_begin 23 = .ok (.iconst 0, 1) := by decide +kernel
theorem dX5_begin_24 : decode cX5_begin 24 = .ok (.aload_n 1, 1) := by decide +kernel
theorem dX5_begin_25 : decode cX5_begin 25 = .ok (.getfield 34, 3) := by decide +kernel
theorem dX5_begin_28 : decode cX5_begin 28 = .ok (.invokevirtual 37, 3) := by decide +kernel
theorem dX5_begin_31 : decode cX5_begin 31 = .ok (.aload_n 0, 1) := by decide +kernel
theorem dX5_begin_32 : decode cX5_begin 32 = .ok (.aload_n 1, 1) := by decide +kernel
theorem dX5_begin_33 : decode cX5_begin 33 = .ok (.iconst 1, 1) := by decide +kernel
theorem dX5_begin_34 : decode cX5_begin 34 = .ok (.aload_n 1, 1) := by decide +kernel
theorem dX5_begin_35 : decode cX5_begin 35 = .ok (.getfield 41, 3) := by decide +kernel
theorem dX5_begin_38 : decode cX5_begin 38 = .ok (.invokevirtual 37, 3) := by decide +kernel
theorem dX5_begin_41 : decode cX5_begin 41 = .ok (.aload_n 0, 1) := by decide +kernel
theorem dX5_begin_42 : decode cX5_begin 42 = .ok (.iconst 0, 1) := by decide +kernel
theorem dX5_begin_43 : decode cX5_begin 43 = .ok (.iconst (-1), 1) := by decide +kernel
theorem dX5_begin_44 : decode cX5_begin 44 = .ok (.iconst (-1), 1) := by decide +kernel
theorem dX5_begin_45 : decode cX5_begin 45 = .ok (.invokevirtual 44, 3) := by decide +kernel
theorem dX5_begin_48 : decode cX5_begin 48 = .ok (.aload_n 0, 1) := by decide +kernel
theorem dX5_begin_49 : decode cX5_begin 49 = .ok (.iconst 0, 1) := by decide +kernel
theorem dX5_begin_50 : decode cX5_begin 50 = .ok (.putfield 48, 3) := by decide +kernel
theorem dX5_begin_53 : decode cX5_begin 53 = .ok (.iconst 0, 1) := by decide +kernel
theorem dX5_begin_54 : decode cX5_begin 54 = .ok (.istore_n 2, 1) := by decide +kernel
theorem dX5_begin_55 : decode cX5_begin 55 = .ok (.iload_n 2, 1) := by decide +kernel
theorem dX5_begin_56 : decode cX5_begin 56 = .ok (.aload_n 0, 1) := by decide +kernel
theorem dX5_begin_57 : decode cX5_begin 57 = .ok (.getfield 27, 3) := by decide +kernel
theorem dX5_begin_60 : decode cX5_begin 60 = .ok (.if_icmp .ge 40, 3) := by decide +kernel
theorem dX5_begin_63 : decode cX5_begin 63 = .ok (.aload_n 1, 1) := by decide +kernel
theorem dX5_begin_64 : decode cX5_begin 64 = .ok (.iload_n 2, 1) := by decide +kernel
theorem dX5_begin_65 : decode cX5_begin 65 = .ok (.iconst 2, 1) := by decide +kernel
theorem dX5_begin_66 : decode cX5_begin 66 = .ok (.invokevirtual 51, 3) := by decide +kernel
theorem dX5_begin_69 : decode cX5_begin 69 = .ok (.istore_n 3, 1) := by decide +kernel
theorem dX5_begin_70 : decode cX5_begin 70 = .ok (.iload_n 3, 1) := by decide +kernel
theorem dX5_begin_71 : decode cX5_begin 71 = .ok (.ifCond .le 23, 3) := by decide +kernel
theorem dX5_begin_74 : decode cX5_begin 74 = .ok (.iload_n 3, 1) := by decide +kernel
theorem dX5_begin_75 : decode cX5_begin 75 = .ok (.aload_n 1, 1) := by decide +kernel
theorem dX5_begin_76 : decode cX5_begin 76 = .ok (.invokevirtual 55, 3) := by decide +kernel
theorem dX5_begin_79 : decode cX5_begin 79 = .ok (.if_icmp .gt 15, 3) := by decide +kernel
theorem dX5_begin_82 : decode cX5_begin 82 = .ok (.aload_n 0, 1) := by decide +kernel
theorem dX5_begin_83 : decode cX5_begin 83 = .ok (.dup, 1) := by decide +kernel
theorem dX5_begin_84 : decode cX5_begin 84 = .ok (.getfield 48, 3) := by decide +kernel
theorem dX5_begin_87 : decode cX5_begin 87 = .ok (.iconst 1, 1) := by decide +kernel
theorem dX5_begin_88 : decode cX5_begin 88 = .ok (.iload_n 2, 1) := by decide +kernel
theorem dX5_begin_89 : decode cX5_begin 89 = .ok (.ishl, 1) := by decide +kernel
theorem dX5_begin_90 : decode cX5_begin 90 = .ok (.ior, 1) := by decide +kernel
theorem dX5_begin_91 : decode cX5_begin 91 = .ok (.putfield 48, 3) := by decide +kernel
theorem dX5_begin_94 : decode cX5_begin 94 = .ok (.iinc 2 1, 3) := by decide +kernel
theorem dX5_begin_97 : decode cX5_begin 97 = .ok (.goto (-42), 3) := by decide +kernel
theorem dX5_begin_100 : decode cX5_begin 100 = .ok (.return_, 1) := by decide +kernel
theorem dX5_watch_0 : decode cX5_watch 0 = .ok (.aload_n 0, 1) := by decide +kernel
theorem dX5_watch_1 : decode cX5_watch 1 = .ok (.iload_n 1, 1) := by decide +kernel
theorem dX5_watch_2 : decode cX5_watch 2 = .ok (.putfield 58, 3) := by decide +kernel
theorem dX5_watch_5 : decode cX5_watch 5 = .ok (.aload_n 0, 1) := by decide +kernel
theorem dX5_watch_6 : decode cX5_watch 6 = .ok (.iload_n 2, 1) := by decide +kernel
theorem dX5_watch_7 : decode cX5_watch 7 = .ok (.putfield 61, 3) := by decide +kernel
theorem dX5_watch_10 : decode cX5_watch 10 = .ok (.aload_n 0, 1) := by decide +kernel
theorem dX5_watch_11 : decode cX5_watch 11 = .ok (.iload_n 3, 1) := by decide +kernel
theorem dX5_watch_12 : decode cX5_watch 12 = .ok (.putfield 64, 3) := by decide +kernel
theorem dX5_watch_15 : decode cX5_watch 15 = .ok (.return_, 1) := by decide +kernel
theorem dX5_addGroups_0 : decode cX5_addGroups 0 = .ok (.iconst 1, 1) := by decide +kernel
theorem dX5_addGroups_1 : decode cX5_addGroups 1 = .ok (.istore 4, 2) := by decide +kernel
theorem dX5_addGroups_3 : decode cX5_addGroups 3 = .ok (.iload_n 3, 1) := by decide +kernel
theorem dX5_addGroups_4 : decode cX5_addGroups 4 = .ok (.ifCond .le 111, 3) := by decide +kernel
theorem dX5_addGroups_7 : decode cX5_addGroups 7 = .ok (.iload 4, 2) := by decide +kernel
theorem dX5_addGroups_9 : decode cX5_addGroups 9 = .ok (.iload_n 2, 1) := by decide +kernel
theorem dX5_addGroups_10 : decode cX5_addGroups 10 = .ok (.invokestatic 67, 3) := by decide +kernel
theorem dX5_addGroups_13 : decode cX5_addGroups 13 = .ok (.if_icmp .gt 102, 3) := by decide +kernel
theorem dX5_addGroups_16 : decode cX5_addGroups 16 = .ok (.iconst 0, 1) := by decide +kernel
theorem dX5_addGroups_17 : decode cX5_addGroups 17 = .ok (.istore 5, 2) := by decide +kernel
theorem dX5_addGroups_19 : decode cX5_addGroups 19 = .ok (.iconst 0, 1) := by decide +kernel
theorem dX5_addGroups_20 : decode cX5_addGroups 20 = .ok (.istore 6, 2) := by decide +kernel
theorem dX5_addGroups_22 : decode cX5_addGroups 22 = .ok (.iload 6, 2) := by decide +kernel
theorem dX5_addGroups_24 : decode cX5_addGroups 24 = .ok (.aload_n 1, 1) := by decide +kernel
theorem dX5_addGroups_25 : decode cX5_addGroups 25 = .ok (.getfield 22, 3) := by decide +kernel
theorem dX5_addGroups_28 : decode cX5_addGroups 28 = .ok (.if_icmp .ge 30, 3) := by decide +kernel
theorem dX5_addGroups_31 : decode cX5_addGroups 31 = .ok (.aload_n 1, 1) := by decide +kernel
theorem dX5_addGroups_32 : decode cX5_addGroups 32 = .ok (.iload 6, 2) := by decide +kernel
theorem dX5_addGroups_34 : decode cX5_addGroups 34 = .ok (.iload_n 2, 1) := by decide +kernel
theorem dX5_addGroups_35 : decode cX5_addGroups 35 = .ok (.invokevirtual 51, 3) := by decide +kernel
theorem dX5_addGroups_38 : decode cX5_addGroups 38 = .ok (.iload 4, 2) := by decide +kernel
theorem dX5_addGroups_40 : decode cX5_addGroups 40 = .ok (.if_icmp .ne 12, 3) := by decide +kernel
theorem dX5_addGroups_43 : decode cX5_addGroups 43 = .ok (.iload 5, 2) := by decide +kernel
theorem dX5_addGroups_45 : decode cX5_addGroups 45 = .ok (.iconst 1, 1) := by decide +kernel
theorem dX5_addGroups_46 : decode cX5_addGroups 46 = .ok (.iload 6, 2) := by decide +kernel
theorem dX5_addGroups_48 : decode cX5_addGroups 48 = .ok (.ishl, 1) := by decide +kernel
theorem dX5_addGroups_49 : decode cX5_addGroups 49 = .ok (.ior, 1) := by decide +kernel
theorem dX5_addGroups_50 : decode cX5_addGroups 50 = .ok (.istore 5, 2) := by decide +kernel
theorem dX5_addGroups_52 : decode cX5_addGroups 52 = .ok (.iinc 6 1, 3) := by decide +kernel
theorem dX5_addGroups_55 : decode cX5_addGroups 55 = .ok (.goto (-33), 3) := by decide +kernel
theorem dX5_addGroups_58 : decode cX5_addGroups 58 = .ok (.iload 5, 2) := by decide +kernel
theorem dX5_addGroups_60 : decode cX5_addGroups 60 = .ok (.invokestatic 71, 3) := by decide +kernel
theorem dX5_addGroups_63 : decode cX5_addGroups 63 = .ok (.ifCond .eq 46, 3) := by decide +kernel
theorem dX5_addGroups_66 : decode cX5_addGroups 66 = .ok (.aload_n 0, 1) := by decide +kernel
theorem dX5_addGroups_67 : decode cX5_addGroups 67 = .ok (.getfield 31, 3) := by decide +kernel
theorem dX5_addGroups_70 : decode cX5_addGroups 70 = .ok (.aload_n 0, 1) := by decide +kernel
theorem dX5_addGroups_71 : decode cX5_addGroups 71 = .ok (.getfield 15, 3) := by decide +kernel
theorem dX5_addGroups_74 : decode cX5_addGroups 74 = .ok (.arraylength, 1) := by decide +kernel
theorem dX5_addGroups_75 : decode cX5_addGroups 75 = .ok (.if_icmp .ge 34, 3) := by decide +kernel
theorem dX5_addGroups_78 : decode cX5_addGroups 78 = .ok (.aload_n 0, 1) := by decide +kernel
theorem dX5_addGroups_79 : decode cX5_addGroups 79 = .ok (.getfield 15, 3) := by decide +kernel
theorem dX5_addGroups_82 : decode cX5_addGroups 82 = .ok (.aload_n 0, 1) := by decide +kernel
theorem dX5_addGroups_83 : decode cX5_addGroups 83 = .ok (.getfield 31, 3) := by decide +kernel
theorem dX5_addGroups_86 : decode cX5_addGroups 86 = .ok (.iload 5, 2) := by decide +kernel
theorem dX5_addGroups_88 : decode cX5_addGroups 88 = .ok (.iastore, 1) := by decide +kernel
theorem dX5_addGroups_89 : decode cX5_addGroups 89 = .ok (.aload_n 0, 1) := by decide +kernel
theorem dX5_addGroups_90 : decode cX5_addGroups 90 = .ok (.getfield 19, 3) := by decide +kernel
theorem dX5_addGroups_93 : decode cX5_addGroups 93 = .ok (.aload_n 0, 1) := by decide +kernel
theorem dX5_addGroups_94 : decode cX5_addGroups 94 = .ok (.getfield 31, 3) := by decide +kernel
theorem dX5_addGroups_97 : decode cX5_addGroups 97 = .ok (.iload_n 3, 1) := by decide +kernel
theorem dX5_addGroups_98 : decode cX5_addGroups 98 = .ok (.iastore, 1) := by decide +kernel
theorem dX5_addGroups_99 : decode cX5_addGroups 99 = .ok (.aload_n 0, 1) := by decide +kernel
theorem dX5_addGroups_100 : decode cX5_addGroups 100 = .ok (.dup, 1) := by decide +kernel
theorem dX5_addGroups_101 : decode cX5_addGroups 101 = .ok (.getfield 31, 3) := by decide +kernel
theorem dX5_addGroups_104 : decode cX5_addGroups 104 = .ok (.iconst 1, 1) := by decide +kernel
theorem dX5_addGroups_105 : decode cX5_addGroups 105 = .ok (.iadd, 1) := by decide +kernel
theorem dX5_addGroups_106 : decode cX5_addGroups 106 = .ok (.putfield 31, 3) := by decide +kernel
theorem dX5_addGroups_109 : decode cX5_addGroups 109 = .ok (.iinc 4 1, 3) := by decide +kernel
theorem dX5_addGroups_112 : decode cX5_addGroups 112 = .ok (.goto (-109), 3) := by decide +kernel
theorem dX5_addGroups_115 : decode cX5_addGroups 115 = .ok (.return_, 1) := by decide +kernel
theorem dX5_fits_0 : decode cX5_fits 0 = .ok (.aload_n 0, 1) := by decide +kernel
theorem dX5_fits_1 : decode cX5_fits 1 = .ok (.iload_n 1, 1) := by decide +kernel
theorem dX5_fits_2 : decode cX5_fits 2 = .ok (.invokestatic 75, 3) := by decide +kernel
theorem dX5_fits_5 : decode cX5_fits 5 = .ok (.iload_n 2, 1) := by decide +kernel
theorem dX5_fits_6 : decode cX5_fits 6 = .ok (.invokevirtual 80, 3) := by decide +kernel
theorem dX5_fits_9 : decode cX5_fits 9 = .ok (.ifCond .eq 51, 3) := by decide +kernel
theorem dX5_fits_12 : decode cX5_fits 12 = .ok (.iload_n 2, 1) := by decide +kernel
theorem dX5_fits_13 : decode cX5_fits 13 = .ok (.iconst 1, 1) := by decide +kernel
theorem dX5_fits_14 : decode cX5_fits 14 = .ok (.if_icmp .ne 19, 3) := by decide +kernel
theorem dX5_fits_17 : decode cX5_fits 17 = .ok (.iload_n 1, 1) := by decide +kernel
theorem dX5_fits_18 : decode cX5_fits 18 = .ok (.aload_n 0, 1) := by decide +kernel
theorem dX5_fits_19 : decode cX5_fits 19 = .ok (.getfield 48, 3) := by decide +kernel
theorem dX5_fits_22 : decode cX5_fits 22 = .ok (.iand, 1) := by decide +kernel
theorem dX5_fits_23 : decode cX5_fits 23 = .ok (.ifCond .eq 10, 3) := by decide +kernel
theorem dX5_fits_26 : decode cX5_fits 26 = .ok (.iload_n 1, 1) := by decide +kernel
theorem dX5_fits_27 : decode cX5_fits 27 = .ok (.invokestatic 71, 3) := by decide +kernel
theorem dX5_fits_30 : decode cX5_fits 30 = .ok (.ifCond .ne 30, 3) := by decide +kernel
theorem dX5_fits_33 : decode cX5_fits 33 = .ok (.aload_n 0, 1) := by decide +kernel
theorem dX5_fits_34 : decode cX5_fits 34 = .ok (.iload_n 1, 1) := by decide +kernel
theorem dX5_fits_35 : decode cX5_fits 35 = .ok (.iload_n 2, 1) := by decide +kernel
theorem dX5_fits_36 : decode cX5_fits 36 = .ok (.invokevirtual 84, 3) := by decide +kernel
theorem dX5_fits_39 : decode cX5_fits 39 = .ok (.ifCond .ne 21, 3) := by decide +kernel
theorem dX5_fits_42 : decode cX5_fits 42 = .ok (.aload_n 0, 1) := by decide +kernel
theorem dX5_fits_43 : decode cX5_fits 43 = .ok (.iload_n 1, 1) := by decide +kernel
theorem dX5_fits_44 : decode cX5_fits 44 = .ok (.aload_n 0, 1) := by decide +kernel
theorem dX5_fits_45 : decode cX5_fits 45 = .ok (.getfield 58, 3) := by decide +kernel
theorem dX5_fits_48 : decode cX5_fits 48 = .ok (.iand, 1) := by decide +kernel
theorem dX5_fits_49 : decode cX5_fits 49 = .ok (.iload_n 2, 1) := by decide +kernel
theorem dX5_fits_50 : decode cX5_fits 50 = .ok (.invokevirtual 87, 3) := by decide +kernel
theorem dX5_fits_53 : decode cX5_fits 53 = .ok (.ifCond .eq 7, 3) := by decide +kernel
theorem dX5_fits_56 : decode cX5_fits 56 = .ok (.iconst 1, 1) := by decide +kernel
theorem dX5_fits_57 : decode cX5_fits 57 = .ok (.goto 4, 3) := by decide +kernel
theorem dX5_fits_60 : decode cX5_fits 60 = .ok (.iconst 0, 1) := by decide +kernel
theorem dX5_fits_61 : decode cX5_fits 61 = .ok (.ireturn, 1) := by decide +kernel
theorem dX5_sizeFits_0 : decode cX5_sizeFits 0 = .ok (.iconst 1, 1) := by decide +kernel
theorem dX5_sizeFits_1 : decode cX5_sizeFits 1 = .ok (.iload_n 2, 1) := by decide +kernel
theorem dX5_sizeFits_2 : decode cX5_sizeFits 2 = .ok (.ishl, 1) := by decide +kernel
theorem dX5_sizeFits_3 : decode cX5_sizeFits 3 = .ok (.istore_n 3, 1) := by decide +kernel
theorem dX5_sizeFits_4 : decode cX5_sizeFits 4 = .ok (.aload_n 0, 1) := by decide +kernel
theorem dX5_sizeFits_5 : decode cX5_sizeFits 5 = .ok (.getfield 9, 3) := by decide +kernel
theorem dX5_sizeFits_8 : decode cX5_sizeFits 8 = .ok (.iload_n 3, 1) := by decide +kernel
theorem dX5_sizeFits_9 : decode cX5_sizeFits 9 = .ok (.isub, 1) := by decide +kernel
theorem dX5_sizeFits_10 : decode cX5_sizeFits 10 = .ok (.istore 4, 2) := by decide +kernel
theorem dX5_sizeFits_12 : decode cX5_sizeFits 12 = .ok (.iload_n 3, 1) := by decide +kernel
theorem dX5_sizeFits_13 : decode cX5_sizeFits 13 = .ok (.iconst 2, 1) := by decide +kernel
theorem dX5_sizeFits_14 : decode cX5_sizeFits 14 = .ok (.idiv, 1) := by decide +kernel
theorem dX5_sizeFits_15 : decode cX5_sizeFits 15 = .ok (.aload_n 0, 1) := by decide +kernel
theorem dX5_sizeFits_16 : decode cX5_sizeFits 16 = .ok (.getfield 27, 3) := by decide +kernel
theorem dX5_sizeFits_19 : decode cX5_sizeFits 19 = .ok (.iload 4, 2) := by decide +kernel
theorem dX5_sizeFits_21 : decode cX5_sizeFits 21 = .ok (.isub, 1) := by decide +kernel
theorem dX5_sizeFits_22 : decode cX5_sizeFits 22 = .ok (.invokestatic 90, 3) := by decide +kernel
theorem dX5_sizeFits_25 : decode cX5_sizeFits 25 = .ok (.istore 5, 2) := by decide +kernel
theorem dX5_sizeFits_27 : decode cX5_sizeFits 27 = .ok (.iload_n 3, 1) := by decide +kernel
theorem dX5_sizeFits_28 : decode cX5_sizeFits 28 = .ok (.aload_n 0, 1) := by decide +kernel
theorem dX5_sizeFits_29 : decode cX5_sizeFits 29 = .ok (.getfield 27, 3) := by decide +kernel
theorem dX5_sizeFits_32 : decode cX5_sizeFits 32 = .ok (.iload 4, 2) := by decide +kernel
theorem dX5_sizeFits_34 : decode cX5_sizeFits 34 = .ok (.iconst 2, 1) := by decide +kernel
theorem dX5_sizeFits_35 : decode cX5_sizeFits 35 = .ok (.idiv, 1) := by decide +kernel
theorem dX5_sizeFits_36 : decode cX5_sizeFits 36 = .ok (.isub, 1) := by decide +kernel
theorem dX5_sizeFits_37 : decode cX5_sizeFits 37 = .ok (.invokestatic 95, 3) := by decide +kernel
theorem dX5_sizeFits_40 : decode cX5_sizeFits 40 = .ok (.istore 6, 2) := by decide +kernel
theorem dX5_sizeFits_42 : decode cX5_sizeFits 42 = .ok (.iload_n 1, 1) := by decide +kernel
theorem dX5_sizeFits_43 : decode cX5_sizeFits 43 = .ok (.iload 5, 2) := by decide +kernel
theorem dX5_sizeFits_45 : decode cX5_sizeFits 45 = .ok (.if_icmp .lt 13, 3) := by decide +kernel
theorem dX5_sizeFits_48 : decode cX5_sizeFits 48 = .ok (.iload_n 1, 1) := by decide +kernel
theorem dX5_sizeFits_49 : decode cX5_sizeFits 49 = .ok (.iload 6, 2) := by decide +kernel
theorem dX5_sizeFits_51 : decode cX5_sizeFits 51 = .ok (.if_icmp .gt 7, 3) := by decide +kernel
theorem dX5_sizeFits_54 : decode cX5_sizeFits 54 = .ok (.iconst 1, 1) := by decide +kernel
theorem dX5_sizeFits_55 : decode cX5_sizeFits 55 = .ok (.goto 4, 3) := by decide +kernel
theorem dX5_sizeFits_58 : decode cX5_sizeFits 58 = .ok (.iconst 0, 1) := by decide +kernel
theorem dX5_sizeFits_59 : decode cX5_sizeFits 59 = .ok (.ireturn, 1) := by decide +kernel
theorem dX5_tooClose_0 : decode cX5_tooClose 0 = .ok (.iconst 0, 1) := by decide +kernel
theorem dX5_tooClose_1 : decode cX5_tooClose 1 = .ok (.istore_n 3, 1) := by decide +kernel
theorem dX5_tooClose_2 : decode cX5_tooClose 2 = .ok (.iload_n 3, 1) := by decide +kernel
theorem dX5_tooClose_3 : decode cX5_tooClose 3 = .ok (.aload_n 0, 1) := by decide +kernel
theorem dX5_tooClose_4 : decode cX5_tooClose 4 = .ok (.getfield 31, 3) := by decide +kernel
theorem dX5_tooClose_7 : decode cX5_tooClose 7 = .ok (.if_icmp .ge 44, 3) := by decide +kernel
theorem dX5_tooClose_10 : decode cX5_tooClose 10 = .ok (.iload_n 3, 1) := by decide +kernel
theorem dX5_tooClose_11 : decode cX5_tooClose 11 = .ok (.aload_n 0, 1) := by decide +kernel
theorem dX5_tooClose_12 : decode cX5_tooClose 12 = .ok (.getfield 15, 3) := by decide +kernel
theorem dX5_tooClose_15 : decode cX5_tooClose 15 = .ok (.arraylength, 1) := by decide +kernel
theorem dX5_tooClose_16 : decode cX5_tooClose 16 = .ok (.if_icmp .ge 35, 3) := by decide +kernel
theorem dX5_tooClose_19 : decode cX5_tooClose 19 = .ok (.iload_n 2, 1) := by decide +kernel
theorem dX5_tooClose_20 : decode cX5_tooClose 20 = .ok (.aload_n 0, 1) := by decide +kernel
theorem dX5_tooClose_21 : decode cX5_tooClose 21 = .ok (.getfield 19, 3) := by decide +kernel
theorem dX5_tooClose_24 : decode cX5_tooClose 24 = .ok (.iload_n 3, 1) := by decide +kernel
theorem dX5_tooClose_25 : decode cX5_tooClose 25 = .ok (.iaload, 1) := by decide +kernel
theorem dX5_tooClose_26 : decode cX5_tooClose 26 = .ok (.if_icmp .gt 19, 3) := by decide +kernel
theorem dX5_tooClose_29 : decode cX5_tooClose 29 = .ok (.iload_n 1, 1) := by decide +kernel
theorem dX5_tooClose_30 : decode cX5_tooClose 30 = .ok (.aload_n 0, 1) := by decide +kernel
theorem dX5_tooClose_31 : decode cX5_tooClose 31 = .ok (.getfield 15, 3) := by decide +kernel
theorem dX5_tooClose_34 : decode cX5_tooClose 34 = .ok (.iload_n 3, 1) := by decide +kernel
theorem dX5_tooClose_35 : decode cX5_tooClose 35 = .ok (.iaload, 1) := by decide +kernel
theorem dX5_tooClose_36 : decode cX5_tooClose 36 = .ok (.iand, 1) := by decide +kernel
theorem dX5_tooClose_37 : decode cX5_tooClose 37 = .ok (.invokestatic 71, 3) := by decide +kernel
theorem dX5_tooClose_40 : decode cX5_tooClose 40 = .ok (.ifCond .eq 5, 3) := by decide +kernel
theorem dX5_tooClose_43 : decode cX5_tooClose 43 = .ok (.iconst 1, 1) := by decide +kernel
theorem dX5_tooClose_44 : decode cX5_tooClose 44 = .ok (.ireturn, 1) := by decide +kernel
theorem dX5_tooClose_45 : decode cX5_tooClose 45 = .ok (.iinc 3 1, 3) := by decide +kernel
theorem dX5_tooClose_48 : decode cX5_tooClose 48 = .ok (.goto (-46), 3) := by decide +kernel
theorem dX5_tooClose_51 : decode cX5_tooClose 51 = .ok (.iconst 0, 1) := by decide +kernel
theorem dX5_tooClose_52 : decode cX5_tooClose 52 = .ok (.ireturn, 1) := by decide +kernel
theorem dX5_watchedFits_0 : decode cX5_watchedFits 0 = .ok (.iload_n 2, 1) := by decide +kernel
theorem dX5_watchedFits_1 : decode cX5_watchedFits 1 = .ok (.aload_n 0, 1) := by decide +kernel
theorem dX5_watchedFits_2 : decode cX5_watchedFits 2 = .ok (.getfield 61, 3) := by decide +kernel
theorem dX5_watchedFits_5 : decode cX5_watchedFits 5 = .ok (.if_icmp .ne 12, 3) := by decide +kernel
theorem dX5_watchedFits_8 : decode cX5_watchedFits 8 = .ok (.iload_n 1, 1) := by decide +kernel
theorem dX5_watchedFits_9 : decode cX5_watchedFits 9 = .ok (.invokestatic 71, 3) := by decide +kernel
theorem dX5_watchedFits_12 : decode cX5_watchedFits 12 = .ok (.ifCond .eq 5, 3) := by decide +kernel
theorem dX5_watchedFits_15 : decode cX5_watchedFits 15 = .ok (.iconst 0, 1) := by decide +kernel
theorem dX5_watchedFits_16 : decode cX5_watchedFits 16 = .ok (.ireturn, 1) := by decide +kernel
theorem dX5_watchedFits_17 : decode cX5_watchedFits 17 = .ok (.iload_n 2, 1) := by decide +kernel
theorem dX5_watchedFits_18 : decode cX5_watchedFits 18 = .ok (.aload_n 0, 1) := by decide +kernel
theorem dX5_watchedFits_19 : decode cX5_watchedFits 19 = .ok (.getfield 64, 3) := by decide +kernel
theorem dX5_watchedFits_22 : decode cX5_watchedFits 22 = .ok (.if_icmp .ne 15, 3) := by decide +kernel
theorem dX5_watchedFits_25 : decode cX5_watchedFits 25 = .ok (.iload_n 1, 1) := by decide +kernel
theorem dX5_watchedFits_26 : decode cX5_watchedFits 26 = .ok (.ifCond .eq 11, 3) := by decide +kernel
theorem dX5_watchedFits_29 : decode cX5_watchedFits 29 = .ok (.iload_n 1, 1) := by decide +kernel
theorem dX5_watchedFits_30 : decode cX5_watchedFits 30 = .ok (.aload_n 0, 1) := by decide +kernel
theorem dX5_watchedFits_31 : decode cX5_watchedFits 31 = .ok (.getfield 58, 3) := by decide +kernel
theorem dX5_watchedFits_34 : decode cX5_watchedFits 34 = .ok (.if_icmp .ne 7, 3) := by decide +kernel
theorem dX5_watchedFits_37 : decode cX5_watchedFits 37 = .ok (.iconst 1, 1) := by decide +kernel
theorem dX5_watchedFits_38 : decode cX5_watchedFits 38 = .ok (.goto 4, 3) := by decide +kernel
theorem dX5_watchedFits_41 : decode cX5_watchedFits 41 = .ok (.iconst 0, 1) := by decide +kernel
theorem dX5_watchedFits_42 : decode cX5_watchedFits 42 = .ok (.ireturn, 1) := by decide +kernel
theorem dX5_severalOf_0 : decode cX5_severalOf 0 = .ok (.iload_n 0, 1) := by decide +kernel
theorem dX5_severalOf_1 : decode cX5_severalOf 1 = .ok (.iload_n 0, 1) := by decide +kernel
theorem dX5_severalOf_2 : decode cX5_severalOf 2 = .ok (.iconst 1, 1) := by decide +kernel
theorem dX5_severalOf_3 : decode cX5_severalOf 3 = .ok (.isub, 1) := by decide +kernel
theorem dX5_severalOf_4 : decode cX5_severalOf 4 = .ok (.iand, 1) := by decide +kernel
theorem dX5_severalOf_5 : decode cX5_severalOf 5 = .ok (.ifCond .eq 7, 3) := by decide +kernel
theorem dX5_severalOf_8 : decode cX5_severalOf 8 = .ok (.iconst 1, 1) := by decide +kernel
theorem dX5_severalOf_9 : decode cX5_severalOf 9 = .ok (.goto 4, 3) := by decide +kernel
theorem dX5_severalOf_12 : decode cX5_severalOf 12 = .ok (.iconst 0, 1) := by decide +kernel
theorem dX5_severalOf_13 : decode cX5_severalOf 13 = .ok (.ireturn, 1) := by decide +kernel
theorem dX6_init_0 : decode cX6_init 0 = .ok (.aload_n 0, 1) := by decide +kernel
theorem dX6_init_1 : decode cX6_init 1 = .ok (.invokespecial 1, 3) := by decide +kernel
theorem dX6_init_4 : decode cX6_init 4 = .ok (.aload_n 0, 1) := by decide +kernel
theorem dX6_init_5 : decode cX6_init 5 = .ok (.new 7, 3) := by decide +kernel
theorem dX6_init_8 : decode cX6_init 8 = .ok (.dup, 1) := by decide +kernel
theorem dX6_init_9 : decode cX6_init 9 = .ok (.invokespecial 9, 3) := by decide +kernel
theorem dX6_init_12 : decode cX6_init 12 = .ok (.putfield 10, 3) := by decide +kernel
theorem dX6_init_15 : decode cX6_init 15 = .ok (.aload_n 0, 1) := by decide +kernel
theorem dX6_init_16 : decode cX6_init 16 = .ok (.new 16, 3) := by decide +kernel
theorem dX6_init_19 : decode cX6_init 19 = .ok (.dup, 1) := by decide +kernel
theorem dX6_init_20 : decode cX6_init 20 = .ok (.invokespecial 18, 3) := by decide +kernel
theorem dX6_init_23 : decode cX6_init 23 = .ok (.putfield 19, 3) := by decide +kernel
theorem dX6_init_26 : decode cX6_init 26 = .ok (.return_, 1) := by decide +kernel
theorem dX6_copyFrom_0 : decode cX6_copyFrom 0 = .ok (.aload_n 0, 1) := by decide +kernel
theorem dX6_copyFrom_1 : decode cX6_copyFrom 1 = .ok (.getfield 10, 3) := by decide +kernel
theorem dX6_copyFrom_4 : decode cX6_copyFrom 4 = .ok (.aload_n 1, 1) := by decide +kernel
theorem dX6_copyFrom_5 : decode cX6_copyFrom 5 = .ok (.getfield 10, 3) := by decide +kernel
theorem dX6_copyFrom_8 : decode cX6_copyFrom 8 = .ok (.invokevirtual 23, 3) := by decide +kernel
theorem dX6_copyFrom_11 : decode cX6_copyFrom 11 = .ok (.aload_n 0, 1) := by decide +kernel
theorem dX6_copyFrom_12 : decode cX6_copyFrom 12 = .ok (.getfield 19, 3) := by decide +kernel
theorem dX6_copyFrom_15 : decode cX6_copyFrom 15 = .ok (.aload_n 1, 1) := by decide +kernel
theorem dX6_copyFrom_16 : decode cX6_copyFrom 16 = .ok (.getfield 19, 3) := by decide +kernel
theorem dX6_copyFrom_19 : decode cX6_copyFrom 19 = .ok (.invokevirtual 27, 3) := by decide +kernel
theorem dX6_copyFrom_22 : decode cX6_copyFrom 22 = .ok (.return_, 1) := by decide +kernel
theorem dX7_init_0 : decode cX7_init 0 = .ok (.aload_n 0, 1) := by decide +kernel
theorem dX7_init_1 : decode cX7_init 1 = .ok (.invokespecial 3, 3) := by decide +kernel
theorem dX7_init_4 : decode cX7_init 4 = .ok (.aload_n 0, 1) := by decide +kernel
theorem dX7_init_5 : decode cX7_init 5 = .ok (.bipush 120, 2) := by decide +kernel
theorem dX7_init_7 : decode cX7_init 7 = .ok (.newarray .int, 2) := by decide +kernel
theorem dX7_init_9 : decode cX7_init 9 = .ok (.putfield 9, 3) := by decide +kernel
theorem dX7_init_12 : decode cX7_init 12 = .ok (.return_, 1) := by decide +kernel
theorem dX7_add_0 : decode cX7_add 0 = .ok (.aload_n 0, 1) := by decide +kernel
theorem dX7_add_1 : decode cX7_add 1 = .ok (.getfield 15, 3) := by decide +kernel
theorem dX7_add_4 : decode cX7_add 4 = .ok (.ifCond .lt 15, 3) := by decide +kernel
theorem dX7_add_7 : decode cX7_add 7 = .ok (.aload_n 0, 1) := by decide +kernel
theorem dX7_add_8 : decode cX7_add 8 = .ok (.getfield 15, 3) := by decide +kernel
theorem dX7_add_11 : decode cX7_add 11 = .ok (.aload_n 0, 1) := by decide +kernel
theorem dX7_add_12 : decode cX7_add 12 = .ok (.getfield 9, 3) := by decide +kernel
theorem dX7_add_15 : decode cX7_add 15 = .ok (.arraylength, 1) := by decide +kernel
theorem dX7_add_16 : decode cX7_add 16 = .ok (.if_icmp .lt 5, 3) := by decide +kernel
theorem dX7_add_19 : decode cX7_add 19 = .ok (.iconst 0, 1) := by decide +kernel
theorem dX7_add_20 : decode cX7_add 20 = .ok (.ireturn, 1) := by decide +kernel
theorem dX7_add_21 : decode cX7_add 21 = .ok (.aload_n 0, 1) := by decide +kernel
theorem dX7_add_22 : decode cX7_add 22 = .ok (.getfield 9, 3) := by decide +kernel
theorem dX7_add_25 : decode cX7_add 25 = .ok (.aload_n 0, 1) := by decide +kernel
theorem dX7_add_26 : decode cX7_add 26 = .ok (.getfield 15, 3) := by decide +kernel
theorem dX7_add_29 : decode cX7_add 29 = .ok (.iload_n 1, 1) := by decide +kernel
theorem dX7_add_30 : decode cX7_add 30 = .ok (.iastore, 1) := by decide +kernel
theorem dX7_add_31 : decode cX7_add 31 = .ok (.aload_n 0, 1) := by decide +kernel
theorem dX7_add_32 : decode cX7_add 32 = .ok (.dup, 1) := by decide +kernel
theorem dX7_add_33 : decode cX7_add 33 = .ok (.getfield 15, 3) := by decide +kernel
theorem dX7_add_36 : decode cX7_add 36 = .ok (.iconst 1, 1) := by decide +kernel
theorem dX7_add_37 : decode cX7_add 37 = .ok (.iadd, 1) := by decide +kernel
theorem dX7_add_38 : decode cX7_add 38 = .ok (.putfield 15, 3) := by decide +kernel
theorem dX7_add_41 : decode cX7_add 41 = .ok (.iconst 1, 1) := by decide +kernel
theorem dX7_add_42 : decode cX7_add 42 = .ok (.ireturn, 1) := by decide +kernel
theorem dX7_at_0 : decode cX7_at 0 = .ok (.iload_n 1, 1) := by decide +kernel
theorem dX7_at_1 : decode cX7_at 1 = .ok (.ifCond .lt 29, 3) := by decide +kernel
theorem dX7_at_4 : decode cX7_at 4 = .ok (.iload_n 1, 1) := by decide +kernel
theorem dX7_at_5 : decode cX7_at 5 = .ok (.aload_n 0, 1) := by decide +kernel
theorem dX7_at_6 : decode cX7_at 6 = .ok (.getfield 15, 3) := by decide +kernel
theorem dX7_at_9 : decode cX7_at 9 = .ok (.if_icmp .ge 21, 3) := by decide +kernel
theorem dX7_at_12 : decode cX7_at 12 = .ok (.iload_n 1, 1) := by decide +kernel
theorem dX7_at_13 : decode cX7_at 13 = .ok (.aload_n 0, 1) := by decide +kernel
theorem dX7_at_14 : decode cX7_at 14 = .ok (.getfield 9, 3) := by decide +kernel
theorem dX7_at_17 : decode cX7_at 17 = .ok (.arraylength, 1) := by decide +kernel
theorem dX7_at_18 : decode cX7_at 18 = .ok (.if_icmp .ge 12, 3) := by decide +kernel
theorem dX7_at_21 : decode cX7_at 21 = .ok (.aload_n 0, 1) := by decide +kernel
theorem dX7_at_22 : decode cX7_at 22 = .ok (.getfield 9, 3) := by decide +kernel
theorem dX7_at_25 : decode cX7_at 25 = .ok (.iload_n 1, 1) := by decide +kernel
theorem dX7_at_26 : decode cX7_at 26 = .ok (.iaload, 1) := by decide +kernel
theorem dX7_at_27 : decode cX7_at 27 = .ok (.goto 4, 3) := by decide +kernel
theorem dX7_at_30 : decode cX7_at 30 = .ok (.iconst (-1), 1) := by decide +kernel
theorem dX7_at_31 : decode cX7_at 31 = .ok (.ireturn, 1) := by decide +kernel
theorem dX8_init_0 : decode cX8_init 0 = .ok (.aload_n 0, 1) := by decide +kernel
theorem dX8_init_1 : decode cX8_init 1 = .ok (.invokespecial 3, 3) := by decide +kernel
theorem dX8_init_4 : decode cX8_init 4 = .ok (.aload_n 0, 1) := by decide +kernel
theorem dX8_init_5 : decode cX8_init 5 = .ok (.new 9, 3) := by decide +kernel
theorem dX8_init_8 : decode cX8_init 8 = .ok (.dup, 1) := by decide +kernel
theorem dX8_init_9 : decode cX8_init 9 = .ok (.invokespecial 11, 3) := by decide +kernel
theorem dX8_init_12 : decode cX8_init 12 = .ok (.putfield 12, 3) := by decide +kernel
theorem dX8_init_15 : decode cX8_init 15 = .ok (.aload_n 0, 1) := by decide +kernel
theorem dX8_init_16 : decode cX8_init 16 = .ok (.iconst 4, 1) := by decide +kernel
theorem dX8_init_17 : decode cX8_init 17 = .ok (.newarray .int, 2) := by decide +kernel
theorem dX8_init_19 : decode cX8_init 19 = .ok (.putfield 18, 3) := by decide +kernel
theorem dX8_init_22 : decode cX8_init 22 = .ok (.aload_n 0, 1) := by decide +kernel
theorem dX8_init_23 : decode cX8_init 23 = .ok (.new 22, 3) := by decide +kernel
theorem dX8_init_26 : decode cX8_init 26 = .ok (.dup, 1) := by decide +kernel
theorem dX8_init_27 : decode cX8_init 27 = .ok (.invokespecial 24, 3) := by decide +kernel
theorem dX8_init_30 : decode cX8_init 30 = .ok (.putfield 25, 3) := by decide +kernel
theorem dX8_init_33 : decode cX8_init 33 = .ok (.return_, 1) := by decide +kernel
theorem dX8_read_0 : decode cX8_read 0 = .ok (.aload_n 0, 1) := by decide +kernel
theorem dX8_read_1 : decode cX8_read 1 = .ok (.iconst 0, 1) := by decide +kernel
theorem dX8_read_2 : decode cX8_read 2 = .ok (.putfield 29, 3) := by decide +kernel
theorem dX8_read_5 : decode cX8_read 5 = .ok (.aload_n 0, 1) := by decide +kernel
theorem dX8_read_6 : decode cX8_read 6 = .ok (.getfield 12, 3) := by decide +kernel
theorem dX8_read_9 : decode cX8_read 9 = .ok (.aload_n 1, 1) := by decide +kernel
theorem dX8_read_10 : decode cX8_read 10 = .ok (.invokevirtual 33, 3) := by decide +kernel
theorem dX8_read_13 : decode cX8_read 13 = .ok (.aload_n 1, 1) := by decide +kernel
theorem dX8_read_14 : decode cX8_read 14 = .ok (.getfield 37, 3) := by decide +kernel
theorem dX8_read_17 : decode cX8_read 17 = .ok (.istore_n 2, 1) := by decide +kernel
theorem dX8_read_18 : decode cX8_read 18 = .ok (.iload_n 2, 1) := by decide +kernel
theorem dX8_read_19 : decode cX8_read 19 = .ok (.bipush 10, 2) := by decide +kernel
theorem dX8_read_21 : decode cX8_read 21 = .ok (.if_icmp .ge 78, 3) := by decide +kernel
theorem dX8_read_24 : decode cX8_read 24 = .ok (.aload_n 0, 1) := by decide +kernel
theorem dX8_read_25 : decode cX8_read 25 = .ok (.invokevirtual 40, 3) := by decide +kernel
theorem dX8_read_28 : decode cX8_read 28 = .ok (.ifCond .ne 8, 3) := by decide +kernel
theorem dX8_read_31 : decode cX8_read 31 = .ok (.aload_n 0, 1) := by decide +kernel
theorem dX8_read_32 : decode cX8_read 32 = .ok (.getfield 29, 3) := by decide +kernel
theorem dX8_read_35 : decode cX8_read 35 = .ok (.ireturn, 1) := by decide +kernel
theorem dX8_read_36 : decode cX8_read 36 = .ok (.aload_n 0, 1) := by decide +kernel
theorem dX8_read_37 : decode cX8_read 37 = .ok (.getfield 12, 3) := by decide +kernel
theorem dX8_read_40 : decode cX8_read 40 = .ok (.aload_n 0, 1) := by decide +kernel
theorem dX8_read_41 : decode cX8_read 41 = .ok (.getfield 18, 3) := by decide +kernel
theorem dX8_read_44 : decode cX8_read 44 = .ok (.iconst 0, 1) := by decide +kernel
theorem dX8_read_45 : decode cX8_read 45 = .ok (.iaload, 1) := by decide +kernel
theorem dX8_read_46 : decode cX8_read 46 = .ok (.aload_n 0, 1) := by decide +kernel
theorem dX8_read_47 : decode cX8_read 47 = .ok (.getfield 18, 3) := by decide +kernel
theorem dX8_read_50 : decode cX8_read 50 = .ok (.iconst 1, 1) := by decide +kernel
theorem dX8_read_51 : decode cX8_read 51 = .ok (.iaload, 1) := by decide +kernel
theorem dX8_read_52 : decode cX8_read 52 = .ok (.aload_n 0, 1) := by decide +kernel
theorem dX8_read_53 : decode cX8_read 53 = .ok (.getfield 18, 3) := by decide +kernel
theorem dX8_read_56 : decode cX8_read 56 = .ok (.iconst 2, 1) := by decide +kernel
theorem dX8_read_57 : decode cX8_read 57 = .ok (.iaload, 1) := by decide +kernel
theorem dX8_read_58 : decode cX8_read 58 = .ok (.aload_n 0, 1) := by decide +kernel
theorem dX8_read_59 : decode cX8_read 59 = .ok (.getfield 18, 3) := by decide +kernel
theorem dX8_read_62 : decode cX8_read 62 = .ok (.iconst 3, 1) := by decide +kernel
theorem dX8_read_63 : decode cX8_read 63 = .ok (.iaload, 1) := by decide +kernel
theorem dX8_read_64 : decode cX8_read 64 = .ok (.invokevirtual 44, 3) := by decide +kernel
theorem dX8_read_67 : decode cX8_read 67 = .ok (.aload_n 0, 1) := by decide +kernel
theorem dX8_read_68 : decode cX8_read 68 = .ok (.getfield 29, 3) := by decide +kernel
theorem dX8_read_71 : decode cX8_read 71 = .ok (.aload_n 0, 1) := by decide +kernel
theorem dX8_read_72 : decode cX8_read 72 = .ok (.getfield 25, 3) := by decide +kernel
theorem dX8_read_75 : decode cX8_read 75 = .ok (.getfield 48, 3) := by decide +kernel
theorem dX8_read_78 : decode cX8_read 78 = .ok (.if_icmp .lt 5, 3) := by decide +kernel
theorem dX8_read_81 : decode cX8_read 81 = .ok (.iconst (-1), 1) := by decide +kernel
theorem dX8_read_82 : decode cX8_read 82 = .ok (.ireturn, 1) := by decide +kernel
theorem dX8_read_83 : decode cX8_read 83 = .ok (.aload_n 0, 1) := by decide +kernel
theorem dX8_read_84 : decode cX8_read 84 = .ok (.dup, 1) := by decide +kernel
theorem dX8_read_85 : decode cX8_read 85 = .ok (.getfield 29, 3) := by decide +kernel
theorem dX8_read_88 : decode cX8_read 88 = .ok (.iconst 1, 1) := by decide +kernel
theorem dX8_read_89 : decode cX8_read 89 = .ok (.iadd, 1) := by decide +kernel
theorem dX8_read_90 : decode cX8_read 90 = .ok (.putfield 29, 3) := by decide +kernel
theorem dX8_read_93 : decode cX8_read 93 = .ok (.iinc 2 1, 3) := by decide +kernel
theorem dX8_read_96 : decode cX8_read 96 = .ok (.goto (-78), 3) := by decide +kernel
theorem dX8_read_99 : decode cX8_read 99 = .ok (.aload_n 0, 1) := by decide +kernel
theorem dX8_read_100 : decode cX8_read 100 = .ok (.getfield 29, 3) := by decide +kernel
theorem dX8_read_103 : decode cX8_read 103 = .ok (.ireturn, 1) := by decide +kernel
theorem dX8_readPlayer_0 : decode cX8_readPlayer 0 = .ok (.iconst 0, 1) := by decide +kernel
theorem dX8_readPlayer_1 : decode cX8_readPlayer 1 = .ok (.istore_n 1, 1) := by decide +kernel
theorem dX8_readPlayer_2 : decode cX8_readPlayer 2 = .ok (.iconst 0, 1) := by decide +kernel
theorem dX8_readPlayer_3 : decode cX8_readPlayer 3 = .ok (.istore_n 2, 1) := by decide +kernel
theorem dX8_readPlayer_4 : decode cX8_readPlayer 4 = .ok (.iload_n 2, 1) := by decide +kernel
theorem dX8_readPlayer_5 : decode cX8_readPlayer 5 = .ok (.aload_n 0, 1) := by decide +kernel
theorem dX8_readPlayer_6 : decode cX8_readPlayer 6 = .ok (.getfield 18, 3) := by decide +kernel
theorem dX8_readPlayer_9 : decode cX8_readPlayer 9 = .ok (.arraylength, 1) := by decide +kernel
theorem dX8_readPlayer_10 : decode cX8_readPlayer 10 = .ok (.if_icmp .ge 16, 3) := by decide +kernel
theorem dX8_readPlayer_13 : decode cX8_readPlayer 13 = .ok (.aload_n 0, 1) := by decide +kernel
theorem dX8_readPlayer_14 : decode cX8_readPlayer 14 = .ok (.getfield 18, 3) := by decide +kernel
theorem dX8_readPlayer_17 : decode cX8_readPlayer 17 = .ok (.iload_n 2, 1) := by decide +kernel
theorem dX8_readPlayer_18 : decode cX8_readPlayer 18 = .ok (.iconst 0, 1) := by decide +kernel
theorem dX8_readPlayer_19 : decode cX8_readPlayer 19 = .ok (.iastore, 1) := by decide +kernel
theorem dX8_readPlayer_20 : decode cX8_readPlayer 20 = .ok (.iinc 2 1, 3) := by decide +kernel
theorem dX8_readPlayer_23 : decode cX8_readPlayer 23 = .ok (.goto (-19), 3) := by decide +kernel
theorem dX8_readPlayer_26 : decode cX8_readPlayer 26 = .ok (.iconst 0, 1) := by decide +kernel
theorem dX8_readPlayer_27 : decode cX8_readPlayer 27 = .ok (.istore_n 2, 1) := by decide +kernel
theorem dX8_readPlayer_28 : decode cX8_readPlayer 28 = .ok (.iload_n 2, 1) := by decide +kernel
theorem dX8_readPlayer_29 : decode cX8_readPlayer 29 = .ok (.aload_n 0, 1) := by decide +kernel
theorem dX8_readPlayer_30 : decode cX8_readPlayer 30 = .ok (.getfield 18, 3) := by decide +kernel
theorem dX8_readPlayer_33 : decode cX8_readPlayer 33 = .ok (.arraylength, 1) := by decide +kernel
theorem dX8_readPlayer_34 : decode cX8_readPlayer 34 = .ok (.if_icmp .gt 90, 3) := by decide +kernel
theorem dX8_readPlayer_37 : decode cX8_readPlayer 37 = .ok (.aload_n 0, 1) := by decide +kernel
theorem dX8_readPlayer_38 : decode cX8_readPlayer 38 = .ok (.getfield 25, 3) := by decide +kernel
theorem dX8_readPlayer_41 : decode cX8_readPlayer 41 = .ok (.aload_n 0, 1) := by decide +kernel
theorem dX8_readPlayer_42 : decode cX8_readPlayer 42 = .ok (.getfield 29, 3) := by decide +kernel
theorem dX8_readPlayer_45 : decode cX8_readPlayer 45 = .ok (.invokevirtual 51, 3) := by decide +kernel
theorem dX8_readPlayer_48 : decode cX8_readPlayer 48 = .ok (.istore_n 3, 1) := by decide +kernel
theorem dX8_readPlayer_49 : decode cX8_readPlayer 49 = .ok (.iload_n 2, 1) := by decide +kernel
theorem dX8_readPlayer_50 : decode cX8_readPlayer 50 = .ok (.ifCond .le 16, 3) := by decide +kernel
theorem dX8_readPlayer_53 : decode cX8_readPlayer 53 = .ok (.iload_n 3, 1) := by decide +kernel
theorem dX8_readPlayer_54 : decode cX8_readPlayer 54 = .ok (.bipush 59, 2) := by decide +kernel
theorem dX8_readPlayer_56 : decode cX8_readPlayer 56 = .ok (.if_icmp .eq 8, 3) := by decide +kernel
theorem dX8_readPlayer_59 : decode cX8_readPlayer 59 = .ok (.iload_n 3, 1) := by decide +kernel
theorem dX8_readPlayer_60 : decode cX8_readPlayer 60 = .ok (.iconst (-1), 1) := by decide +kernel
theorem dX8_readPlayer_61 : decode cX8_readPlayer 61 = .ok (.if_icmp .ne 5, 3) := by decide +kernel
theorem dX8_readPlayer_64 : decode cX8_readPlayer 64 = .ok (.iconst 1, 1) := by decide +kernel
theorem dX8_readPlayer_65 : decode cX8_readPlayer 65 = .ok (.ireturn, 1) := by decide +kernel
theorem dX8_readPlayer_66 : decode cX8_readPlayer 66 = .ok (.iload_n 3, 1) := by decide +kernel
theorem dX8_readPlayer_67 : decode cX8_readPlayer 67 = .ok (.invokestatic 55, 3) := by decide +kernel
theorem dX8_readPlayer_70 : decode cX8_readPlayer 70 = .ok (.istore 4, 2) := by decide +kernel
theorem dX8_readPlayer_72 : decode cX8_readPlayer 72 = .ok (.iload 4, 2) := by decide +kernel
theorem dX8_readPlayer_74 : decode cX8_readPlayer 74 = .ok (.iconst (-1), 1) := by decide +kernel
theorem dX8_readPlayer_75 : decode cX8_readPlayer 75 = .ok (.if_icmp .eq 13, 3) := by decide +kernel
theorem dX8_readPlayer_78 : decode cX8_readPlayer 78 = .ok (.iload_n 1, 1) := by decide +kernel
theorem dX8_readPlayer_79 : decode cX8_readPlayer 79 = .ok (.iload 4, 2) := by decide +kernel
theorem dX8_readPlayer_81 : decode cX8_readPlayer 81 = .ok (.ishr, 1) := by decide +kernel
theorem dX8_readPlayer_82 : decode cX8_readPlayer 82 = .ok (.iconst 1, 1) := by decide +kernel
theorem dX8_readPlayer_83 : decode cX8_readPlayer 83 = .ok (.iand, 1) := by decide +kernel
theorem dX8_readPlayer_84 : decode cX8_readPlayer 84 = .ok (.iconst 1, 1) := by decide +kernel
theorem dX8_readPlayer_85 : decode cX8_readPlayer 85 = .ok (.if_icmp .ne 5, 3) := by decide +kernel
theorem dX8_readPlayer_88 : decode cX8_readPlayer 88 = .ok (.iconst 0, 1) := by decide +kernel
theorem dX8_readPlayer_89 : decode cX8_readPlayer 89 = .ok (.ireturn, 1) := by decide +kernel
theorem dX8_readPlayer_90 : decode cX8_readPlayer 90 = .ok (.iload_n 1, 1) := by decide +kernel
theorem dX8_readPlayer_91 : decode cX8_readPlayer 91 = .ok (.iconst 1, 1) := by decide +kernel
theorem dX8_readPlayer_92 : decode cX8_readPlayer 92 = .ok (.iload 4, 2) := by decide +kernel
theorem dX8_readPlayer_94 : decode cX8_readPlayer 94 = .ok (.ishl, 1) := by decide +kernel
theorem dX8_readPlayer_95 : decode cX8_readPlayer 95 = .ok (.ior, 1) := by decide +kernel
theorem dX8_readPlayer_96 : decode cX8_readPlayer 96 = .ok (.istore_n 1, 1) := by decide +kernel
theorem dX8_readPlayer_97 : decode cX8_readPlayer 97 = .ok (.aload_n 0, 1) := by decide +kernel
theorem dX8_readPlayer_98 : decode cX8_readPlayer 98 = .ok (.dup, 1) := by decide +kernel
theorem dX8_readPlayer_99 : decode cX8_readPlayer 99 = .ok (.getfield 29, 3) := by decide +kernel
theorem dX8_readPlayer_102 : decode cX8_readPlayer 102 = .ok (.iconst 1, 1) := by decide +kernel
theorem dX8_readPlayer_103 : decode cX8_readPlayer 103 = .ok (.iadd, 1) := by decide +kernel
theorem dX8_readPlayer_104 : decode cX8_readPlayer 104 = .ok (.putfield 29, 3) := by decide +kernel
theorem dX8_readPlayer_107 : decode cX8_readPlayer 107 = .ok (.aload_n 0, 1) := by decide +kernel
theorem dX8_readPlayer_108 : decode cX8_readPlayer 108 = .ok (.iload 4, 2) := by decide +kernel
theorem dX8_readPlayer_110 : decode cX8_readPlayer 110 = .ok (.invokevirtual 58, 3) := by decide +kernel
theorem dX8_readPlayer_113 : decode cX8_readPlayer 113 = .ok (.ifCond .ne 5, 3) := by decide +kernel
theorem dX8_readPlayer_116 : decode cX8_readPlayer 116 = .ok (.iconst 0, 1) := by decide +kernel
theorem dX8_readPlayer_117 : decode cX8_readPlayer 117 = .ok (.ireturn, 1) := by decide +kernel
theorem dX8_readPlayer_118 : decode cX8_readPlayer 118 = .ok (.iinc 2 1, 3) := by decide +kernel
theorem dX8_readPlayer_121 : decode cX8_readPlayer 121 = .ok (.goto (-93), 3) := by decide +kernel
theorem dX8_readPlayer_124 : decode cX8_readPlayer 124 = .ok (.iconst 0, 1) := by decide +kernel
theorem dX8_readPlayer_125 : decode cX8_readPlayer 125 = .ok (.ireturn, 1) := by decide +kernel
theorem dX8_readNumber_0 : decode cX8_readNumber 0 = .ok (.aload_n 0, 1) := by decide +kernel
theorem dX8_readNumber_1 : decode cX8_readNumber 1 = .ok (.invokevirtual 62, 3) := by decide +kernel
theorem dX8_readNumber_4 : decode cX8_readNumber 4 = .ok (.istore_n 2, 1) := by decide +kernel
theorem dX8_readNumber_5 : decode cX8_readNumber 5 = .ok (.iload_n 2, 1) := by decide +kernel
theorem dX8_readNumber_6 : decode cX8_readNumber 6 = .ok (.iconst (-1), 1) := by decide +kernel
theorem dX8_readNumber_7 : decode cX8_readNumber 7 = .ok (.if_icmp .eq 25, 3) := by decide +kernel
theorem dX8_readNumber_10 : decode cX8_readNumber 10 = .ok (.iload_n 1, 1) := by decide +kernel
theorem dX8_readNumber_11 : decode cX8_readNumber 11 = .ok (.ifCond .lt 21, 3) := by decide +kernel
theorem dX8_readNumber_14 : decode cX8_readNumber 14 = .ok (.iload_n 1, 1) := by decide +kernel
theorem dX8_readNumber_15 : decode cX8_readNumber 15 = .ok (.iconst 3, 1) := by decide +kernel
theorem dX8_readNumber_16 : decode cX8_readNumber 16 = .ok (.if_icmp .gt 16, 3) := by decide +kernel
theorem dX8_readNumber_19 : decode cX8_readNumber 19 = .ok (.aload_n 0, 1) := by decide +kernel
theorem dX8_readNumber_20 : decode cX8_readNumber 20 = .ok (.getfield 12, 3) := by decide +kernel
theorem dX8_readNumber_23 : decode cX8_readNumber 23 = .ok (.iconst (-1), 1) := by decide +kernel
theorem dX8_readNumber_24 : decode cX8_readNumber 24 = .ok (.iload_n 1, 1) := by decide +kernel
theorem dX8_readNumber_25 : decode cX8_readNumber 25 = .ok (.iload_n 2, 1) := by decide +kernel
theorem dX8_readNumber_26 : decode cX8_readNumber 26 = .ok (.invokevirtual 66, 3) := by decide +kernel
theorem dX8_readNumber_29 : decode cX8_readNumber 29 = .ok (.ifCond .ne 5, 3) := by decide +kernel
theorem dX8_readNumber_32 : decode cX8_readNumber 32 = .ok (.iconst 0, 1) := by decide +kernel
theorem dX8_readNumber_33 : decode cX8_readNumber 33 = .ok (.ireturn, 1) := by decide +kernel
theorem dX8_readNumber_34 : decode cX8_readNumber 34 = .ok (.aload_n 0, 1) := by decide +kernel
theorem dX8_readNumber_35 : decode cX8_readNumber 35 = .ok (.getfield 18, 3) := by decide +kernel
theorem dX8_readNumber_38 : decode cX8_readNumber 38 = .ok (.iload_n 1, 1) := by decide +kernel
theorem dX8_readNumber_39 : decode cX8_readNumber 39 = .ok (.iload_n 2, 1) := by decide +kernel
theorem dX8_readNumber_40 : decode cX8_readNumber 40 = .ok (.iastore, 1) := by decide +kernel
theorem dX8_readNumber_41 : decode cX8_readNumber 41 = .ok (.aload_n 0, 1) := by decide +kernel
theorem dX8_readNumber_42 : decode cX8_readNumber 42 = .ok (.dup, 1) := by decide +kernel
theorem dX8_readNumber_43 : decode cX8_readNumber 43 = .ok (.getfield 29, 3) := by decide +kernel
theorem dX8_readNumber_46 : decode cX8_readNumber 46 = .ok (.iconst 1, 1) := by decide +kernel
theorem dX8_readNumber_47 : decode cX8_readNumber 47 = .ok (.iadd, 1) := by decide +kernel
theorem dX8_readNumber_48 : decode cX8_readNumber 48 = .ok (.putfield 29, 3) := by decide +kernel
theorem dX8_readNumber_51 : decode cX8_readNumber 51 = .ok (.aload_n 0, 1) := by decide +kernel
theorem dX8_readNumber_52 : decode cX8_readNumber 52 = .ok (.invokevirtual 62, 3) := by decide +kernel
theorem dX8_readNumber_55 : decode cX8_readNumber 55 = .ok (.istore_n 3, 1) := by decide +kernel
theorem dX8_readNumber_56 : decode cX8_readNumber 56 = .ok (.iload_n 1, 1) := by decide +kernel
theorem dX8_readNumber_57 : decode cX8_readNumber 57 = .ok (.iconst 3, 1) := by decide +kernel
theorem dX8_readNumber_58 : decode cX8_readNumber 58 = .ok (.if_icmp .ne 30, 3) := by decide +kernel
theorem dX8_readNumber_61 : decode cX8_readNumber 61 = .ok (.iload_n 3, 1) := by decide +kernel
theorem dX8_readNumber_62 : decode cX8_readNumber 62 = .ok (.iconst (-1), 1) := by decide +kernel
theorem dX8_readNumber_63 : decode cX8_readNumber 63 = .ok (.if_icmp .eq 25, 3) := by decide +kernel
theorem dX8_readNumber_66 : decode cX8_readNumber 66 = .ok (.aload_n 0, 1) := by decide +kernel
theorem dX8_readNumber_67 : decode cX8_readNumber 67 = .ok (.getfield 18, 3) := by decide +kernel
theorem dX8_readNumber_70 : decode cX8_readNumber 70 = .ok (.iload_n 1, 1) := by decide +kernel
theorem dX8_readNumber_71 : decode cX8_readNumber 71 = .ok (.bipush 10, 2) := by decide +kernel
theorem dX8_readNumber_73 : decode cX8_readNumber 73 = .ok (.iload_n 2, 1) := by decide +kernel
theorem dX8_readNumber_74 : decode cX8_readNumber 74 = .ok (.imul, 1) := by decide +kernel
theorem dX8_readNumber_75 : decode cX8_readNumber 75 = .ok (.iload_n 3, 1) := by decide +kernel
theorem dX8_readNumber_76 : decode cX8_readNumber 76 = .ok (.iadd, 1) := by decide +kernel
theorem dX8_readNumber_77 : decode cX8_readNumber 77 = .ok (.iastore, 1) := by decide +kernel
theorem dX8_readNumber_78 : decode cX8_readNumber 78 = .ok (.aload_n 0, 1) := by decide +kernel
theorem dX8_readNumber_79 : decode cX8_readNumber 79 = .ok (.dup, 1) := by decide +kernel
theorem dX8_readNumber_80 : decode cX8_readNumber 80 = .ok (.getfield 29, 3) := by decide +kernel
theorem dX8_readNumber_83 : decode cX8_readNumber 83 = .ok (.iconst 1, 1) := by decide +kernel
theorem dX8_readNumber_84 : decode cX8_readNumber 84 = .ok (.iadd, 1) := by decide +kernel
theorem dX8_readNumber_85 : decode cX8_readNumber 85 = .ok (.putfield 29, 3) := by decide +kernel
theorem dX8_readNumber_88 : decode cX8_readNumber 88 = .ok (.iconst 1, 1) := by decide +kernel
theorem dX8_readNumber_89 : decode cX8_readNumber 89 = .ok (.ireturn, 1) := by decide +kernel
theorem dX8_figure_0 : decode cX8_figure 0 = .ok (.aload_n 0, 1) := by decide +kernel
theorem dX8_figure_1 : decode cX8_figure 1 = .ok (.getfield 25, 3) := by decide +kernel
theorem dX8_figure_4 : decode cX8_figure 4 = .ok (.aload_n 0, 1) := by decide +kernel
theorem dX8_figure_5 : decode cX8_figure 5 = .ok (.getfield 29, 3) := by decide +kernel
theorem dX8_figure_8 : decode cX8_figure 8 = .ok (.invokevirtual 51, 3) := by decide +kernel
theorem dX8_figure_11 : decode cX8_figure 11 = .ok (.istore_n 1, 1) := by decide +kernel
theorem dX8_figure_12 : decode cX8_figure 12 = .ok (.iload_n 1, 1) := by decide +kernel
theorem dX8_figure_13 : decode cX8_figure 13 = .ok (.bipush 48, 2) := by decide +kernel
theorem dX8_figure_15 : decode cX8_figure 15 = .ok (.if_icmp .lt 16, 3) := by decide +kernel
theorem dX8_figure_18 : decode cX8_figure 18 = .ok (.iload_n 1, 1) := by decide +kernel
theorem dX8_figure_19 : decode cX8_figure 19 = .ok (.bipush 57, 2) := by decide +kernel
theorem dX8_figure_21 : decode cX8_figure 21 = .ok (.if_icmp .gt 10, 3) := by decide +kernel
theorem dX8_figure_24 : decode cX8_figure 24 = .ok (.iload_n 1, 1) := by decide +kernel
theorem dX8_figure_25 : decode cX8_figure 25 = .ok (.bipush 48, 2) := by decide +kernel
theorem dX8_figure_27 : decode cX8_figure 27 = .ok (.isub, 1) := by decide +kernel
theorem dX8_figure_28 : decode cX8_figure 28 = .ok (.goto 4, 3) := by decide +kernel
theorem dX8_figure_31 : decode cX8_figure 31 = .ok (.iconst (-1), 1) := by decide +kernel
theorem dX8_figure_32 : decode cX8_figure 32 = .ok (.ireturn, 1) := by decide +kernel
theorem dX8_whatOf_0 : decode cX8_whatOf 0 = .ok (.iload_n 0, 1) := by decide +kernel
theorem dX8_whatOf_1 : decode cX8_whatOf 1 = .ok (.lookupswitch 51 #[(99, 43), (114, 45), (115, 47), (120, 49)], 43) := by decide +kernel
theorem dX8_whatOf_44 : decode cX8_whatOf 44 = .ok (.iconst 0, 1) := by decide +kernel
theorem dX8_whatOf_45 : decode cX8_whatOf 45 = .ok (.ireturn, 1) := by decide +kernel
theorem dX8_whatOf_46 : decode cX8_whatOf 46 = .ok (.iconst 1, 1) := by decide +kernel
theorem dX8_whatOf_47 : decode cX8_whatOf 47 = .ok (.ireturn, 1) := by decide +kernel
theorem dX8_whatOf_48 : decode cX8_whatOf 48 = .ok (.iconst 2, 1) := by decide +kernel
theorem dX8_whatOf_49 : decode cX8_whatOf 49 = .ok (.ireturn, 1) := by decide +kernel
theorem dX8_whatOf_50 : decode cX8_whatOf 50 = .ok (.iconst 3, 1) := by decide +kernel
theorem dX8_whatOf_51 : decode cX8_whatOf 51 = .ok (.ireturn, 1) := by decide +kernel
theorem dX8_whatOf_52 : decode cX8_whatOf 52 = .ok (.iconst (-1), 1) := by decide +kernel
theorem dX8_whatOf_53 : decode cX8_whatOf 53 = .ok (.ireturn, 1) := by decide +kernel
theorem dX9_init_0 : decode cX9_init 0 = .ok (.aload_n 0, 1) := by decide +kernel
theorem dX9_init_1 : decode cX9_init 1 = .ok (.invokespecial 1, 3) := by decide +kernel
theorem dX9_init_4 : decode cX9_init 4 = .ok (.aload_n 0, 1) := by decide +kernel
theorem dX9_init_5 : decode cX9_init 5 = .ok (.new 7, 3) := by decide +kernel
theorem dX9_init_8 : decode cX9_init 8 = .ok (.dup, 1) := by decide +kernel
theorem dX9_init_9 : decode cX9_init 9 = .ok (.invokespecial 9, 3) := by decide +kernel
theorem dX9_init_12 : decode cX9_init 12 = .ok (.putfield 10, 3) := by decide +kernel
theorem dX9_init_15 : decode cX9_init 15 = .ok (.aload_n 0, 1) := by decide +kernel
theorem dX9_init_16 : decode cX9_init 16 = .ok (.new 7, 3) := by decide +kernel
theorem dX9_init_19 : decode cX9_init 19 = .ok (.dup, 1) := by decide +kernel
theorem dX9_init_20 : decode cX9_init 20 = .ok (.invokespecial 9, 3) := by decide +kernel
theorem dX9_init_23 : decode cX9_init 23 = .ok (.putfield 16, 3) := by decide +kernel
theorem dX9_init_26 : decode cX9_init 26 = .ok (.aload_n 0, 1) := by decide +kernel
theorem dX9_init_27 : decode cX9_init 27 = .ok (.new 19, 3) := by decide +kernel
theorem dX9_init_30 : decode cX9_init 30 = .ok (.dup, 1) := by decide +kernel
theorem dX9_init_31 : decode cX9_init 31 = .ok (.invokespecial 21, 3) := by decide +kernel
theorem dX9_init_34 : decode cX9_init 34 = .ok (.putfield 22, 3) := by decide +kernel
theorem dX9_init_37 : decode cX9_init 37 = .ok (.aload_n 0, 1) := by decide +kernel
theorem dX9_init_38 : decode cX9_init 38 = .ok (.new 26, 3) := by decide +kernel
theorem dX9_init_41 : decode cX9_init 41 = .ok (.dup, 1) := by decide +kernel
theorem dX9_init_42 : decode cX9_init 42 = .ok (.invokespecial 28, 3) := by decide +kernel
theorem dX9_init_45 : decode cX9_init 45 = .ok (.putfield 29, 3) := by decide +kernel
theorem dX9_init_48 : decode cX9_init 48 = .ok (.aload_n 0, 1) := by decide +kernel
theorem dX9_init_49 : decode cX9_init 49 = .ok (.new 33, 3) := by decide +kernel
theorem dX9_init_52 : decode cX9_init 52 = .ok (.dup, 1) := by decide +kernel
theorem dX9_init_53 : decode cX9_init 53 = .ok (.invokespecial 35, 3) := by decide +kernel
theorem dX9_init_56 : decode cX9_init 56 = .ok (.putfield 36, 3) := by decide +kernel
theorem dX9_init_59 : decode cX9_init 59 = .ok (.aload_n 0, 1) := by decide +kernel
theorem dX9_init_60 : decode cX9_init 60 = .ok (.new 33, 3) := by decide +kernel
theorem dX9_init_63 : decode cX9_init 63 = .ok (.dup, 1) := by decide +kernel
theorem dX9_init_64 : decode cX9_init 64 = .ok (.invokespecial 35, 3) := by decide +kernel
theorem dX9_init_67 : decode cX9_init 67 = .ok (.putfield 40, 3) := by decide +kernel
theorem dX9_init_70 : decode cX9_init 70 = .ok (.aload_n 0, 1) := by decide +kernel
theorem dX9_init_71 : decode cX9_init 71 = .ok (.new 43, 3) := by decide +kernel
theorem dX9_init_74 : decode cX9_init 74 = .ok (.dup, 1) := by decide +kernel
theorem dX9_init_75 : decode cX9_init 75 = .ok (.invokespecial 45, 3) := by decide +kernel
theorem dX9_init_78 : decode cX9_init 78 = .ok (.putfield 46, 3) := by decide +kernel
theorem dX9_init_81 : decode cX9_init 81 = .ok (.aload_n 0, 1) := by decide +kernel
theorem dX9_init_82 : decode cX9_init 82 = .ok (.new 50, 3) := by decide +kernel
theorem dX9_init_85 : decode cX9_init 85 = .ok (.dup, 1) := by decide +kernel
theorem dX9_init_86 : decode cX9_init 86 = .ok (.invokespecial 52, 3) := by decide +kernel
theorem dX9_init_89 : decode cX9_init 89 = .ok (.putfield 53, 3) := by decide +kernel
theorem dX9_init_92 : decode cX9_init 92 = .ok (.aload_n 0, 1) := by decide +kernel
theorem dX9_init_93 : decode cX9_init 93 = .ok (.new 57, 3) := by decide +kernel
theorem dX9_init_96 : decode cX9_init 96 = .ok (.dup, 1) := by decide +kernel
theorem dX9_init_97 : decode cX9_init 97 = .ok (.invokespecial 59, 3) := by decide +kernel
theorem dX9_init_100 : decode cX9_init 100 = .ok (.putfield 60, 3) := by decide +kernel
theorem dX9_init_103 : decode cX9_init 103 = .ok (.aload_n 0, 1) := by decide +kernel
theorem dX9_init_104 : decode cX9_init 104 = .ok (.bipush (-4), 2) := by decide +kernel
theorem dX9_init_106 : decode cX9_init 106 = .ok (.putfield 64, 3) := by decide +kernel
theorem dX9_init_109 : decode cX9_init 109 = .ok (.return_, 1) := by decide +kernel
theorem dX9_player_0 : decode cX9_player 0 = .ok (.aload_n 0, 1) := by decide +kernel
theorem dX9_player_1 : decode cX9_player 1 = .ok (.getfield 10, 3) := by decide +kernel
theorem dX9_player_4 : decode cX9_player 4 = .ok (.getfield 68, 3) := by decide +kernel
theorem dX9_player_7 : decode cX9_player 7 = .ok (.astore 5, 2) := by decide +kernel
theorem dX9_player_9 : decode cX9_player 9 = .ok (.aload 5, 2) := by decide +kernel
theorem dX9_player_11 : decode cX9_player 11 = .ok (.iconst (-1), 1) := by decide +kernel
theorem dX9_player_12 : decode cX9_player 12 = .ok (.iconst 0, 1) := by decide +kernel
theorem dX9_player_13 : decode cX9_player 13 = .ok (.iload_n 1, 1) := by decide +kernel
theorem dX9_player_14 : decode cX9_player 14 = .ok (.invokevirtual 71, 3) := by decide +kernel
theorem dX9_player_17 : decode cX9_player 17 = .ok (.ifCond .eq 41, 3) := by decide +kernel
theorem dX9_player_20 : decode cX9_player 20 = .ok (.aload 5, 2) := by decide +kernel
theorem dX9_player_22 : decode cX9_player 22 = .ok (.iconst (-1), 1) := by decide +kernel
theorem dX9_player_23 : decode cX9_player 23 = .ok (.iconst 1, 1) := by decide +kernel
theorem dX9_player_24 : decode cX9_player 24 = .ok (.iload_n 2, 1) := by decide +kernel
theorem dX9_player_25 : decode cX9_player 25 = .ok (.invokevirtual 71, 3) := by decide +kernel
theorem dX9_player_28 : decode cX9_player 28 = .ok (.ifCond .eq 30, 3) := by decide +kernel
theorem dX9_player_31 : decode cX9_player 31 = .ok (.aload 5, 2) := by decide +kernel
theorem dX9_player_33 : decode cX9_player 33 = .ok (.iconst (-1), 1) := by decide +kernel
theorem dX9_player_34 : decode cX9_player 34 = .ok (.iconst 2, 1) := by decide +kernel
theorem dX9_player_35 : decode cX9_player 35 = .ok (.iload_n 3, 1) := by decide +kernel
theorem dX9_player_36 : decode cX9_player 36 = .ok (.invokevirtual 71, 3) := by decide +kernel
theorem dX9_player_39 : decode cX9_player 39 = .ok (.ifCond .eq 19, 3) := by decide +kernel
theorem dX9_player_42 : decode cX9_player 42 = .ok (.aload 5, 2) := by decide +kernel
theorem dX9_player_44 : decode cX9_player 44 = .ok (.iconst (-1), 1) := by decide +kernel
theorem dX9_player_45 : decode cX9_player 45 = .ok (.iconst 3, 1) := by decide +kernel
theorem dX9_player_46 : decode cX9_player 46 = .ok (.iload 4, 2) := by decide +kernel
theorem dX9_player_48 : decode cX9_player 48 = .ok (.invokevirtual 71, 3) := by decide +kernel
theorem dX9_player_51 : decode cX9_player 51 = .ok (.ifCond .eq 7, 3) := by decide +kernel
theorem dX9_player_54 : decode cX9_player 54 = .ok (.iconst 1, 1) := by decide +kernel
theorem dX9_player_55 : decode cX9_player 55 = .ok (.goto 4, 3) := by decide +kernel
theorem dX9_player_58 : decode cX9_player 58 = .ok (.iconst 0, 1) := by decide +kernel
theorem dX9_player_59 : decode cX9_player 59 = .ok (.istore 6, 2) := by decide +kernel
theorem dX9_player_61 : decode cX9_player 61 = .ok (.iload 6, 2) := by decide +kernel
theorem dX9_player_63 : decode cX9_player 63 = .ok (.ifCond .ne 5, 3) := by decide +kernel
theorem dX9_player_66 : decode cX9_player 66 = .ok (.iconst (-1), 1) := by decide +kernel
theorem dX9_player_67 : decode cX9_player 67 = .ok (.ireturn, 1) := by decide +kernel
theorem dX9_player_68 : decode cX9_player 68 = .ok (.aload 5, 2) := by decide +kernel
theorem dX9_player_70 : decode cX9_player 70 = .ok (.getfield 75, 3) := by decide +kernel
theorem dX9_player_73 : decode cX9_player 73 = .ok (.bipush 10, 2) := by decide +kernel
theorem dX9_player_75 : decode cX9_player 75 = .ok (.if_icmp .lt 6, 3) := by decide +kernel
theorem dX9_player_78 : decode cX9_player 78 = .ok (.bipush (-3), 2) := by decide +kernel
theorem dX9_player_80 : decode cX9_player 80 = .ok (.ireturn, 1) := by decide +kernel
theorem dX9_player_81 : decode cX9_player 81 = .ok (.aload 5, 2) := by decide +kernel
theorem dX9_player_83 : decode cX9_player 83 = .ok (.iload_n 1, 1) := by decide +kernel
theorem dX9_player_84 : decode cX9_player 84 = .ok (.iload_n 2, 1) := by decide +kernel
theorem dX9_player_85 : decode cX9_player 85 = .ok (.iload_n 3, 1) := by decide +kernel
theorem dX9_player_86 : decode cX9_player 86 = .ok (.iload 4, 2) := by decide +kernel
theorem dX9_player_88 : decode cX9_player 88 = .ok (.invokevirtual 78, 3) := by decide +kernel
theorem dX9_player_91 : decode cX9_player 91 = .ok (.aload_n 0, 1) := by decide +kernel
theorem dX9_player_92 : decode cX9_player 92 = .ok (.invokevirtual 82, 3) := by decide +kernel
theorem dX9_player_95 : decode cX9_player 95 = .ok (.aload 5, 2) := by decide +kernel
theorem dX9_player_97 : decode cX9_player 97 = .ok (.getfield 75, 3) := by decide +kernel
theorem dX9_player_100 : decode cX9_player 100 = .ok (.iconst 1, 1) := by decide +kernel
theorem dX9_player_101 : decode cX9_player 101 = .ok (.isub, 1) := by decide +kernel
theorem dX9_player_102 : decode cX9_player 102 = .ok (.ireturn, 1) := by decide +kernel
theorem dX9_tell_0 : decode cX9_tell 0 = .ok (.aload_n 0, 1) := by decide +kernel
theorem dX9_tell_1 : decode cX9_tell 1 = .ok (.getfield 10, 3) := by decide +kernel
theorem dX9_tell_4 : decode cX9_tell 4 = .ok (.getfield 68, 3) := by decide +kernel
theorem dX9_tell_7 : decode cX9_tell 7 = .ok (.astore 4, 2) := by decide +kernel
theorem dX9_tell_9 : decode cX9_tell 9 = .ok (.aload 4, 2) := by decide +kernel
theorem dX9_tell_11 : decode cX9_tell 11 = .ok (.iload_n 1, 1) := by decide +kernel
theorem dX9_tell_12 : decode cX9_tell 12 = .ok (.invokevirtual 85, 3) := by decide +kernel
theorem dX9_tell_15 : decode cX9_tell 15 = .ok (.ifCond .eq 14, 3) := by decide +kernel
theorem dX9_tell_18 : decode cX9_tell 18 = .ok (.aload 4, 2) := by decide +kernel
theorem dX9_tell_20 : decode cX9_tell 20 = .ok (.iload_n 1, 1) := by decide +kernel
theorem dX9_tell_21 : decode cX9_tell 21 = .ok (.iload_n 2, 1) := by decide +kernel
theorem dX9_tell_22 : decode cX9_tell 22 = .ok (.iload_n 3, 1) := by decide +kernel
theorem dX9_tell_23 : decode cX9_tell 23 = .ok (.invokevirtual 71, 3) := by decide +kernel
theorem dX9_tell_26 : decode cX9_tell 26 = .ok (.ifCond .ne 5, 3) := by decide +kernel
theorem dX9_tell_29 : decode cX9_tell 29 = .ok (.iconst (-1), 1) := by decide +kernel
theorem dX9_tell_30 : decode cX9_tell 30 = .ok (.ireturn, 1) := by decide +kernel
theorem dX9_tell_31 : decode cX9_tell 31 = .ok (.aload 4, 2) := by decide +kernel
theorem dX9_tell_33 : decode cX9_tell 33 = .ok (.iload_n 1, 1) := by decide +kernel
theorem dX9_tell_34 : decode cX9_tell 34 = .ok (.iload_n 2, 1) := by decide +kernel
theorem dX9_tell_35 : decode cX9_tell 35 = .ok (.invokevirtual 89, 3) := by decide +kernel
theorem dX9_tell_38 : decode cX9_tell 38 = .ok (.istore 5, 2) := by decide +kernel
theorem dX9_tell_40 : decode cX9_tell 40 = .ok (.aload 4, 2) := by decide +kernel
theorem dX9_tell_42 : decode cX9_tell 42 = .ok (.iload_n 1, 1) := by decide +kernel
theorem dX9_tell_43 : decode cX9_tell 43 = .ok (.iload_n 2, 1) := by decide +kernel
theorem dX9_tell_44 : decode cX9_tell 44 = .ok (.iload_n 3, 1) := by decide +kernel
theorem dX9_tell_45 : decode cX9_tell 45 = .ok (.invokevirtual 93, 3) := by decide +kernel
theorem dX9_tell_48 : decode cX9_tell 48 = .ok (.iload_n 2, 1) := by decide +kernel
theorem dX9_tell_49 : decode cX9_tell 49 = .ok (.iconst 3, 1) := by decide +kernel
theorem dX9_tell_50 : decode cX9_tell 50 = .ok (.if_icmp .eq 13, 3) := by decide +kernel
theorem dX9_tell_53 : decode cX9_tell 53 = .ok (.aload_n 0, 1) := by decide +kernel
theorem dX9_tell_54 : decode cX9_tell 54 = .ok (.getfield 10, 3) := by decide +kernel
theorem dX9_tell_57 : decode cX9_tell 57 = .ok (.getfield 97, 3) := by decide +kernel
theorem dX9_tell_60 : decode cX9_tell 60 = .ok (.invokevirtual 100, 3) := by decide +kernel
theorem dX9_tell_63 : decode cX9_tell 63 = .ok (.aload_n 0, 1) := by decide +kernel
theorem dX9_tell_64 : decode cX9_tell 64 = .ok (.getfield 22, 3) := by decide +kernel
theorem dX9_tell_67 : decode cX9_tell 67 = .ok (.aload_n 0, 1) := by decide +kernel
theorem dX9_tell_68 : decode cX9_tell 68 = .ok (.getfield 10, 3) := by decide +kernel
theorem dX9_tell_71 : decode cX9_tell 71 = .ok (.invokevirtual 103, 3) := by decide +kernel
theorem dX9_tell_74 : decode cX9_tell 74 = .ok (.iload 5, 2) := by decide +kernel
theorem dX9_tell_76 : decode cX9_tell 76 = .ok (.ireturn, 1) := by decide +kernel
theorem dX9_of_0 : decode cX9_of 0 = .ok (.aload_n 0, 1) := by decide +kernel
theorem dX9_of_1 : decode cX9_of 1 = .ok (.getfield 10, 3) := by decide +kernel
theorem dX9_of_4 : decode cX9_of 4 = .ok (.getfield 68, 3) := by decide +kernel
theorem dX9_of_7 : decode cX9_of 7 = .ok (.astore_n 3, 1) := by decide +kernel
theorem dX9_of_8 : decode cX9_of 8 = .ok (.aload_n 3, 1) := by decide +kernel
theorem dX9_of_9 : decode cX9_of 9 = .ok (.iload_n 1, 1) := by decide +kernel
theorem dX9_of_10 : decode cX9_of 10 = .ok (.invokevirtual 85, 3) := by decide +kernel
theorem dX9_of_13 : decode cX9_of 13 = .ok (.ifCond .eq 12, 3) := by decide +kernel
theorem dX9_of_16 : decode cX9_of 16 = .ok (.iload_n 2, 1) := by decide +kernel
theorem dX9_of_17 : decode cX9_of 17 = .ok (.ifCond .lt 8, 3) := by decide +kernel
theorem dX9_of_20 : decode cX9_of 20 = .ok (.iload_n 2, 1) := by decide +kernel
theorem dX9_of_21 : decode cX9_of 21 = .ok (.iconst 4, 1) := by decide +kernel
theorem dX9_of_22 : decode cX9_of 22 = .ok (.if_icmp .le 5, 3) := by decide +kernel
theorem dX9_of_25 : decode cX9_of 25 = .ok (.iconst (-1), 1) := by decide +kernel
theorem dX9_of_26 : decode cX9_of 26 = .ok (.ireturn, 1) := by decide +kernel
theorem dX9_of_27 : decode cX9_of 27 = .ok (.iload_n 2, 1) := by decide +kernel
theorem dX9_of_28 : decode cX9_of 28 = .ok (.iconst 4, 1) := by decide +kernel
theorem dX9_of_29 : decode cX9_of 29 = .ok (.if_icmp .ge 10, 3) := by decide +kernel
theorem dX9_of_32 : decode cX9_of 32 = .ok (.aload_n 3, 1) := by decide +kernel
theorem dX9_of_33 : decode cX9_of 33 = .ok (.iload_n 1, 1) := by decide +kernel
theorem dX9_of_34 : decode cX9_of 34 = .ok (.iload_n 2, 1) := by decide +kernel
theorem dX9_of_35 : decode cX9_of 35 = .ok (.invokevirtual 89, 3) := by decide +kernel
theorem dX9_of_38 : decode cX9_of 38 = .ok (.ireturn, 1) := by decide +kernel
theorem dX9_of_39 : decode cX9_of 39 = .ok (.aload_n 3, 1) := by decide +kernel
theorem dX9_of_40 : decode cX9_of 40 = .ok (.iload_n 1, 1) := by decide +kernel
theorem dX9_of_41 : decode cX9_of 41 = .ok (.invokevirtual 107, 3) := by decide +kernel
theorem dX9_of_44 : decode cX9_of 44 = .ok (.istore 4, 2) := by decide +kernel
theorem dX9_of_46 : decode cX9_of 46 = .ok (.iload 4, 2) := by decide +kernel
theorem dX9_of_48 : decode cX9_of 48 = .ok (.iconst (-1), 1) := by decide +kernel
theorem dX9_of_49 : decode cX9_of 49 = .ok (.if_icmp .ne 8, 3) := by decide +kernel
theorem dX9_of_52 : decode cX9_of 52 = .ok (.bipush (-2), 2) := by decide +kernel
theorem dX9_of_54 : decode cX9_of 54 = .ok (.goto 5, 3) := by decide +kernel
theorem dX9_of_57 : decode cX9_of 57 = .ok (.iload 4, 2) := by decide +kernel
theorem dX9_of_59 : decode cX9_of 59 = .ok (.ireturn, 1) := by decide +kernel
theorem dX9_level_0 : decode cX9_level 0 = .ok (.iload_n 1, 1) := by decide +kernel
theorem dX9_level_1 : decode cX9_level 1 = .ok (.ifCond .lt 17, 3) := by decide +kernel
theorem dX9_level_4 : decode cX9_level 4 = .ok (.iload_n 1, 1) := by decide +kernel
theorem dX9_level_5 : decode cX9_level 5 = .ok (.iconst 1, 1) := by decide +kernel
theorem dX9_level_6 : decode cX9_level 6 = .ok (.if_icmp .gt 12, 3) := by decide +kernel
theorem dX9_level_9 : decode cX9_level 9 = .ok (.iload_n 2, 1) := by decide +kernel
theorem dX9_level_10 : decode cX9_level 10 = .ok (.ifCond .lt 8, 3) := by decide +kernel
theorem dX9_level_13 : decode cX9_level 13 = .ok (.iload_n 2, 1) := by decide +kernel
theorem dX9_level_14 : decode cX9_level 14 = .ok (.iconst 4, 1) := by decide +kernel
theorem dX9_level_15 : decode cX9_level 15 = .ok (.if_icmp .le 5, 3) := by decide +kernel
theorem dX9_level_18 : decode cX9_level 18 = .ok (.iconst (-1), 1) := by decide +kernel
theorem dX9_level_19 : decode cX9_level 19 = .ok (.ireturn, 1) := by decide +kernel
theorem dX9_level_20 : decode cX9_level 20 = .ok (.aload_n 0, 1) := by decide +kernel
theorem dX9_level_21 : decode cX9_level 21 = .ok (.getfield 10, 3) := by decide +kernel
theorem dX9_level_24 : decode cX9_level 24 = .ok (.getfield 68, 3) := by decide +kernel
theorem dX9_level_27 : decode cX9_level 27 = .ok (.astore_n 3, 1) := by decide +kernel
theorem dX9_level_28 : decode cX9_level 28 = .ok (.iload_n 1, 1) := by decide +kernel
theorem dX9_level_29 : decode cX9_level 29 = .ok (.ifCond .ne 10, 3) := by decide +kernel
theorem dX9_level_32 : decode cX9_level 32 = .ok (.aload_n 3, 1) := by decide +kernel
theorem dX9_level_33 : decode cX9_level 33 = .ok (.getfield 111, 3) := by decide +kernel
theorem dX9_level_36 : decode cX9_level 36 = .ok (.goto 7, 3) := by decide +kernel
theorem dX9_level_39 : decode cX9_level 39 = .ok (.aload_n 3, 1) := by decide +kernel
theorem dX9_level_40 : decode cX9_level 40 = .ok (.getfield 114, 3) := by decide +kernel
theorem dX9_level_43 : decode cX9_level 43 = .ok (.istore 4, 2) := by decide +kernel
theorem dX9_level_45 : decode cX9_level 45 = .ok (.iload_n 1, 1) := by decide +kernel
theorem dX9_level_46 : decode cX9_level 46 = .ok (.ifCond .ne 11, 3) := by decide +kernel
theorem dX9_level_49 : decode cX9_level 49 = .ok (.aload_n 3, 1) := by decide +kernel
theorem dX9_level_50 : decode cX9_level 50 = .ok (.iload_n 2, 1) := by decide +kernel
theorem dX9_level_51 : decode cX9_level 51 = .ok (.putfield 111, 3) := by decide +kernel
theorem dX9_level_54 : decode cX9_level 54 = .ok (.goto 8, 3) := by decide +kernel
theorem dX9_level_57 : decode cX9_level 57 = .ok (.aload_n 3, 1) := by decide +kernel
theorem dX9_level_58 : decode cX9_level 58 = .ok (.iload_n 2, 1) := by decide +kernel
theorem dX9_level_59 : decode cX9_level 59 = .ok (.putfield 114, 3) := by decide +kernel
theorem dX9_level_62 : decode cX9_level 62 = .ok (.aload_n 0, 1) := by decide +kernel
theorem dX9_level_63 : decode cX9_level 63 = .ok (.getfield 10, 3) := by decide +kernel
theorem dX9_level_66 : decode cX9_level 66 = .ok (.getfield 97, 3) := by decide +kernel
theorem dX9_level_69 : decode cX9_level 69 = .ok (.invokevirtual 100, 3) := by decide +kernel
theorem dX9_level_72 : decode cX9_level 72 = .ok (.aload_n 0, 1) := by decide +kernel
theorem dX9_level_73 : decode cX9_level 73 = .ok (.getfield 22, 3) := by decide +kernel
theorem dX9_level_76 : decode cX9_level 76 = .ok (.aload_n 0, 1) := by decide +kernel
theorem dX9_level_77 : decode cX9_level 77 = .ok (.getfield 10, 3) := by decide +kernel
theorem dX9_level_80 : decode cX9_level 80 = .ok (.invokevirtual 103, 3) := by decide +kernel
theorem dX9_level_83 : decode cX9_level 83 = .ok (.iload 4, 2) := by decide +kernel
theorem dX9_level_85 : decode cX9_level 85 = .ok (.ireturn, 1) := by decide +kernel
theorem dX9_feed_0 : decode cX9_feed 0 = .ok (.iload_n 1, 1) := by decide +kernel
theorem dX9_feed_1 : decode cX9_feed 1 = .ok (.bipush 32, 2) := by decide +kernel
theorem dX9_feed_3 : decode cX9_feed 3 = .ok (.if_icmp .lt 9, 3) := by decide +kernel
theorem dX9_feed_6 : decode cX9_feed 6 = .ok (.iload_n 1, 1) := by decide +kernel
theorem dX9_feed_7 : decode cX9_feed 7 = .ok (.bipush 126, 2) := by decide +kernel
theorem dX9_feed_9 : decode cX9_feed 9 = .ok (.if_icmp .le 5, 3) := by decide +kernel
theorem dX9_feed_12 : decode cX9_feed 12 = .ok (.iconst (-1), 1) := by decide +kernel
theorem dX9_feed_13 : decode cX9_feed 13 = .ok (.ireturn, 1) := by decide +kernel
theorem dX9_feed_14 : decode cX9_feed 14 = .ok (.aload_n 0, 1) := by decide +kernel
theorem dX9_feed_15 : decode cX9_feed 15 = .ok (.getfield 29, 3) := by decide +kernel
theorem dX9_feed_18 : decode cX9_feed 18 = .ok (.getfield 117, 3) := by decide +kernel
theorem dX9_feed_21 : decode cX9_feed 21 = .ok (.iload_n 1, 1) := by decide +kernel
theorem dX9_feed_22 : decode cX9_feed 22 = .ok (.invokevirtual 121, 3) := by decide +kernel
theorem dX9_feed_25 : decode cX9_feed 25 = .ok (.ifCond .eq 16, 3) := by decide +kernel
theorem dX9_feed_28 : decode cX9_feed 28 = .ok (.aload_n 0, 1) := by decide +kernel
theorem dX9_feed_29 : decode cX9_feed 29 = .ok (.getfield 29, 3) := by decide +kernel
theorem dX9_feed_32 : decode cX9_feed 32 = .ok (.getfield 117, 3) := by decide +kernel
theorem dX9_feed_35 : decode cX9_feed 35 = .ok (.getfield 125, 3) := by decide +kernel
theorem dX9_feed_38 : decode cX9_feed 38 = .ok (.goto 5, 3) := by decide +kernel
theorem dX9_feed_41 : decode cX9_feed 41 = .ok (.bipush (-3), 2) := by decide +kernel
theorem dX9_feed_43 : decode cX9_feed 43 = .ok (.ireturn, 1) := by decide +kernel
theorem dX9_players_0 : decode cX9_players 0 = .ok (.aload_n 0, 1) := by decide +kernel
theorem dX9_players_1 : decode cX9_players 1 = .ok (.getfield 29, 3) := by decide +kernel
theorem dX9_players_4 : decode cX9_players 4 = .ok (.aload_n 0, 1) := by decide +kernel
theorem dX9_players_5 : decode cX9_players 5 = .ok (.getfield 10, 3) := by decide +kernel
theorem dX9_players_8 : decode cX9_players 8 = .ok (.getfield 68, 3) := by decide +kernel
theorem dX9_players_11 : decode cX9_players 11 = .ok (.invokevirtual 128, 3) := by decide +kernel
theorem dX9_players_14 : decode cX9_players 14 = .ok (.istore_n 1, 1) := by decide +kernel
theorem dX9_players_15 : decode cX9_players 15 = .ok (.aload_n 0, 1) := by decide +kernel
theorem dX9_players_16 : decode cX9_players 16 = .ok (.getfield 29, 3) := by decide +kernel
theorem dX9_players_19 : decode cX9_players 19 = .ok (.getfield 117, 3) := by decide +kernel
theorem dX9_players_22 : decode cX9_players 22 = .ok (.iconst 0, 1) := by decide +kernel
theorem dX9_players_23 : decode cX9_players 23 = .ok (.putfield 125, 3) := by decide +kernel
theorem dX9_players_26 : decode cX9_players 26 = .ok (.iload_n 1, 1) := by decide +kernel
theorem dX9_players_27 : decode cX9_players 27 = .ok (.iconst (-1), 1) := by decide +kernel
theorem dX9_players_28 : decode cX9_players 28 = .ok (.if_icmp .eq 8, 3) := by decide +kernel
theorem dX9_players_31 : decode cX9_players 31 = .ok (.bipush (-100), 2) := by decide +kernel
theorem dX9_players_33 : decode cX9_players 33 = .ok (.iload_n 1, 1) := by decide +kernel
theorem dX9_players_34 : decode cX9_players 34 = .ok (.isub, 1) := by decide +kernel
theorem dX9_players_35 : decode cX9_players 35 = .ok (.ireturn, 1) := by decide +kernel
theorem dX9_players_36 : decode cX9_players 36 = .ok (.aload_n 0, 1) := by decide +kernel
theorem dX9_players_37 : decode cX9_players 37 = .ok (.getfield 10, 3) := by decide +kernel
theorem dX9_players_40 : decode cX9_players 40 = .ok (.getfield 68, 3) := by decide +kernel
theorem dX9_players_43 : decode cX9_players 43 = .ok (.aload_n 0, 1) := by decide +kernel
theorem dX9_players_44 : decode cX9_players 44 = .ok (.getfield 29, 3) := by decide +kernel
theorem dX9_players_47 : decode cX9_players 47 = .ok (.getfield 132, 3) := by decide +kernel
theorem dX9_players_50 : decode cX9_players 50 = .ok (.invokevirtual 133, 3) := by decide +kernel
theorem dX9_players_53 : decode cX9_players 53 = .ok (.aload_n 0, 1) := by decide +kernel
theorem dX9_players_54 : decode cX9_players 54 = .ok (.invokevirtual 82, 3) := by decide +kernel
theorem dX9_players_57 : decode cX9_players 57 = .ok (.aload_n 0, 1) := by decide +kernel
theorem dX9_players_58 : decode cX9_players 58 = .ok (.getfield 10, 3) := by decide +kernel
theorem dX9_players_61 : decode cX9_players 61 = .ok (.getfield 68, 3) := by decide +kernel
theorem dX9_players_64 : decode cX9_players 64 = .ok (.getfield 75, 3) := by decide +kernel
theorem dX9_players_67 : decode cX9_players 67 = .ok (.ireturn, 1) := by decide +kernel
theorem dX9_howMany_0 : decode cX9_howMany 0 = .ok (.aload_n 0, 1) := by decide +kernel
theorem dX9_howMany_1 : decode cX9_howMany 1 = .ok (.getfield 10, 3) := by decide +kernel
theorem dX9_howMany_4 : decode cX9_howMany 4 = .ok (.getfield 68, 3) := by decide +kernel
theorem dX9_howMany_7 : decode cX9_howMany 7 = .ok (.getfield 75, 3) := by decide +kernel
theorem dX9_howMany_10 : decode cX9_howMany 10 = .ok (.iconst 2, 1) := by decide +kernel
theorem dX9_howMany_11 : decode cX9_howMany 11 = .ok (.if_icmp .ge 9, 3) := by decide +kernel
theorem dX9_howMany_14 : decode cX9_howMany 14 = .ok (.ldc2_w 137, 3) := by decide +kernel
theorem dX9_howMany_17 : decode cX9_howMany 17 = .ok (.goto 7, 3) := by decide +kernel
theorem dX9_howMany_20 : decode cX9_howMany 20 = .ok (.aload_n 0, 1) := by decide +kernel
theorem dX9_howMany_21 : decode cX9_howMany 21 = .ok (.invokevirtual 139, 3) := by decide +kernel
theorem dX9_howMany_24 : decode cX9_howMany 24 = .ok (.lreturn, 1) := by decide +kernel
theorem dX9_stands_0 : decode cX9_stands 0 = .ok (.aload_n 0, 1) := by decide +kernel
theorem dX9_stands_1 : decode cX9_stands 1 = .ok (.getfield 10, 3) := by decide +kernel
theorem dX9_stands_4 : decode cX9_stands 4 = .ok (.getfield 68, 3) := by decide +kernel
theorem dX9_stands_7 : decode cX9_stands 7 = .ok (.astore_n 3, 1) := by decide +kernel
theorem dX9_stands_8 : decode cX9_stands 8 = .ok (.aload_n 3, 1) := by decide +kernel
theorem dX9_stands_9 : decode cX9_stands 9 = .ok (.iload_n 1, 1) := by decide +kernel
theorem dX9_stands_10 : decode cX9_stands 10 = .ok (.invokevirtual 85, 3) := by decide +kernel
theorem dX9_stands_13 : decode cX9_stands 13 = .ok (.ifCond .eq 11, 3) := by decide +kernel
theorem dX9_stands_16 : decode cX9_stands 16 = .ok (.aload_n 3, 1) := by decide +kernel
theorem dX9_stands_17 : decode cX9_stands 17 = .ok (.iload_n 2, 1) := by decide +kernel
theorem dX9_stands_18 : decode cX9_stands 18 = .ok (.invokevirtual 143, 3) := by decide +kernel
theorem dX9_stands_21 : decode cX9_stands 21 = .ok (.ifCond .ne 7, 3) := by decide +kernel
theorem dX9_stands_24 : decode cX9_stands 24 = .ok (.ldc2_w 146, 3) := by decide +kernel
theorem dX9_stands_27 : decode cX9_stands 27 = .ok (.lreturn, 1) := by decide +kernel
theorem dX9_stands_28 : decode cX9_stands 28 = .ok (.aload_n 3, 1) := by decide +kernel
theorem dX9_stands_29 : decode cX9_stands 29 = .ok (.getfield 75, 3) := by decide +kernel
theorem dX9_stands_32 : decode cX9_stands 32 = .ok (.iconst 2, 1) := by decide +kernel
theorem dX9_stands_33 : decode cX9_stands 33 = .ok (.if_icmp .ge 7, 3) := by decide +kernel
theorem dX9_stands_36 : decode cX9_stands 36 = .ok (.ldc2_w 137, 3) := by decide +kernel
theorem dX9_stands_39 : decode cX9_stands 39 = .ok (.lreturn, 1) := by decide +kernel
theorem dX9_stands_40 : decode cX9_stands 40 = .ok (.aload_n 0, 1) := by decide +kernel
theorem dX9_stands_41 : decode cX9_stands 41 = .ok (.invokevirtual 139, 3) := by decide +kernel
theorem dX9_stands_44 : decode cX9_stands 44 = .ok (.lstore 4, 2) := by decide +kernel
theorem dX9_stands_46 : decode cX9_stands 46 = .ok (.aload_n 3, 1) := by decide +kernel
theorem dX9_stands_47 : decode cX9_stands 47 = .ok (.iload_n 1, 1) := by decide +kernel
theorem dX9_stands_48 : decode cX9_stands 48 = .ok (.invokevirtual 107, 3) := by decide +kernel
theorem dX9_stands_51 : decode cX9_stands 51 = .ok (.istore 6, 2) := by decide +kernel
theorem dX9_stands_53 : decode cX9_stands 53 = .ok (.lload 4, 2) := by decide +kernel
theorem dX9_stands_55 : decode cX9_stands 55 = .ok (.lconst 0, 1) := by decide +kernel
theorem dX9_stands_56 : decode cX9_stands 56 = .ok (.lcmp, 1) := by decide +kernel
theorem dX9_stands_57 : decode cX9_stands 57 = .ok (.ifCond .eq 9, 3) := by decide +kernel
theorem dX9_stands_60 : decode cX9_stands 60 = .ok (.iload 6, 2) := by decide +kernel
theorem dX9_stands_62 : decode cX9_stands 62 = .ok (.iconst (-1), 1) := by decide +kernel
theorem dX9_stands_63 : decode cX9_stands 63 = .ok (.if_icmp .eq 16, 3) := by decide +kernel
theorem dX9_stands_66 : decode cX9_stands 66 = .ok (.iload 6, 2) := by decide +kernel
theorem dX9_stands_68 : decode cX9_stands 68 = .ok (.iload_n 2, 1) := by decide +kernel
theorem dX9_stands_69 : decode cX9_stands 69 = .ok (.if_icmp .ne 8, 3) := by decide +kernel
theorem dX9_stands_72 : decode cX9_stands 72 = .ok (.lload 4, 2) := by decide +kernel
theorem dX9_stands_74 : decode cX9_stands 74 = .ok (.goto 4, 3) := by decide +kernel
theorem dX9_stands_77 : decode cX9_stands 77 = .ok (.lconst 0, 1) := by decide +kernel
theorem dX9_stands_78 : decode cX9_stands 78 = .ok (.lreturn, 1) := by decide +kernel
theorem dX9_stands_79 : decode cX9_stands 79 = .ok (.aload_n 0, 1) := by decide +kernel
theorem dX9_stands_80 : decode cX9_stands 80 = .ok (.getfield 40, 3) := by decide +kernel
theorem dX9_stands_83 : decode cX9_stands 83 = .ok (.aload_n 3, 1) := by decide +kernel
theorem dX9_stands_84 : decode cX9_stands 84 = .ok (.invokevirtual 148, 3) := by decide +kernel
theorem dX9_stands_87 : decode cX9_stands 87 = .ok (.aload_n 0, 1) := by decide +kernel
theorem dX9_stands_88 : decode cX9_stands 88 = .ok (.getfield 40, 3) := by decide +kernel
theorem dX9_stands_91 : decode cX9_stands 91 = .ok (.iload_n 1, 1) := by decide +kernel
theorem dX9_stands_92 : decode cX9_stands 92 = .ok (.iload_n 2, 1) := by decide +kernel
theorem dX9_stands_93 : decode cX9_stands 93 = .ok (.invokevirtual 151, 3) := by decide +kernel
theorem dX9_stands_96 : decode cX9_stands 96 = .ok (.ifCond .eq 13, 3) := by decide +kernel
theorem dX9_stands_99 : decode cX9_stands 99 = .ok (.aload_n 0, 1) := by decide +kernel
theorem dX9_stands_100 : decode cX9_stands 100 = .ok (.getfield 40, 3) := by decide +kernel
theorem dX9_stands_103 : decode cX9_stands 103 = .ok (.invokevirtual 155, 3) := by decide +kernel
theorem dX9_stands_106 : decode cX9_stands 106 = .ok (.goto 4, 3) := by decide +kernel
theorem dX9_stands_109 : decode cX9_stands 109 = .ok (.lconst 0, 1) := by decide +kernel
theorem dX9_stands_110 : decode cX9_stands 110 = .ok (.lreturn, 1) := by decide +kernel
theorem dX9_meets_0 : decode cX9_meets 0 = .ok (.aload_n 0, 1) := by decide +kernel
theorem dX9_meets_1 : decode cX9_meets 1 = .ok (.getfield 10, 3) := by decide +kernel
theorem dX9_meets_4 : decode cX9_meets 4 = .ok (.getfield 68, 3) := by decide +kernel
theorem dX9_meets_7 : decode cX9_meets 7 = .ok (.astore 4, 2) := by decide +kernel
theorem dX9_meets_9 : decode cX9_meets 9 = .ok (.aload 4, 2) := by decide +kernel
theorem dX9_meets_11 : decode cX9_meets 11 = .ok (.iload_n 1, 1) := by decide +kernel
theorem dX9_meets_12 : decode cX9_meets 12 = .ok (.iload_n 2, 1) := by decide +kernel
theorem dX9_meets_13 : decode cX9_meets 13 = .ok (.invokevirtual 158, 3) := by decide +kernel
theorem dX9_meets_16 : decode cX9_meets 16 = .ok (.ifCond .eq 12, 3) := by decide +kernel
theorem dX9_meets_19 : decode cX9_meets 19 = .ok (.aload 4, 2) := by decide +kernel
theorem dX9_meets_21 : decode cX9_meets 21 = .ok (.iload_n 3, 1) := by decide +kernel
theorem dX9_meets_22 : decode cX9_meets 22 = .ok (.invokevirtual 161, 3) := by decide +kernel
theorem dX9_meets_25 : decode cX9_meets 25 = .ok (.ifCond .ne 7, 3) := by decide +kernel
theorem dX9_meets_28 : decode cX9_meets 28 = .ok (.ldc2_w 146, 3) := by decide +kernel
theorem dX9_meets_31 : decode cX9_meets 31 = .ok (.lreturn, 1) := by decide +kernel
theorem dX9_meets_32 : decode cX9_meets 32 = .ok (.aload 4, 2) := by decide +kernel
theorem dX9_meets_34 : decode cX9_meets 34 = .ok (.getfield 75, 3) := by decide +kernel
theorem dX9_meets_37 : decode cX9_meets 37 = .ok (.iconst 2, 1) := by decide +kernel
theorem dX9_meets_38 : decode cX9_meets 38 = .ok (.if_icmp .ge 7, 3) := by decide +kernel
theorem dX9_meets_41 : decode cX9_meets 41 = .ok (.ldc2_w 137, 3) := by decide +kernel
theorem dX9_meets_44 : decode cX9_meets 44 = .ok (.lreturn, 1) := by decide +kernel
theorem dX9_meets_45 : decode cX9_meets 45 = .ok (.aload_n 0, 1) := by decide +kernel
theorem dX9_meets_46 : decode cX9_meets 46 = .ok (.iconst 1, 1) := by decide +kernel
theorem dX9_meets_47 : decode cX9_meets 47 = .ok (.iload_n 1, 1) := by decide +kernel
theorem dX9_meets_48 : decode cX9_meets 48 = .ok (.ishl, 1) := by decide +kernel
theorem dX9_meets_49 : decode cX9_meets 49 = .ok (.iconst 1, 1) := by decide +kernel
theorem dX9_meets_50 : decode cX9_meets 50 = .ok (.iload_n 2, 1) := by decide +kernel
theorem dX9_meets_51 : decode cX9_meets 51 = .ok (.ishl, 1) := by decide +kernel
theorem dX9_meets_52 : decode cX9_meets 52 = .ok (.ior, 1) := by decide +kernel
theorem dX9_meets_53 : decode cX9_meets 53 = .ok (.iload_n 3, 1) := by decide +kernel
theorem dX9_meets_54 : decode cX9_meets 54 = .ok (.iconst 1, 1) := by decide +kernel
theorem dX9_meets_55 : decode cX9_meets 55 = .ok (.isub, 1) := by decide +kernel
theorem dX9_meets_56 : decode cX9_meets 56 = .ok (.iload_n 3, 1) := by decide +kernel
theorem dX9_meets_57 : decode cX9_meets 57 = .ok (.invokevirtual 164, 3) := by decide +kernel
theorem dX9_meets_60 : decode cX9_meets 60 = .ok (.lreturn, 1) := by decide +kernel
theorem dX9_apart_0 : decode cX9_apart 0 = .ok (.aload_n 0, 1) := by decide +kernel
theorem dX9_apart_1 : decode cX9_apart 1 = .ok (.getfield 10, 3) := by decide +kernel
theorem dX9_apart_4 : decode cX9_apart 4 = .ok (.getfield 68, 3) := by decide +kernel
theorem dX9_apart_7 : decode cX9_apart 7 = .ok (.astore_n 3, 1) := by decide +kernel
theorem dX9_apart_8 : decode cX9_apart 8 = .ok (.iload_n 1, 1) := by decide +kernel
theorem dX9_apart_9 : decode cX9_apart 9 = .ok (.ifCond .lt 19, 3) := by decide +kernel
theorem dX9_apart_12 : decode cX9_apart 12 = .ok (.iload_n 1, 1) := by decide +kernel
theorem dX9_apart_13 : decode cX9_apart 13 = .ok (.aload_n 3, 1) := by decide +kernel
theorem dX9_apart_14 : decode cX9_apart 14 = .ok (.invokevirtual 168, 3) := by decide +kernel
theorem dX9_apart_17 : decode cX9_apart 17 = .ok (.if_icmp .gt 11, 3) := by decide +kernel
theorem dX9_apart_20 : decode cX9_apart 20 = .ok (.aload_n 3, 1) := by decide +kernel
theorem dX9_apart_21 : decode cX9_apart 21 = .ok (.iload_n 2, 1) := by decide +kernel
theorem dX9_apart_22 : decode cX9_apart 22 = .ok (.invokevirtual 161, 3) := by decide +kernel
theorem dX9_apart_25 : decode cX9_apart 25 = .ok (.ifCond .ne 7, 3) := by decide +kernel
theorem dX9_apart_28 : decode cX9_apart 28 = .ok (.ldc2_w 146, 3) := by decide +kernel
theorem dX9_apart_31 : decode cX9_apart 31 = .ok (.lreturn, 1) := by decide +kernel
theorem dX9_apart_32 : decode cX9_apart 32 = .ok (.aload_n 3, 1) := by decide +kernel
theorem dX9_apart_33 : decode cX9_apart 33 = .ok (.getfield 75, 3) := by decide +kernel
theorem dX9_apart_36 : decode cX9_apart 36 = .ok (.iconst 2, 1) := by decide +kernel
theorem dX9_apart_37 : decode cX9_apart 37 = .ok (.if_icmp .ge 7, 3) := by decide +kernel
theorem dX9_apart_40 : decode cX9_apart 40 = .ok (.ldc2_w 137, 3) := by decide +kernel
theorem dX9_apart_43 : decode cX9_apart 43 = .ok (.lreturn, 1) := by decide +kernel
theorem dX9_apart_44 : decode cX9_apart 44 = .ok (.aload_n 0, 1) := by decide +kernel
theorem dX9_apart_45 : decode cX9_apart 45 = .ok (.iload_n 1, 1) := by decide +kernel
theorem dX9_apart_46 : decode cX9_apart 46 = .ok (.iload_n 2, 1) := by decide +kernel
theorem dX9_apart_47 : decode cX9_apart 47 = .ok (.iconst (-1), 1) := by decide +kernel
theorem dX9_apart_48 : decode cX9_apart 48 = .ok (.invokevirtual 164, 3) := by decide +kernel
theorem dX9_apart_51 : decode cX9_apart 51 = .ok (.lreturn, 1) := by decide +kernel
theorem dX9_take_0 : decode cX9_take 0 = .ok (.aload_n 0, 1) := by decide +kernel
theorem dX9_take_1 : decode cX9_take 1 = .ok (.getfield 10, 3) := by decide +kernel
theorem dX9_take_4 : decode cX9_take 4 = .ok (.getfield 68, 3) := by decide +kernel
theorem dX9_take_7 : decode cX9_take 7 = .ok (.getfield 75, 3) := by decide +kernel
theorem dX9_take_10 : decode cX9_take 10 = .ok (.iconst 2, 1) := by decide +kernel
theorem dX9_take_11 : decode cX9_take 11 = .ok (.if_icmp .ge 6, 3) := by decide +kernel
theorem dX9_take_14 : decode cX9_take 14 = .ok (.bipush (-5), 2) := by decide +kernel
theorem dX9_take_16 : decode cX9_take 16 = .ok (.ireturn, 1) := by decide +kernel
theorem dX9_take_17 : decode cX9_take 17 = .ok (.lload_n 1, 1) := by decide +kernel
theorem dX9_take_18 : decode cX9_take 18 = .ok (.lconst 0, 1) := by decide +kernel
theorem dX9_take_19 : decode cX9_take 19 = .ok (.lcmp, 1) := by decide +kernel
theorem dX9_take_20 : decode cX9_take 20 = .ok (.ifCond .lt 12, 3) := by decide +kernel
theorem dX9_take_23 : decode cX9_take 23 = .ok (.lload_n 1, 1) := by decide +kernel
theorem dX9_take_24 : decode cX9_take 24 = .ok (.aload_n 0, 1) := by decide +kernel
theorem dX9_take_25 : decode cX9_take 25 = .ok (.invokevirtual 139, 3) := by decide +kernel
theorem dX9_take_28 : decode cX9_take 28 = .ok (.lcmp, 1) := by decide +kernel
theorem dX9_take_29 : decode cX9_take 29 = .ok (.ifCond .lt 6, 3) := by decide +kernel
theorem dX9_take_32 : decode cX9_take 32 = .ok (.bipush (-2), 2) := by decide +kernel
theorem dX9_take_34 : decode cX9_take 34 = .ok (.ireturn, 1) := by decide +kernel
theorem dX9_take_35 : decode cX9_take 35 = .ok (.aload_n 0, 1) := by decide +kernel
theorem dX9_take_36 : decode cX9_take 36 = .ok (.lload_n 1, 1) := by decide +kernel
theorem dX9_take_37 : decode cX9_take 37 = .ok (.invokevirtual 172, 3) := by decide +kernel
theorem dX9_take_40 : decode cX9_take 40 = .ok (.aload_n 0, 1) := by decide +kernel
theorem dX9_take_41 : decode cX9_take 41 = .ok (.getfield 10, 3) := by decide +kernel
theorem dX9_take_44 : decode cX9_take 44 = .ok (.getfield 68, 3) := by decide +kernel
theorem dX9_take_47 : decode cX9_take 47 = .ok (.invokevirtual 176, 3) := by decide +kernel
theorem dX9_take_50 : decode cX9_take 50 = .ok (.ireturn, 1) := by decide +kernel
theorem dX9_drawn_0 : decode cX9_drawn 0 = .ok (.aload_n 0, 1) := by decide +kernel
theorem dX9_drawn_1 : decode cX9_drawn 1 = .ok (.getfield 10, 3) := by decide +kernel
theorem dX9_drawn_4 : decode cX9_drawn 4 = .ok (.getfield 68, 3) := by decide +kernel
theorem dX9_drawn_7 : decode cX9_drawn 7 = .ok (.getfield 75, 3) := by decide +kernel
theorem dX9_drawn_10 : decode cX9_drawn 10 = .ok (.iconst 2, 1) := by decide +kernel
theorem dX9_drawn_11 : decode cX9_drawn 11 = .ok (.if_icmp .ge 7, 3) := by decide +kernel
theorem dX9_drawn_14 : decode cX9_drawn 14 = .ok (.ldc2_w 137, 3) := by decide +kernel
theorem dX9_drawn_17 : decode cX9_drawn 17 = .ok (.lreturn, 1) := by decide +kernel
theorem dX9_drawn_18 : decode cX9_drawn 18 = .ok (.aload_n 0, 1) := by decide +kernel
theorem dX9_drawn_19 : decode cX9_drawn 19 = .ok (.invokevirtual 139, 3) := by decide +kernel
theorem dX9_drawn_22 : decode cX9_drawn 22 = .ok (.lstore_n 2, 1) := by decide +kernel
theorem dX9_drawn_23 : decode cX9_drawn 23 = .ok (.lload_n 2, 1) := by decide +kernel
theorem dX9_drawn_24 : decode cX9_drawn 24 = .ok (.lconst 1, 1) := by decide +kernel
theorem dX9_drawn_25 : decode cX9_drawn 25 = .ok (.lcmp, 1) := by decide +kernel
theorem dX9_drawn_26 : decode cX9_drawn 26 = .ok (.ifCond .ge 7, 3) := by decide +kernel
theorem dX9_drawn_29 : decode cX9_drawn 29 = .ok (.ldc2_w 179, 3) := by decide +kernel
theorem dX9_drawn_32 : decode cX9_drawn 32 = .ok (.lreturn, 1) := by decide +kernel
theorem dX9_drawn_33 : decode cX9_drawn 33 = .ok (.iload_n 1, 1) := by decide +kernel
theorem dX9_drawn_34 : decode cX9_drawn 34 = .ok (.ldc 181, 2) := by decide +kernel
theorem dX9_drawn_36 : decode cX9_drawn 36 = .ok (.imul, 1) := by decide +kernel
theorem dX9_drawn_37 : decode cX9_drawn 37 = .ok (.sipush 12345, 3) := by decide +kernel
theorem dX9_drawn_40 : decode cX9_drawn 40 = .ok (.iadd, 1) := by decide +kernel
theorem dX9_drawn_41 : decode cX9_drawn 41 = .ok (.istore 4, 2) := by decide +kernel
theorem dX9_drawn_43 : decode cX9_drawn 43 = .ok (.iload 4, 2) := by decide +kernel
theorem dX9_drawn_45 : decode cX9_drawn 45 = .ok (.ldc 182, 2) := by decide +kernel
theorem dX9_drawn_47 : decode cX9_drawn 47 = .ok (.iand, 1) := by decide +kernel
theorem dX9_drawn_48 : decode cX9_drawn 48 = .ok (.istore 5, 2) := by decide +kernel
theorem dX9_drawn_50 : decode cX9_drawn 50 = .ok (.iload 5, 2) := by decide +kernel
theorem dX9_drawn_52 : decode cX9_drawn 52 = .ok (.sipush 256, 3) := by decide +kernel
theorem dX9_drawn_55 : decode cX9_drawn 55 = .ok (.idiv, 1) := by decide +kernel
theorem dX9_drawn_56 : decode cX9_drawn 56 = .ok (.i2l, 1) := by decide +kernel
theorem dX9_drawn_57 : decode cX9_drawn 57 = .ok (.lload_n 2, 1) := by decide +kernel
theorem dX9_drawn_58 : decode cX9_drawn 58 = .ok (.lrem, 1) := by decide +kernel
theorem dX9_drawn_59 : decode cX9_drawn 59 = .ok (.lstore 6, 2) := by decide +kernel
theorem dX9_drawn_61 : decode cX9_drawn 61 = .ok (.aload_n 0, 1) := by decide +kernel
theorem dX9_drawn_62 : decode cX9_drawn 62 = .ok (.lload 6, 2) := by decide +kernel
theorem dX9_drawn_64 : decode cX9_drawn 64 = .ok (.invokevirtual 172, 3) := by decide +kernel
theorem dX9_drawn_67 : decode cX9_drawn 67 = .ok (.lload 6, 2) := by decide +kernel
theorem dX9_drawn_69 : decode cX9_drawn 69 = .ok (.lreturn, 1) := by decide +kernel
theorem dX9_slot_0 : decode cX9_slot 0 = .ok (.aload_n 0, 1) := by decide +kernel
theorem dX9_slot_1 : decode cX9_slot 1 = .ok (.getfield 10, 3) := by decide +kernel
theorem dX9_slot_4 : decode cX9_slot 4 = .ok (.getfield 68, 3) := by decide +kernel
theorem dX9_slot_7 : decode cX9_slot 7 = .ok (.iload_n 1, 1) := by decide +kernel
theorem dX9_slot_8 : decode cX9_slot 8 = .ok (.invokevirtual 143, 3) := by decide +kernel
theorem dX9_slot_11 : decode cX9_slot 11 = .ok (.ifCond .ne 5, 3) := by decide +kernel
theorem dX9_slot_14 : decode cX9_slot 14 = .ok (.iconst (-1), 1) := by decide +kernel
theorem dX9_slot_15 : decode cX9_slot 15 = .ok (.ireturn, 1) := by decide +kernel
theorem dX9_slot_16 : decode cX9_slot 16 = .ok (.aload_n 0, 1) := by decide +kernel
theorem dX9_slot_17 : decode cX9_slot 17 = .ok (.getfield 10, 3) := by decide +kernel
theorem dX9_slot_20 : decode cX9_slot 20 = .ok (.getfield 97, 3) := by decide +kernel
theorem dX9_slot_23 : decode cX9_slot 23 = .ok (.getfield 183, 3) := by decide +kernel
theorem dX9_slot_26 : decode cX9_slot 26 = .ok (.ifCond .eq 17, 3) := by decide +kernel
theorem dX9_slot_29 : decode cX9_slot 29 = .ok (.aload_n 0, 1) := by decide +kernel
theorem dX9_slot_30 : decode cX9_slot 30 = .ok (.getfield 10, 3) := by decide +kernel
theorem dX9_slot_33 : decode cX9_slot 33 = .ok (.getfield 97, 3) := by decide +kernel
theorem dX9_slot_36 : decode cX9_slot 36 = .ok (.iload_n 1, 1) := by decide +kernel
theorem dX9_slot_37 : decode cX9_slot 37 = .ok (.invokevirtual 187, 3) := by decide +kernel
theorem dX9_slot_40 : decode cX9_slot 40 = .ok (.goto 5, 3) := by decide +kernel
theorem dX9_slot_43 : decode cX9_slot 43 = .ok (.bipush (-5), 2) := by decide +kernel
theorem dX9_slot_45 : decode cX9_slot 45 = .ok (.ireturn, 1) := by decide +kernel
theorem dX9_where_0 : decode cX9_where 0 = .ok (.aload_n 0, 1) := by decide +kernel
theorem dX9_where_1 : decode cX9_where 1 = .ok (.getfield 10, 3) := by decide +kernel
theorem dX9_where_4 : decode cX9_where 4 = .ok (.getfield 68, 3) := by decide +kernel
theorem dX9_where_7 : decode cX9_where 7 = .ok (.iload_n 1, 1) := by decide +kernel
theorem dX9_where_8 : decode cX9_where 8 = .ok (.invokevirtual 85, 3) := by decide +kernel
theorem dX9_where_11 : decode cX9_where 11 = .ok (.ifCond .ne 5, 3) := by decide +kernel
theorem dX9_where_14 : decode cX9_where 14 = .ok (.iconst (-1), 1) := by decide +kernel
theorem dX9_where_15 : decode cX9_where 15 = .ok (.ireturn, 1) := by decide +kernel
theorem dX9_where_16 : decode cX9_where 16 = .ok (.aload_n 0, 1) := by decide +kernel
theorem dX9_where_17 : decode cX9_where 17 = .ok (.getfield 10, 3) := by decide +kernel
theorem dX9_where_20 : decode cX9_where 20 = .ok (.getfield 97, 3) := by decide +kernel
theorem dX9_where_23 : decode cX9_where 23 = .ok (.getfield 183, 3) := by decide +kernel
theorem dX9_where_26 : decode cX9_where 26 = .ok (.ifCond .eq 17, 3) := by decide +kernel
theorem dX9_where_29 : decode cX9_where 29 = .ok (.aload_n 0, 1) := by decide +kernel
theorem dX9_where_30 : decode cX9_where 30 = .ok (.getfield 10, 3) := by decide +kernel
theorem dX9_where_33 : decode cX9_where 33 = .ok (.getfield 97, 3) := by decide +kernel
theorem dX9_where_36 : decode cX9_where 36 = .ok (.iload_n 1, 1) := by decide +kernel
theorem dX9_where_37 : decode cX9_where 37 = .ok (.invokevirtual 190, 3) := by decide +kernel
theorem dX9_where_40 : decode cX9_where 40 = .ok (.goto 5, 3) := by decide +kernel
theorem dX9_where_43 : decode cX9_where 43 = .ok (.bipush (-5), 2) := by decide +kernel
theorem dX9_where_45 : decode cX9_where 45 = .ok (.ireturn, 1) := by decide +kernel
theorem dX9_number_0 : decode cX9_number 0 = .ok (.aload_n 0, 1) := by decide +kernel
theorem dX9_number_1 : decode cX9_number 1 = .ok (.getfield 10, 3) := by decide +kernel
theorem dX9_number_4 : decode cX9_number 4 = .ok (.getfield 97, 3) := by decide +kernel
theorem dX9_number_7 : decode cX9_number 7 = .ok (.getfield 183, 3) := by decide +kernel
theorem dX9_number_10 : decode cX9_number 10 = .ok (.ifCond .eq 16, 3) := by decide +kernel
theorem dX9_number_13 : decode cX9_number 13 = .ok (.aload_n 0, 1) := by decide +kernel
theorem dX9_number_14 : decode cX9_number 14 = .ok (.getfield 10, 3) := by decide +kernel
theorem dX9_number_17 : decode cX9_number 17 = .ok (.getfield 97, 3) := by decide +kernel
theorem dX9_number_20 : decode cX9_number 20 = .ok (.getfield 193, 3) := by decide +kernel
theorem dX9_number_23 : decode cX9_number 23 = .ok (.goto 6, 3) := by decide +kernel
theorem dX9_number_26 : decode cX9_number 26 = .ok (.ldc2_w 137, 3) := by decide +kernel
theorem dX9_number_29 : decode cX9_number 29 = .ok (.lreturn, 1) := by decide +kernel
theorem dX9_swapped_0 : decode cX9_swapped 0 = .ok (.aload_n 0, 1) := by decide +kernel
theorem dX9_swapped_1 : decode cX9_swapped 1 = .ok (.getfield 10, 3) := by decide +kernel
theorem dX9_swapped_4 : decode cX9_swapped 4 = .ok (.getfield 68, 3) := by decide +kernel
theorem dX9_swapped_7 : decode cX9_swapped 7 = .ok (.iload_n 1, 1) := by decide +kernel
theorem dX9_swapped_8 : decode cX9_swapped 8 = .ok (.iload_n 2, 1) := by decide +kernel
theorem dX9_swapped_9 : decode cX9_swapped 9 = .ok (.invokevirtual 158, 3) := by decide +kernel
theorem dX9_swapped_12 : decode cX9_swapped 12 = .ok (.ifCond .ne 7, 3) := by decide +kernel
theorem dX9_swapped_15 : decode cX9_swapped 15 = .ok (.ldc2_w 146, 3) := by decide +kernel
theorem dX9_swapped_18 : decode cX9_swapped 18 = .ok (.lreturn, 1) := by decide +kernel
theorem dX9_swapped_19 : decode cX9_swapped 19 = .ok (.aload_n 0, 1) := by decide +kernel
theorem dX9_swapped_20 : decode cX9_swapped 20 = .ok (.getfield 10, 3) := by decide +kernel
theorem dX9_swapped_23 : decode cX9_swapped 23 = .ok (.getfield 97, 3) := by decide +kernel
theorem dX9_swapped_26 : decode cX9_swapped 26 = .ok (.getfield 183, 3) := by decide +kernel
theorem dX9_swapped_29 : decode cX9_swapped 29 = .ok (.ifCond .ne 7, 3) := by decide +kernel
theorem dX9_swapped_32 : decode cX9_swapped 32 = .ok (.ldc2_w 137, 3) := by decide +kernel
theorem dX9_swapped_35 : decode cX9_swapped 35 = .ok (.lreturn, 1) := by decide +kernel
theorem dX9_swapped_36 : decode cX9_swapped 36 = .ok (.aload_n 0, 1) := by decide +kernel
theorem dX9_swapped_37 : decode cX9_swapped 37 = .ok (.invokevirtual 139, 3) := by decide +kernel
theorem dX9_swapped_40 : decode cX9_swapped 40 = .ok (.pop2, 1) := by decide +kernel
theorem dX9_swapped_41 : decode cX9_swapped 41 = .ok (.aload_n 0, 1) := by decide +kernel
theorem dX9_swapped_42 : decode cX9_swapped 42 = .ok (.getfield 46, 3) := by decide +kernel
theorem dX9_swapped_45 : decode cX9_swapped 45 = .ok (.aload_n 0, 1) := by decide +kernel
theorem dX9_swapped_46 : decode cX9_swapped 46 = .ok (.getfield 36, 3) := by decide +kernel
theorem dX9_swapped_49 : decode cX9_swapped 49 = .ok (.aload_n 0, 1) := by decide +kernel
theorem dX9_swapped_50 : decode cX9_swapped 50 = .ok (.getfield 10, 3) := by decide +kernel
theorem dX9_swapped_53 : decode cX9_swapped 53 = .ok (.getfield 97, 3) := by decide +kernel
theorem dX9_swapped_56 : decode cX9_swapped 56 = .ok (.iload_n 1, 1) := by decide +kernel
theorem dX9_swapped_57 : decode cX9_swapped 57 = .ok (.iload_n 2, 1) := by decide +kernel
theorem dX9_swapped_58 : decode cX9_swapped 58 = .ok (.invokevirtual 197, 3) := by decide +kernel
theorem dX9_swapped_61 : decode cX9_swapped 61 = .ok (.lstore_n 3, 1) := by decide +kernel
theorem dX9_swapped_62 : decode cX9_swapped 62 = .ok (.lload_n 3, 1) := by decide +kernel
theorem dX9_swapped_63 : decode cX9_swapped 63 = .ok (.ldc2_w 146, 3) := by decide +kernel
theorem dX9_swapped_66 : decode cX9_swapped 66 = .ok (.lcmp, 1) := by decide +kernel
theorem dX9_swapped_67 : decode cX9_swapped 67 = .ok (.ifCond .ne 9, 3) := by decide +kernel
theorem dX9_swapped_70 : decode cX9_swapped 70 = .ok (.ldc2_w 179, 3) := by decide +kernel
theorem dX9_swapped_73 : decode cX9_swapped 73 = .ok (.goto 4, 3) := by decide +kernel
theorem dX9_swapped_76 : decode cX9_swapped 76 = .ok (.lload_n 3, 1) := by decide +kernel
theorem dX9_swapped_77 : decode cX9_swapped 77 = .ok (.lreturn, 1) := by decide +kernel
theorem dX9_soonest_0 : decode cX9_soonest 0 = .ok (.aload_n 0, 1) := by decide +kernel
theorem dX9_soonest_1 : decode cX9_soonest 1 = .ok (.getfield 10, 3) := by decide +kernel
theorem dX9_soonest_4 : decode cX9_soonest 4 = .ok (.getfield 68, 3) := by decide +kernel
theorem dX9_soonest_7 : decode cX9_soonest 7 = .ok (.iload_n 1, 1) := by decide +kernel
theorem dX9_soonest_8 : decode cX9_soonest 8 = .ok (.iload_n 2, 1) := by decide +kernel
theorem dX9_soonest_9 : decode cX9_soonest 9 = .ok (.invokevirtual 158, 3) := by decide +kernel
theorem dX9_soonest_12 : decode cX9_soonest 12 = .ok (.ifCond .ne 5, 3) := by decide +kernel
theorem dX9_soonest_15 : decode cX9_soonest 15 = .ok (.iconst (-1), 1) := by decide +kernel
theorem dX9_soonest_16 : decode cX9_soonest 16 = .ok (.ireturn, 1) := by decide +kernel
theorem dX9_soonest_17 : decode cX9_soonest 17 = .ok (.aload_n 0, 1) := by decide +kernel
theorem dX9_soonest_18 : decode cX9_soonest 18 = .ok (.getfield 10, 3) := by decide +kernel
theorem dX9_soonest_21 : decode cX9_soonest 21 = .ok (.getfield 97, 3) := by decide +kernel
theorem dX9_soonest_24 : decode cX9_soonest 24 = .ok (.getfield 183, 3) := by decide +kernel
theorem dX9_soonest_27 : decode cX9_soonest 27 = .ok (.ifCond .eq 18, 3) := by decide +kernel
theorem dX9_soonest_30 : decode cX9_soonest 30 = .ok (.aload_n 0, 1) := by decide +kernel
theorem dX9_soonest_31 : decode cX9_soonest 31 = .ok (.getfield 10, 3) := by decide +kernel
theorem dX9_soonest_34 : decode cX9_soonest 34 = .ok (.getfield 97, 3) := by decide +kernel
theorem dX9_soonest_37 : decode cX9_soonest 37 = .ok (.iload_n 1, 1) := by decide +kernel
theorem dX9_soonest_38 : decode cX9_soonest 38 = .ok (.iload_n 2, 1) := by decide +kernel
theorem dX9_soonest_39 : decode cX9_soonest 39 = .ok (.invokevirtual 201, 3) := by decide +kernel
theorem dX9_soonest_42 : decode cX9_soonest 42 = .ok (.goto 5, 3) := by decide +kernel
theorem dX9_soonest_45 : decode cX9_soonest 45 = .ok (.bipush (-5), 2) := by decide +kernel
theorem dX9_soonest_47 : decode cX9_soonest 47 = .ok (.ireturn, 1) := by decide +kernel
theorem dX9_relaxed_0 : decode cX9_relaxed 0 = .ok (.iload_n 1, 1) := by decide +kernel
theorem dX9_relaxed_1 : decode cX9_relaxed 1 = .ok (.ifCond .lt 8, 3) := by decide +kernel
theorem dX9_relaxed_4 : decode cX9_relaxed 4 = .ok (.iload_n 1, 1) := by decide +kernel
theorem dX9_relaxed_5 : decode cX9_relaxed 5 = .ok (.iconst 1, 1) := by decide +kernel
theorem dX9_relaxed_6 : decode cX9_relaxed 6 = .ok (.if_icmp .le 5, 3) := by decide +kernel
theorem dX9_relaxed_9 : decode cX9_relaxed 9 = .ok (.iconst (-1), 1) := by decide +kernel
theorem dX9_relaxed_10 : decode cX9_relaxed 10 = .ok (.ireturn, 1) := by decide +kernel
theorem dX9_relaxed_11 : decode cX9_relaxed 11 = .ok (.aload_n 0, 1) := by decide +kernel
theorem dX9_relaxed_12 : decode cX9_relaxed 12 = .ok (.getfield 10, 3) := by decide +kernel
theorem dX9_relaxed_15 : decode cX9_relaxed 15 = .ok (.getfield 68, 3) := by decide +kernel
theorem dX9_relaxed_18 : decode cX9_relaxed 18 = .ok (.getfield 75, 3) := by decide +kernel
theorem dX9_relaxed_21 : decode cX9_relaxed 21 = .ok (.iconst 2, 1) := by decide +kernel
theorem dX9_relaxed_22 : decode cX9_relaxed 22 = .ok (.if_icmp .ge 6, 3) := by decide +kernel
theorem dX9_relaxed_25 : decode cX9_relaxed 25 = .ok (.bipush (-5), 2) := by decide +kernel
theorem dX9_relaxed_27 : decode cX9_relaxed 27 = .ok (.ireturn, 1) := by decide +kernel
theorem dX9_relaxed_28 : decode cX9_relaxed 28 = .ok (.aload_n 0, 1) := by decide +kernel
theorem dX9_relaxed_29 : decode cX9_relaxed 29 = .ok (.invokevirtual 139, 3) := by decide +kernel
theorem dX9_relaxed_32 : decode cX9_relaxed 32 = .ok (.lconst 0, 1) := by decide +kernel
theorem dX9_relaxed_33 : decode cX9_relaxed 33 = .ok (.lcmp, 1) := by decide +kernel
theorem dX9_relaxed_34 : decode cX9_relaxed 34 = .ok (.ifCond .ne 7, 3) := by decide +kernel
theorem dX9_relaxed_37 : decode cX9_relaxed 37 = .ok (.iconst 1, 1) := by decide +kernel
theorem dX9_relaxed_38 : decode cX9_relaxed 38 = .ok (.goto 4, 3) := by decide +kernel
theorem dX9_relaxed_41 : decode cX9_relaxed 41 = .ok (.iconst 0, 1) := by decide +kernel
theorem dX9_relaxed_42 : decode cX9_relaxed 42 = .ok (.istore_n 2, 1) := by decide +kernel
theorem dX9_relaxed_43 : decode cX9_relaxed 43 = .ok (.aload_n 0, 1) := by decide +kernel
theorem dX9_relaxed_44 : decode cX9_relaxed 44 = .ok (.getfield 64, 3) := by decide +kernel
theorem dX9_relaxed_47 : decode cX9_relaxed 47 = .ok (.bipush (-4), 2) := by decide +kernel
theorem dX9_relaxed_49 : decode cX9_relaxed 49 = .ok (.if_icmp .ne 28, 3) := by decide +kernel
theorem dX9_relaxed_52 : decode cX9_relaxed 52 = .ok (.aload_n 0, 1) := by decide +kernel
theorem dX9_relaxed_53 : decode cX9_relaxed 53 = .ok (.iload_n 2, 1) := by decide +kernel
theorem dX9_relaxed_54 : decode cX9_relaxed 54 = .ok (.ifCond .eq 10, 3) := by decide +kernel
theorem dX9_relaxed_57 : decode cX9_relaxed 57 = .ok (.aload_n 0, 1) := by decide +kernel
theorem dX9_relaxed_58 : decode cX9_relaxed 58 = .ok (.invokevirtual 204, 3) := by decide +kernel
theorem dX9_relaxed_61 : decode cX9_relaxed 61 = .ok (.goto 13, 3) := by decide +kernel
theorem dX9_relaxed_64 : decode cX9_relaxed 64 = .ok (.aload_n 0, 1) := by decide +kernel
theorem dX9_relaxed_65 : decode cX9_relaxed 65 = .ok (.getfield 10, 3) := by decide +kernel
theorem dX9_relaxed_68 : decode cX9_relaxed 68 = .ok (.getfield 68, 3) := by decide +kernel
theorem dX9_relaxed_71 : decode cX9_relaxed 71 = .ok (.invokevirtual 207, 3) := by decide +kernel
theorem dX9_relaxed_74 : decode cX9_relaxed 74 = .ok (.putfield 64, 3) := by decide +kernel
theorem dX9_relaxed_77 : decode cX9_relaxed 77 = .ok (.aload_n 0, 1) := by decide +kernel
theorem dX9_relaxed_78 : decode cX9_relaxed 78 = .ok (.getfield 64, 3) := by decide +kernel
theorem dX9_relaxed_81 : decode cX9_relaxed 81 = .ok (.bipush (-2), 2) := by decide +kernel
theorem dX9_relaxed_83 : decode cX9_relaxed 83 = .ok (.if_icmp .eq 63, 3) := by decide +kernel
theorem dX9_relaxed_86 : decode cX9_relaxed 86 = .ok (.iload_n 1, 1) := by decide +kernel
theorem dX9_relaxed_87 : decode cX9_relaxed 87 = .ok (.iconst 1, 1) := by decide +kernel
theorem dX9_relaxed_88 : decode cX9_relaxed 88 = .ok (.if_icmp .ne 58, 3) := by decide +kernel
theorem dX9_relaxed_91 : decode cX9_relaxed 91 = .ok (.aload_n 0, 1) := by decide +kernel
theorem dX9_relaxed_92 : decode cX9_relaxed 92 = .ok (.getfield 10, 3) := by decide +kernel
theorem dX9_relaxed_95 : decode cX9_relaxed 95 = .ok (.getfield 68, 3) := by decide +kernel
theorem dX9_relaxed_98 : decode cX9_relaxed 98 = .ok (.aload_n 0, 1) := by decide +kernel
theorem dX9_relaxed_99 : decode cX9_relaxed 99 = .ok (.getfield 64, 3) := by decide +kernel
theorem dX9_relaxed_102 : decode cX9_relaxed 102 = .ok (.bipush 10, 2) := by decide +kernel
theorem dX9_relaxed_104 : decode cX9_relaxed 104 = .ok (.idiv, 1) := by decide +kernel
theorem dX9_relaxed_105 : decode cX9_relaxed 105 = .ok (.putfield 111, 3) := by decide +kernel
theorem dX9_relaxed_108 : decode cX9_relaxed 108 = .ok (.aload_n 0, 1) := by decide +kernel
theorem dX9_relaxed_109 : decode cX9_relaxed 109 = .ok (.getfield 10, 3) := by decide +kernel
theorem dX9_relaxed_112 : decode cX9_relaxed 112 = .ok (.getfield 68, 3) := by decide +kernel
theorem dX9_relaxed_115 : decode cX9_relaxed 115 = .ok (.aload_n 0, 1) := by decide +kernel
theorem dX9_relaxed_116 : decode cX9_relaxed 116 = .ok (.getfield 64, 3) := by decide +kernel
theorem dX9_relaxed_119 : decode cX9_relaxed 119 = .ok (.bipush 10, 2) := by decide +kernel
theorem dX9_relaxed_121 : decode cX9_relaxed 121 = .ok (.irem, 1) := by decide +kernel
theorem dX9_relaxed_122 : decode cX9_relaxed 122 = .ok (.putfield 114, 3) := by decide +kernel
theorem dX9_relaxed_125 : decode cX9_relaxed 125 = .ok (.aload_n 0, 1) := by decide +kernel
theorem dX9_relaxed_126 : decode cX9_relaxed 126 = .ok (.getfield 10, 3) := by decide +kernel
theorem dX9_relaxed_129 : decode cX9_relaxed 129 = .ok (.getfield 97, 3) := by decide +kernel
theorem dX9_relaxed_132 : decode cX9_relaxed 132 = .ok (.invokevirtual 100, 3) := by decide +kernel
theorem dX9_relaxed_135 : decode cX9_relaxed 135 = .ok (.aload_n 0, 1) := by decide +kernel
theorem dX9_relaxed_136 : decode cX9_relaxed 136 = .ok (.getfield 22, 3) := by decide +kernel
theorem dX9_relaxed_139 : decode cX9_relaxed 139 = .ok (.aload_n 0, 1) := by decide +kernel
theorem dX9_relaxed_140 : decode cX9_relaxed 140 = .ok (.getfield 10, 3) := by decide +kernel
theorem dX9_relaxed_143 : decode cX9_relaxed 143 = .ok (.invokevirtual 103, 3) := by decide +kernel
theorem dX9_relaxed_146 : decode cX9_relaxed 146 = .ok (.aload_n 0, 1) := by decide +kernel
theorem dX9_relaxed_147 : decode cX9_relaxed 147 = .ok (.getfield 64, 3) := by decide +kernel
theorem dX9_relaxed_150 : decode cX9_relaxed 150 = .ok (.ireturn, 1) := by decide +kernel
theorem dX9_play_0 : decode cX9_play 0 = .ok (.aload_n 0, 1) := by decide +kernel
theorem dX9_play_1 : decode cX9_play 1 = .ok (.getfield 10, 3) := by decide +kernel
theorem dX9_play_4 : decode cX9_play 4 = .ok (.getfield 97, 3) := by decide +kernel
theorem dX9_play_7 : decode cX9_play 7 = .ok (.invokevirtual 210, 3) := by decide +kernel
theorem dX9_play_10 : decode cX9_play 10 = .ok (.ifCond .ne 6, 3) := by decide +kernel
theorem dX9_play_13 : decode cX9_play 13 = .ok (.bipush (-5), 2) := by decide +kernel
theorem dX9_play_15 : decode cX9_play 15 = .ok (.ireturn, 1) := by decide +kernel
theorem dX9_play_16 : decode cX9_play 16 = .ok (.aload_n 0, 1) := by decide +kernel
theorem dX9_play_17 : decode cX9_play 17 = .ok (.getfield 10, 3) := by decide +kernel
theorem dX9_play_20 : decode cX9_play 20 = .ok (.getfield 97, 3) := by decide +kernel
theorem dX9_play_23 : decode cX9_play 23 = .ok (.aload_n 0, 1) := by decide +kernel
theorem dX9_play_24 : decode cX9_play 24 = .ok (.getfield 10, 3) := by decide +kernel
theorem dX9_play_27 : decode cX9_play 27 = .ok (.getfield 68, 3) := by decide +kernel
theorem dX9_play_30 : decode cX9_play 30 = .ok (.invokevirtual 214, 3) := by decide +kernel
theorem dX9_play_33 : decode cX9_play 33 = .ok (.aload_n 0, 1) := by decide +kernel
theorem dX9_play_34 : decode cX9_play 34 = .ok (.getfield 22, 3) := by decide +kernel
theorem dX9_play_37 : decode cX9_play 37 = .ok (.aload_n 0, 1) := by decide +kernel
theorem dX9_play_38 : decode cX9_play 38 = .ok (.getfield 10, 3) := by decide +kernel
theorem dX9_play_41 : decode cX9_play 41 = .ok (.invokevirtual 103, 3) := by decide +kernel
theorem dX9_play_44 : decode cX9_play 44 = .ok (.aload_n 0, 1) := by decide +kernel
theorem dX9_play_45 : decode cX9_play 45 = .ok (.getfield 10, 3) := by decide +kernel
theorem dX9_play_48 : decode cX9_play 48 = .ok (.getfield 97, 3) := by decide +kernel
theorem dX9_play_51 : decode cX9_play 51 = .ok (.getfield 217, 3) := by decide +kernel
theorem dX9_play_54 : decode cX9_play 54 = .ok (.ireturn, 1) := by decide +kernel
theorem dX9_byHand_0 : decode cX9_byHand 0 = .ok (.aload_n 0, 1) := by decide +kernel
theorem dX9_byHand_1 : decode cX9_byHand 1 = .ok (.getfield 10, 3) := by decide +kernel
theorem dX9_byHand_4 : decode cX9_byHand 4 = .ok (.getfield 68, 3) := by decide +kernel
theorem dX9_byHand_7 : decode cX9_byHand 7 = .ok (.iload_n 1, 1) := by decide +kernel
theorem dX9_byHand_8 : decode cX9_byHand 8 = .ok (.invokevirtual 85, 3) := by decide +kernel
theorem dX9_byHand_11 : decode cX9_byHand 11 = .ok (.ifCond .ne 5, 3) := by decide +kernel
theorem dX9_byHand_14 : decode cX9_byHand 14 = .ok (.iconst (-1), 1) := by decide +kernel
theorem dX9_byHand_15 : decode cX9_byHand 15 = .ok (.ireturn, 1) := by decide +kernel
theorem dX9_byHand_16 : decode cX9_byHand 16 = .ok (.aload_n 0, 1) := by decide +kernel
theorem dX9_byHand_17 : decode cX9_byHand 17 = .ok (.getfield 10, 3) := by decide +kernel
theorem dX9_byHand_20 : decode cX9_byHand 20 = .ok (.getfield 97, 3) := by decide +kernel
theorem dX9_byHand_23 : decode cX9_byHand 23 = .ok (.invokevirtual 210, 3) := by decide +kernel
theorem dX9_byHand_26 : decode cX9_byHand 26 = .ok (.ifCond .eq 27, 3) := by decide +kernel
theorem dX9_byHand_29 : decode cX9_byHand 29 = .ok (.aload_n 0, 1) := by decide +kernel
theorem dX9_byHand_30 : decode cX9_byHand 30 = .ok (.getfield 10, 3) := by decide +kernel
theorem dX9_byHand_33 : decode cX9_byHand 33 = .ok (.getfield 97, 3) := by decide +kernel
theorem dX9_byHand_36 : decode cX9_byHand 36 = .ok (.iload_n 1, 1) := by decide +kernel
theorem dX9_byHand_37 : decode cX9_byHand 37 = .ok (.aload_n 0, 1) := by decide +kernel
theorem dX9_byHand_38 : decode cX9_byHand 38 = .ok (.getfield 10, 3) := by decide +kernel
theorem dX9_byHand_41 : decode cX9_byHand 41 = .ok (.getfield 97, 3) := by decide +kernel
theorem dX9_byHand_44 : decode cX9_byHand 44 = .ok (.getfield 217, 3) := by decide +kernel
theorem dX9_byHand_47 : decode cX9_byHand 47 = .ok (.invokevirtual 220, 3) := by decide +kernel
theorem dX9_byHand_50 : decode cX9_byHand 50 = .ok (.ifCond .ne 6, 3) := by decide +kernel
theorem dX9_byHand_53 : decode cX9_byHand 53 = .ok (.bipush (-5), 2) := by decide +kernel
theorem dX9_byHand_55 : decode cX9_byHand 55 = .ok (.ireturn, 1) := by decide +kernel
theorem dX9_byHand_56 : decode cX9_byHand 56 = .ok (.aload_n 0, 1) := by decide +kernel
theorem dX9_byHand_57 : decode cX9_byHand 57 = .ok (.getfield 10, 3) := by decide +kernel
theorem dX9_byHand_60 : decode cX9_byHand 60 = .ok (.getfield 97, 3) := by decide +kernel
theorem dX9_byHand_63 : decode cX9_byHand 63 = .ok (.iload_n 1, 1) := by decide +kernel
theorem dX9_byHand_64 : decode cX9_byHand 64 = .ok (.invokevirtual 223, 3) := by decide +kernel
theorem dX9_byHand_67 : decode cX9_byHand 67 = .ok (.aload_n 0, 1) := by decide +kernel
theorem dX9_byHand_68 : decode cX9_byHand 68 = .ok (.getfield 22, 3) := by decide +kernel
theorem dX9_byHand_71 : decode cX9_byHand 71 = .ok (.aload_n 0, 1) := by decide +kernel
theorem dX9_byHand_72 : decode cX9_byHand 72 = .ok (.getfield 10, 3) := by decide +kernel
theorem dX9_byHand_75 : decode cX9_byHand 75 = .ok (.invokevirtual 103, 3) := by decide +kernel
theorem dX9_byHand_78 : decode cX9_byHand 78 = .ok (.aload_n 0, 1) := by decide +kernel
theorem dX9_byHand_79 : decode cX9_byHand 79 = .ok (.getfield 10, 3) := by decide +kernel
theorem dX9_byHand_82 : decode cX9_byHand 82 = .ok (.getfield 97, 3) := by decide +kernel
theorem dX9_byHand_85 : decode cX9_byHand 85 = .ok (.iload_n 1, 1) := by decide +kernel
theorem dX9_byHand_86 : decode cX9_byHand 86 = .ok (.aload_n 0, 1) := by decide +kernel
theorem dX9_byHand_87 : decode cX9_byHand 87 = .ok (.getfield 10, 3) := by decide +kernel
theorem dX9_byHand_90 : decode cX9_byHand 90 = .ok (.getfield 97, 3) := by decide +kernel
theorem dX9_byHand_93 : decode cX9_byHand 93 = .ok (.getfield 217, 3) := by decide +kernel
theorem dX9_byHand_96 : decode cX9_byHand 96 = .ok (.iconst 1, 1) := by decide +kernel
theorem dX9_byHand_97 : decode cX9_byHand 97 = .ok (.iadd, 1) := by decide +kernel
theorem dX9_byHand_98 : decode cX9_byHand 98 = .ok (.invokevirtual 227, 3) := by decide +kernel
theorem dX9_byHand_101 : decode cX9_byHand 101 = .ok (.ireturn, 1) := by decide +kernel
theorem dX9_through_0 : decode cX9_through 0 = .ok (.aload_n 0, 1) := by decide +kernel
theorem dX9_through_1 : decode cX9_through 1 = .ok (.getfield 10, 3) := by decide +kernel
theorem dX9_through_4 : decode cX9_through 4 = .ok (.getfield 68, 3) := by decide +kernel
theorem dX9_through_7 : decode cX9_through 7 = .ok (.iload_n 1, 1) := by decide +kernel
theorem dX9_through_8 : decode cX9_through 8 = .ok (.invokevirtual 161, 3) := by decide +kernel
theorem dX9_through_11 : decode cX9_through 11 = .ok (.ifCond .eq 23, 3) := by decide +kernel
theorem dX9_through_14 : decode cX9_through 14 = .ok (.iload_n 2, 1) := by decide +kernel
theorem dX9_through_15 : decode cX9_through 15 = .ok (.ifCond .lt 19, 3) := by decide +kernel
theorem dX9_through_18 : decode cX9_through 18 = .ok (.iload_n 2, 1) := by decide +kernel
theorem dX9_through_19 : decode cX9_through 19 = .ok (.aload_n 0, 1) := by decide +kernel
theorem dX9_through_20 : decode cX9_through 20 = .ok (.getfield 10, 3) := by decide +kernel
theorem dX9_through_23 : decode cX9_through 23 = .ok (.getfield 68, 3) := by decide +kernel
theorem dX9_through_26 : decode cX9_through 26 = .ok (.invokevirtual 230, 3) := by decide +kernel
theorem dX9_through_29 : decode cX9_through 29 = .ok (.iload_n 1, 1) := by decide +kernel
theorem dX9_through_30 : decode cX9_through 30 = .ok (.ishr, 1) := by decide +kernel
theorem dX9_through_31 : decode cX9_through 31 = .ok (.if_icmp .lt 5, 3) := by decide +kernel
theorem dX9_through_34 : decode cX9_through 34 = .ok (.iconst (-1), 1) := by decide +kernel
theorem dX9_through_35 : decode cX9_through 35 = .ok (.ireturn, 1) := by decide +kernel
theorem dX9_through_36 : decode cX9_through 36 = .ok (.aload_n 0, 1) := by decide +kernel
theorem dX9_through_37 : decode cX9_through 37 = .ok (.getfield 10, 3) := by decide +kernel
theorem dX9_through_40 : decode cX9_through 40 = .ok (.getfield 97, 3) := by decide +kernel
theorem dX9_through_43 : decode cX9_through 43 = .ok (.getfield 183, 3) := by decide +kernel
theorem dX9_through_46 : decode cX9_through 46 = .ok (.ifCond .ne 6, 3) := by decide +kernel
theorem dX9_through_49 : decode cX9_through 49 = .ok (.bipush (-5), 2) := by decide +kernel
theorem dX9_through_51 : decode cX9_through 51 = .ok (.ireturn, 1) := by decide +kernel
theorem dX9_through_52 : decode cX9_through 52 = .ok (.iload_n 1, 1) := by decide +kernel
theorem dX9_through_53 : decode cX9_through 53 = .ok (.aload_n 0, 1) := by decide +kernel
theorem dX9_through_54 : decode cX9_through 54 = .ok (.getfield 10, 3) := by decide +kernel
theorem dX9_through_57 : decode cX9_through 57 = .ok (.getfield 97, 3) := by decide +kernel
theorem dX9_through_60 : decode cX9_through 60 = .ok (.getfield 217, 3) := by decide +kernel
theorem dX9_through_63 : decode cX9_through 63 = .ok (.if_icmp .le 8, 3) := by decide +kernel
theorem dX9_through_66 : decode cX9_through 66 = .ok (.bipush (-2), 2) := by decide +kernel
theorem dX9_through_68 : decode cX9_through 68 = .ok (.goto 15, 3) := by decide +kernel
theorem dX9_through_71 : decode cX9_through 71 = .ok (.aload_n 0, 1) := by decide +kernel
theorem dX9_through_72 : decode cX9_through 72 = .ok (.getfield 10, 3) := by decide +kernel
theorem dX9_through_75 : decode cX9_through 75 = .ok (.getfield 97, 3) := by decide +kernel
theorem dX9_through_78 : decode cX9_through 78 = .ok (.iload_n 1, 1) := by decide +kernel
theorem dX9_through_79 : decode cX9_through 79 = .ok (.iload_n 2, 1) := by decide +kernel
theorem dX9_through_80 : decode cX9_through 80 = .ok (.invokevirtual 233, 3) := by decide +kernel
theorem dX9_through_83 : decode cX9_through 83 = .ok (.ireturn, 1) := by decide +kernel
theorem dX9_met_0 : decode cX9_met 0 = .ok (.aload_n 0, 1) := by decide +kernel
theorem dX9_met_1 : decode cX9_met 1 = .ok (.getfield 10, 3) := by decide +kernel
theorem dX9_met_4 : decode cX9_met 4 = .ok (.getfield 68, 3) := by decide +kernel
theorem dX9_met_7 : decode cX9_met 7 = .ok (.iload_n 1, 1) := by decide +kernel
theorem dX9_met_8 : decode cX9_met 8 = .ok (.invokevirtual 85, 3) := by decide +kernel
theorem dX9_met_11 : decode cX9_met 11 = .ok (.ifCond .eq 17, 3) := by decide +kernel
theorem dX9_met_14 : decode cX9_met 14 = .ok (.aload_n 0, 1) := by decide +kernel
theorem dX9_met_15 : decode cX9_met 15 = .ok (.getfield 10, 3) := by decide +kernel
theorem dX9_met_18 : decode cX9_met 18 = .ok (.getfield 68, 3) := by decide +kernel
theorem dX9_met_21 : decode cX9_met 21 = .ok (.iload_n 2, 1) := by decide +kernel
theorem dX9_met_22 : decode cX9_met 22 = .ok (.invokevirtual 161, 3) := by decide +kernel
theorem dX9_met_25 : decode cX9_met 25 = .ok (.ifCond .ne 5, 3) := by decide +kernel
theorem dX9_met_28 : decode cX9_met 28 = .ok (.iconst (-1), 1) := by decide +kernel
theorem dX9_met_29 : decode cX9_met 29 = .ok (.ireturn, 1) := by decide +kernel
theorem dX9_met_30 : decode cX9_met 30 = .ok (.aload_n 0, 1) := by decide +kernel
theorem dX9_met_31 : decode cX9_met 31 = .ok (.getfield 10, 3) := by decide +kernel
theorem dX9_met_34 : decode cX9_met 34 = .ok (.getfield 97, 3) := by decide +kernel
theorem dX9_met_37 : decode cX9_met 37 = .ok (.astore_n 3, 1) := by decide +kernel
theorem dX9_met_38 : decode cX9_met 38 = .ok (.aload_n 3, 1) := by decide +kernel
theorem dX9_met_39 : decode cX9_met 39 = .ok (.getfield 183, 3) := by decide +kernel
theorem dX9_met_42 : decode cX9_met 42 = .ok (.ifCond .ne 6, 3) := by decide +kernel
theorem dX9_met_45 : decode cX9_met 45 = .ok (.bipush (-5), 2) := by decide +kernel
theorem dX9_met_47 : decode cX9_met 47 = .ok (.ireturn, 1) := by decide +kernel
theorem dX9_met_48 : decode cX9_met 48 = .ok (.iload_n 2, 1) := by decide +kernel
theorem dX9_met_49 : decode cX9_met 49 = .ok (.aload_n 3, 1) := by decide +kernel
theorem dX9_met_50 : decode cX9_met 50 = .ok (.getfield 217, 3) := by decide +kernel
theorem dX9_met_53 : decode cX9_met 53 = .ok (.if_icmp .gt 18, 3) := by decide +kernel
theorem dX9_met_56 : decode cX9_met 56 = .ok (.aload_n 3, 1) := by decide +kernel
theorem dX9_met_57 : decode cX9_met 57 = .ok (.iload_n 1, 1) := by decide +kernel
theorem dX9_met_58 : decode cX9_met 58 = .ok (.iload_n 2, 1) := by decide +kernel
theorem dX9_met_59 : decode cX9_met 59 = .ok (.iconst 1, 1) := by decide +kernel
theorem dX9_met_60 : decode cX9_met 60 = .ok (.isub, 1) := by decide +kernel
theorem dX9_met_61 : decode cX9_met 61 = .ok (.invokevirtual 220, 3) := by decide +kernel
theorem dX9_met_64 : decode cX9_met 64 = .ok (.ifCond .eq 7, 3) := by decide +kernel
theorem dX9_met_67 : decode cX9_met 67 = .ok (.iconst 1, 1) := by decide +kernel
theorem dX9_met_68 : decode cX9_met 68 = .ok (.goto 4, 3) := by decide +kernel
theorem dX9_met_71 : decode cX9_met 71 = .ok (.iconst 0, 1) := by decide +kernel
theorem dX9_met_72 : decode cX9_met 72 = .ok (.istore 4, 2) := by decide +kernel
theorem dX9_met_74 : decode cX9_met 74 = .ok (.iload 4, 2) := by decide +kernel
theorem dX9_met_76 : decode cX9_met 76 = .ok (.ifCond .eq 12, 3) := by decide +kernel
theorem dX9_met_79 : decode cX9_met 79 = .ok (.aload_n 3, 1) := by decide +kernel
theorem dX9_met_80 : decode cX9_met 80 = .ok (.iload_n 1, 1) := by decide +kernel
theorem dX9_met_81 : decode cX9_met 81 = .ok (.iload_n 2, 1) := by decide +kernel
theorem dX9_met_82 : decode cX9_met 82 = .ok (.invokevirtual 227, 3) := by decide +kernel
theorem dX9_met_85 : decode cX9_met 85 = .ok (.goto 5, 3) := by decide +kernel
theorem dX9_met_88 : decode cX9_met 88 = .ok (.bipush (-2), 2) := by decide +kernel
theorem dX9_met_90 : decode cX9_met 90 = .ok (.ireturn, 1) := by decide +kernel
theorem dX9_winner_0 : decode cX9_winner 0 = .ok (.aload_n 0, 1) := by decide +kernel
theorem dX9_winner_1 : decode cX9_winner 1 = .ok (.getfield 10, 3) := by decide +kernel
theorem dX9_winner_4 : decode cX9_winner 4 = .ok (.getfield 97, 3) := by decide +kernel
theorem dX9_winner_7 : decode cX9_winner 7 = .ok (.getfield 183, 3) := by decide +kernel
theorem dX9_winner_10 : decode cX9_winner 10 = .ok (.ifCond .ne 6, 3) := by decide +kernel
theorem dX9_winner_13 : decode cX9_winner 13 = .ok (.bipush (-5), 2) := by decide +kernel
theorem dX9_winner_15 : decode cX9_winner 15 = .ok (.ireturn, 1) := by decide +kernel
theorem dX9_winner_16 : decode cX9_winner 16 = .ok (.aload_n 0, 1) := by decide +kernel
theorem dX9_winner_17 : decode cX9_winner 17 = .ok (.getfield 60, 3) := by decide +kernel
theorem dX9_winner_20 : decode cX9_winner 20 = .ok (.aload_n 0, 1) := by decide +kernel
theorem dX9_winner_21 : decode cX9_winner 21 = .ok (.getfield 10, 3) := by decide +kernel
theorem dX9_winner_24 : decode cX9_winner 24 = .ok (.getfield 97, 3) := by decide +kernel
theorem dX9_winner_27 : decode cX9_winner 27 = .ok (.invokevirtual 236, 3) := by decide +kernel
theorem dX9_winner_30 : decode cX9_winner 30 = .ok (.aload_n 0, 1) := by decide +kernel
theorem dX9_winner_31 : decode cX9_winner 31 = .ok (.getfield 60, 3) := by decide +kernel
theorem dX9_winner_34 : decode cX9_winner 34 = .ok (.getfield 217, 3) := by decide +kernel
theorem dX9_winner_37 : decode cX9_winner 37 = .ok (.istore_n 1, 1) := by decide +kernel
theorem dX9_winner_38 : decode cX9_winner 38 = .ok (.iload_n 1, 1) := by decide +kernel
theorem dX9_winner_39 : decode cX9_winner 39 = .ok (.aload_n 0, 1) := by decide +kernel
theorem dX9_winner_40 : decode cX9_winner 40 = .ok (.getfield 60, 3) := by decide +kernel
theorem dX9_winner_43 : decode cX9_winner 43 = .ok (.getfield 239, 3) := by decide +kernel
theorem dX9_winner_46 : decode cX9_winner 46 = .ok (.if_icmp .ge 23, 3) := by decide +kernel
theorem dX9_winner_49 : decode cX9_winner 49 = .ok (.aload_n 0, 1) := by decide +kernel
theorem dX9_winner_50 : decode cX9_winner 50 = .ok (.getfield 60, 3) := by decide +kernel
theorem dX9_winner_53 : decode cX9_winner 53 = .ok (.aload_n 0, 1) := by decide +kernel
theorem dX9_winner_54 : decode cX9_winner 54 = .ok (.getfield 10, 3) := by decide +kernel
theorem dX9_winner_57 : decode cX9_winner 57 = .ok (.getfield 68, 3) := by decide +kernel
theorem dX9_winner_60 : decode cX9_winner 60 = .ok (.invokevirtual 214, 3) := by decide +kernel
theorem dX9_winner_63 : decode cX9_winner 63 = .ok (.iinc 1 1, 3) := by decide +kernel
theorem dX9_winner_66 : decode cX9_winner 66 = .ok (.goto (-28), 3) := by decide +kernel
theorem dX9_winner_69 : decode cX9_winner 69 = .ok (.aload_n 0, 1) := by decide +kernel
theorem dX9_winner_70 : decode cX9_winner 70 = .ok (.getfield 60, 3) := by decide +kernel
theorem dX9_winner_73 : decode cX9_winner 73 = .ok (.aload_n 0, 1) := by decide +kernel
theorem dX9_winner_74 : decode cX9_winner 74 = .ok (.getfield 60, 3) := by decide +kernel
theorem dX9_winner_77 : decode cX9_winner 77 = .ok (.getfield 239, 3) := by decide +kernel
theorem dX9_winner_80 : decode cX9_winner 80 = .ok (.iconst 0, 1) := by decide +kernel
theorem dX9_winner_81 : decode cX9_winner 81 = .ok (.invokevirtual 233, 3) := by decide +kernel
theorem dX9_winner_84 : decode cX9_winner 84 = .ok (.ireturn, 1) := by decide +kernel
theorem dX9_wins_0 : decode cX9_wins 0 = .ok (.aload_n 0, 1) := by decide +kernel
theorem dX9_wins_1 : decode cX9_wins 1 = .ok (.getfield 10, 3) := by decide +kernel
theorem dX9_wins_4 : decode cX9_wins 4 = .ok (.getfield 68, 3) := by decide +kernel
theorem dX9_wins_7 : decode cX9_wins 7 = .ok (.iload_n 1, 1) := by decide +kernel
theorem dX9_wins_8 : decode cX9_wins 8 = .ok (.invokevirtual 85, 3) := by decide +kernel
theorem dX9_wins_11 : decode cX9_wins 11 = .ok (.ifCond .ne 7, 3) := by decide +kernel
theorem dX9_wins_14 : decode cX9_wins 14 = .ok (.ldc2_w 146, 3) := by decide +kernel
theorem dX9_wins_17 : decode cX9_wins 17 = .ok (.lreturn, 1) := by decide +kernel
theorem dX9_wins_18 : decode cX9_wins 18 = .ok (.aload_n 0, 1) := by decide +kernel
theorem dX9_wins_19 : decode cX9_wins 19 = .ok (.getfield 10, 3) := by decide +kernel
theorem dX9_wins_22 : decode cX9_wins 22 = .ok (.getfield 68, 3) := by decide +kernel
theorem dX9_wins_25 : decode cX9_wins 25 = .ok (.getfield 75, 3) := by decide +kernel
theorem dX9_wins_28 : decode cX9_wins 28 = .ok (.iconst 2, 1) := by decide +kernel
theorem dX9_wins_29 : decode cX9_wins 29 = .ok (.if_icmp .lt 18, 3) := by decide +kernel
theorem dX9_wins_32 : decode cX9_wins 32 = .ok (.aload_n 0, 1) := by decide +kernel
theorem dX9_wins_33 : decode cX9_wins 33 = .ok (.getfield 10, 3) := by decide +kernel
theorem dX9_wins_36 : decode cX9_wins 36 = .ok (.getfield 68, 3) := by decide +kernel
theorem dX9_wins_39 : decode cX9_wins 39 = .ok (.getfield 75, 3) := by decide +kernel
theorem dX9_wins_42 : decode cX9_wins 42 = .ok (.bipush 8, 2) := by decide +kernel
theorem dX9_wins_44 : decode cX9_wins 44 = .ok (.if_icmp .le 7, 3) := by decide +kernel
theorem dX9_wins_47 : decode cX9_wins 47 = .ok (.ldc2_w 137, 3) := by decide +kernel
theorem dX9_wins_50 : decode cX9_wins 50 = .ok (.lreturn, 1) := by decide +kernel
theorem dX9_wins_51 : decode cX9_wins 51 = .ok (.aload_n 0, 1) := by decide +kernel
theorem dX9_wins_52 : decode cX9_wins 52 = .ok (.getfield 10, 3) := by decide +kernel
theorem dX9_wins_55 : decode cX9_wins 55 = .ok (.getfield 68, 3) := by decide +kernel
theorem dX9_wins_58 : decode cX9_wins 58 = .ok (.invokevirtual 242, 3) := by decide +kernel
theorem dX9_wins_61 : decode cX9_wins 61 = .ok (.iload_n 1, 1) := by decide +kernel
theorem dX9_wins_62 : decode cX9_wins 62 = .ok (.if_icmp .ne 10, 3) := by decide +kernel
theorem dX9_wins_65 : decode cX9_wins 65 = .ok (.aload_n 0, 1) := by decide +kernel
theorem dX9_wins_66 : decode cX9_wins 66 = .ok (.invokevirtual 139, 3) := by decide +kernel
theorem dX9_wins_69 : decode cX9_wins 69 = .ok (.goto 4, 3) := by decide +kernel
theorem dX9_wins_72 : decode cX9_wins 72 = .ok (.lconst 0, 1) := by decide +kernel
theorem dX9_wins_73 : decode cX9_wins 73 = .ok (.lreturn, 1) := by decide +kernel
theorem dX9_print_0 : decode cX9_print 0 = .ok (.iload_n 1, 1) := by decide +kernel
theorem dX9_print_1 : decode cX9_print 1 = .ok (.iconst (-1), 1) := by decide +kernel
theorem dX9_print_2 : decode cX9_print 2 = .ok (.if_icmp .ge 5, 3) := by decide +kernel
theorem dX9_print_5 : decode cX9_print 5 = .ok (.iconst (-1), 1) := by decide +kernel
theorem dX9_print_6 : decode cX9_print 6 = .ok (.ireturn, 1) := by decide +kernel
theorem dX9_print_7 : decode cX9_print 7 = .ok (.aload_n 0, 1) := by decide +kernel
theorem dX9_print_8 : decode cX9_print 8 = .ok (.getfield 10, 3) := by decide +kernel
theorem dX9_print_11 : decode cX9_print 11 = .ok (.getfield 97, 3) := by decide +kernel
theorem dX9_print_14 : decode cX9_print 14 = .ok (.getfield 183, 3) := by decide +kernel
theorem dX9_print_17 : decode cX9_print 17 = .ok (.ifCond .eq 17, 3) := by decide +kernel
theorem dX9_print_20 : decode cX9_print 20 = .ok (.aload_n 0, 1) := by decide +kernel
theorem dX9_print_21 : decode cX9_print 21 = .ok (.getfield 10, 3) := by decide +kernel
theorem dX9_print_24 : decode cX9_print 24 = .ok (.getfield 97, 3) := by decide +kernel
theorem dX9_print_27 : decode cX9_print 27 = .ok (.iload_n 1, 1) := by decide +kernel
theorem dX9_print_28 : decode cX9_print 28 = .ok (.invokevirtual 245, 3) := by decide +kernel
theorem dX9_print_31 : decode cX9_print 31 = .ok (.goto 5, 3) := by decide +kernel
theorem dX9_print_34 : decode cX9_print 34 = .ok (.bipush (-5), 2) := by decide +kernel
theorem dX9_print_36 : decode cX9_print 36 = .ok (.ireturn, 1) := by decide +kernel
theorem dX9_brackets_0 : decode cX9_brackets 0 = .ok (.iload_n 1, 1) := by decide +kernel
theorem dX9_brackets_1 : decode cX9_brackets 1 = .ok (.iconst (-1), 1) := by decide +kernel
theorem dX9_brackets_2 : decode cX9_brackets 2 = .ok (.if_icmp .ge 5, 3) := by decide +kernel
theorem dX9_brackets_5 : decode cX9_brackets 5 = .ok (.iconst (-1), 1) := by decide +kernel
theorem dX9_brackets_6 : decode cX9_brackets 6 = .ok (.ireturn, 1) := by decide +kernel
theorem dX9_brackets_7 : decode cX9_brackets 7 = .ok (.aload_n 0, 1) := by decide +kernel
theorem dX9_brackets_8 : decode cX9_brackets 8 = .ok (.getfield 10, 3) := by decide +kernel
theorem dX9_brackets_11 : decode cX9_brackets 11 = .ok (.getfield 97, 3) := by decide +kernel
theorem dX9_brackets_14 : decode cX9_brackets 14 = .ok (.getfield 183, 3) := by decide +kernel
theorem dX9_brackets_17 : decode cX9_brackets 17 = .ok (.ifCond .eq 17, 3) := by decide +kernel
theorem dX9_brackets_20 : decode cX9_brackets 20 = .ok (.aload_n 0, 1) := by decide +kernel
theorem dX9_brackets_21 : decode cX9_brackets 21 = .ok (.getfield 10, 3) := by decide +kernel
theorem dX9_brackets_24 : decode cX9_brackets 24 = .ok (.getfield 97, 3) := by decide +kernel
theorem dX9_brackets_27 : decode cX9_brackets 27 = .ok (.iload_n 1, 1) := by decide +kernel
theorem dX9_brackets_28 : decode cX9_brackets 28 = .ok (.invokevirtual 248, 3) := by decide +kernel
theorem dX9_brackets_31 : decode cX9_brackets 31 = .ok (.goto 5, 3) := by decide +kernel
theorem dX9_brackets_34 : decode cX9_brackets 34 = .ok (.bipush (-5), 2) := by decide +kernel
theorem dX9_brackets_36 : decode cX9_brackets 36 = .ok (.ireturn, 1) := by decide +kernel
theorem dX9_undo_0 : decode cX9_undo 0 = .ok (.aload_n 0, 1) := by decide +kernel
theorem dX9_undo_1 : decode cX9_undo 1 = .ok (.getfield 22, 3) := by decide +kernel
theorem dX9_undo_4 : decode cX9_undo 4 = .ok (.getfield 251, 3) := by decide +kernel
theorem dX9_undo_7 : decode cX9_undo 7 = .ok (.iconst 1, 1) := by decide +kernel
theorem dX9_undo_8 : decode cX9_undo 8 = .ok (.if_icmp .ge 6, 3) := by decide +kernel
theorem dX9_undo_11 : decode cX9_undo 11 = .ok (.bipush (-5), 2) := by decide +kernel
theorem dX9_undo_13 : decode cX9_undo 13 = .ok (.ireturn, 1) := by decide +kernel
theorem dX9_undo_14 : decode cX9_undo 14 = .ok (.aload_n 0, 1) := by decide +kernel
theorem dX9_undo_15 : decode cX9_undo 15 = .ok (.getfield 22, 3) := by decide +kernel
theorem dX9_undo_18 : decode cX9_undo 18 = .ok (.aload_n 0, 1) := by decide +kernel
theorem dX9_undo_19 : decode cX9_undo 19 = .ok (.getfield 10, 3) := by decide +kernel
theorem dX9_undo_22 : decode cX9_undo 22 = .ok (.iconst (-1), 1) := by decide +kernel
theorem dX9_undo_23 : decode cX9_undo 23 = .ok (.invokevirtual 254, 3) := by decide +kernel
theorem dX9_undo_26 : decode cX9_undo 26 = .ok (.aload_n 0, 1) := by decide +kernel
theorem dX9_undo_27 : decode cX9_undo 27 = .ok (.getfield 22, 3) := by decide +kernel
theorem dX9_undo_30 : decode cX9_undo 30 = .ok (.getfield 251, 3) := by decide +kernel
theorem dX9_undo_33 : decode cX9_undo 33 = .ok (.ireturn, 1) := by decide +kernel
theorem dX9_redo_0 : decode cX9_redo 0 = .ok (.aload_n 0, 1) := by decide +kernel
theorem dX9_redo_1 : decode cX9_redo 1 = .ok (.getfield 22, 3) := by decide +kernel
theorem dX9_redo_4 : decode cX9_redo 4 = .ok (.getfield 251, 3) := by decide +kernel
theorem dX9_redo_7 : decode cX9_redo 7 = .ok (.aload_n 0, 1) := by decide +kernel
theorem dX9_redo_8 : decode cX9_redo 8 = .ok (.getfield 22, 3) := by decide +kernel
theorem dX9_redo_11 : decode cX9_redo 11 = .ok (.getfield 258, 3) := by decide +kernel
theorem dX9_redo_14 : decode cX9_redo 14 = .ok (.if_icmp .lt 6, 3) := by decide +kernel
theorem dX9_redo_17 : decode cX9_redo 17 = .ok (.bipush (-5), 2) := by decide +kernel
theorem dX9_redo_19 : decode cX9_redo 19 = .ok (.ireturn, 1) := by decide +kernel
theorem dX9_redo_20 : decode cX9_redo 20 = .ok (.aload_n 0, 1) := by decide +kernel
theorem dX9_redo_21 : decode cX9_redo 21 = .ok (.getfield 22, 3) := by decide +kernel
theorem dX9_redo_24 : decode cX9_redo 24 = .ok (.aload_n 0, 1) := by decide +kernel
theorem dX9_redo_25 : decode cX9_redo 25 = .ok (.getfield 10, 3) := by decide +kernel
theorem dX9_redo_28 : decode cX9_redo 28 = .ok (.iconst 1, 1) := by decide +kernel
theorem dX9_redo_29 : decode cX9_redo 29 = .ok (.invokevirtual 254, 3) := by decide +kernel
theorem dX9_redo_32 : decode cX9_redo 32 = .ok (.aload_n 0, 1) := by decide +kernel
theorem dX9_redo_33 : decode cX9_redo 33 = .ok (.getfield 22, 3) := by decide +kernel
theorem dX9_redo_36 : decode cX9_redo 36 = .ok (.getfield 258, 3) := by decide +kernel
theorem dX9_redo_39 : decode cX9_redo 39 = .ok (.aload_n 0, 1) := by decide +kernel
theorem dX9_redo_40 : decode cX9_redo 40 = .ok (.getfield 22, 3) := by decide +kernel
theorem dX9_redo_43 : decode cX9_redo 43 = .ok (.getfield 251, 3) := by decide +kernel
theorem dX9_redo_46 : decode cX9_redo 46 = .ok (.isub, 1) := by decide +kernel
theorem dX9_redo_47 : decode cX9_redo 47 = .ok (.ireturn, 1) := by decide +kernel
theorem dX9_image_0 : decode cX9_image 0 = .ok (.aload_n 0, 1) := by decide +kernel
theorem dX9_image_1 : decode cX9_image 1 = .ok (.getfield 16, 3) := by decide +kernel
theorem dX9_image_4 : decode cX9_image 4 = .ok (.aload_n 0, 1) := by decide +kernel
theorem dX9_image_5 : decode cX9_image 5 = .ok (.getfield 10, 3) := by decide +kernel
theorem dX9_image_8 : decode cX9_image 8 = .ok (.invokevirtual 261, 3) := by decide +kernel
theorem dX9_image_11 : decode cX9_image 11 = .ok (.aload_n 0, 1) := by decide +kernel
theorem dX9_image_12 : decode cX9_image 12 = .ok (.iconst 1, 1) := by decide +kernel
theorem dX9_image_13 : decode cX9_image 13 = .ok (.putfield 263, 3) := by decide +kernel
theorem dX9_image_16 : decode cX9_image 16 = .ok (.aload_n 0, 1) := by decide +kernel
theorem dX9_image_17 : decode cX9_image 17 = .ok (.getfield 10, 3) := by decide +kernel
theorem dX9_image_20 : decode cX9_image 20 = .ok (.getfield 68, 3) := by decide +kernel
theorem dX9_image_23 : decode cX9_image 23 = .ok (.getfield 75, 3) := by decide +kernel
theorem dX9_image_26 : decode cX9_image 26 = .ok (.ireturn, 1) := by decide +kernel
theorem dX9_back_0 : decode cX9_back 0 = .ok (.aload_n 0, 1) := by decide +kernel
theorem dX9_back_1 : decode cX9_back 1 = .ok (.getfield 263, 3) := by decide +kernel
theorem dX9_back_4 : decode cX9_back 4 = .ok (.ifCond .ne 6, 3) := by decide +kernel
theorem dX9_back_7 : decode cX9_back 7 = .ok (.bipush (-5), 2) := by decide +kernel
theorem dX9_back_9 : decode cX9_back 9 = .ok (.ireturn, 1) := by decide +kernel
theorem dX9_back_10 : decode cX9_back 10 = .ok (.aload_n 0, 1) := by decide +kernel
theorem dX9_back_11 : decode cX9_back 11 = .ok (.getfield 10, 3) := by decide +kernel
theorem dX9_back_14 : decode cX9_back 14 = .ok (.aload_n 0, 1) := by decide +kernel
theorem dX9_back_15 : decode cX9_back 15 = .ok (.getfield 16, 3) := by decide +kernel
theorem dX9_back_18 : decode cX9_back 18 = .ok (.invokevirtual 261, 3) := by decide +kernel
theorem dX9_back_21 : decode cX9_back 21 = .ok (.aload_n 0, 1) := by decide +kernel
theorem dX9_back_22 : decode cX9_back 22 = .ok (.getfield 22, 3) := by decide +kernel
theorem dX9_back_25 : decode cX9_back 25 = .ok (.aload_n 0, 1) := by decide +kernel
theorem dX9_back_26 : decode cX9_back 26 = .ok (.getfield 10, 3) := by decide +kernel
theorem dX9_back_29 : decode cX9_back 29 = .ok (.invokevirtual 266, 3) := by decide +kernel
theorem dX9_back_32 : decode cX9_back 32 = .ok (.aload_n 0, 1) := by decide +kernel
theorem dX9_back_33 : decode cX9_back 33 = .ok (.getfield 10, 3) := by decide +kernel
theorem dX9_back_36 : decode cX9_back 36 = .ok (.getfield 68, 3) := by decide +kernel
theorem dX9_back_39 : decode cX9_back 39 = .ok (.getfield 75, 3) := by decide +kernel
theorem dX9_back_42 : decode cX9_back 42 = .ok (.ireturn, 1) := by decide +kernel
theorem dX9_count_0 : decode cX9_count 0 = .ok (.aload_n 0, 1) := by decide +kernel
theorem dX9_count_1 : decode cX9_count 1 = .ok (.getfield 10, 3) := by decide +kernel
theorem dX9_count_4 : decode cX9_count 4 = .ok (.getfield 68, 3) := by decide +kernel
theorem dX9_count_7 : decode cX9_count 7 = .ok (.astore_n 2, 1) := by decide +kernel
theorem dX9_count_8 : decode cX9_count 8 = .ok (.aload_n 2, 1) := by decide +kernel
theorem dX9_count_9 : decode cX9_count 9 = .ok (.getfield 75, 3) := by decide +kernel
theorem dX9_count_12 : decode cX9_count 12 = .ok (.iconst 2, 1) := by decide +kernel
theorem dX9_count_13 : decode cX9_count 13 = .ok (.if_icmp .lt 7, 3) := by decide +kernel
theorem dX9_count_16 : decode cX9_count 16 = .ok (.iconst 1, 1) := by decide +kernel
theorem dX9_count_17 : decode cX9_count 17 = .ok (.goto 4, 3) := by decide +kernel
theorem dX9_count_20 : decode cX9_count 20 = .ok (.iconst 0, 1) := by decide +kernel
theorem dX9_count_21 : decode cX9_count 21 = .ok (.istore_n 3, 1) := by decide +kernel
theorem dX9_count_22 : decode cX9_count 22 = .ok (.iload_n 1, 1) := by decide +kernel
theorem dX9_count_23 : decode cX9_count 23 = .ok (.tableswitch 153 0 9 #[53, 58, 71, 84, 97, 108, 113, 118, 129, 137], 53) := by decide +kernel
theorem dX9_count_76 : decode cX9_count 76 = .ok (.aload_n 2, 1) := by decide +kernel
theorem dX9_count_77 : decode cX9_count 77 = .ok (.getfield 75, 3) := by decide +kernel
theorem dX9_count_80 : decode cX9_count 80 = .ok (.ireturn, 1) := by decide +kernel
theorem dX9_count_81 : decode cX9_count 81 = .ok (.iload_n 3, 1) := by decide +kernel
theorem dX9_count_82 : decode cX9_count 82 = .ok (.ifCond .eq 10, 3) := by decide +kernel
theorem dX9_count_85 : decode cX9_count 85 = .ok (.aload_n 2, 1) := by decide +kernel
theorem dX9_count_86 : decode cX9_count 86 = .ok (.invokevirtual 230, 3) := by decide +kernel
theorem dX9_count_89 : decode cX9_count 89 = .ok (.goto 4, 3) := by decide +kernel
theorem dX9_count_92 : decode cX9_count 92 = .ok (.iconst 0, 1) := by decide +kernel
theorem dX9_count_93 : decode cX9_count 93 = .ok (.ireturn, 1) := by decide +kernel
theorem dX9_count_94 : decode cX9_count 94 = .ok (.iload_n 3, 1) := by decide +kernel
theorem dX9_count_95 : decode cX9_count 95 = .ok (.ifCond .eq 10, 3) := by decide +kernel
theorem dX9_count_98 : decode cX9_count 98 = .ok (.aload_n 2, 1) := by decide +kernel
theorem dX9_count_99 : decode cX9_count 99 = .ok (.invokevirtual 176, 3) := by decide +kernel
theorem dX9_count_102 : decode cX9_count 102 = .ok (.goto 4, 3) := by decide +kernel
theorem dX9_count_105 : decode cX9_count 105 = .ok (.iconst 0, 1) := by decide +kernel
theorem dX9_count_106 : decode cX9_count 106 = .ok (.ireturn, 1) := by decide +kernel
theorem dX9_count_107 : decode cX9_count 107 = .ok (.iload_n 3, 1) := by decide +kernel
theorem dX9_count_108 : decode cX9_count 108 = .ok (.ifCond .eq 10, 3) := by decide +kernel
theorem dX9_count_111 : decode cX9_count 111 = .ok (.aload_n 2, 1) := by decide +kernel
theorem dX9_count_112 : decode cX9_count 112 = .ok (.invokevirtual 269, 3) := by decide +kernel
theorem dX9_count_115 : decode cX9_count 115 = .ok (.goto 4, 3) := by decide +kernel
theorem dX9_count_118 : decode cX9_count 118 = .ok (.iconst 0, 1) := by decide +kernel
theorem dX9_count_119 : decode cX9_count 119 = .ok (.ireturn, 1) := by decide +kernel
theorem dX9_count_120 : decode cX9_count 120 = .ok (.aload_n 0, 1) := by decide +kernel
theorem dX9_count_121 : decode cX9_count 121 = .ok (.getfield 10, 3) := by decide +kernel
theorem dX9_count_124 : decode cX9_count 124 = .ok (.getfield 97, 3) := by decide +kernel
theorem dX9_count_127 : decode cX9_count 127 = .ok (.getfield 217, 3) := by decide +kernel
theorem dX9_count_130 : decode cX9_count 130 = .ok (.ireturn, 1) := by decide +kernel
theorem dX9_count_131 : decode cX9_count 131 = .ok (.aload_n 2, 1) := by decide +kernel
theorem dX9_count_132 : decode cX9_count 132 = .ok (.getfield 111, 3) := by decide +kernel
theorem dX9_count_135 : decode cX9_count 135 = .ok (.ireturn, 1) := by decide +kernel
theorem dX9_count_136 : decode cX9_count 136 = .ok (.aload_n 2, 1) := by decide +kernel
theorem dX9_count_137 : decode cX9_count 137 = .ok (.getfield 114, 3) := by decide +kernel
theorem dX9_count_140 : decode cX9_count 140 = .ok (.ireturn, 1) := by decide +kernel
theorem dX9_count_141 : decode cX9_count 141 = .ok (.aload_n 0, 1) := by decide +kernel
theorem dX9_count_142 : decode cX9_count 142 = .ok (.getfield 29, 3) := by decide +kernel
theorem dX9_count_145 : decode cX9_count 145 = .ok (.getfield 117, 3) := by decide +kernel
theorem dX9_count_148 : decode cX9_count 148 = .ok (.getfield 125, 3) := by decide +kernel
theorem dX9_count_151 : decode cX9_count 151 = .ok (.ireturn, 1) := by decide +kernel
theorem dX9_count_152 : decode cX9_count 152 = .ok (.aload_n 0, 1) := by decide +kernel
theorem dX9_count_153 : decode cX9_count 153 = .ok (.getfield 22, 3) := by decide +kernel
theorem dX9_count_156 : decode cX9_count 156 = .ok (.getfield 251, 3) := by decide +kernel
theorem dX9_count_159 : decode cX9_count 159 = .ok (.ireturn, 1) := by decide +kernel
theorem dX9_count_160 : decode cX9_count 160 = .ok (.aload_n 0, 1) := by decide +kernel
theorem dX9_count_161 : decode cX9_count 161 = .ok (.getfield 22, 3) := by decide +kernel
theorem dX9_count_164 : decode cX9_count 164 = .ok (.getfield 258, 3) := by decide +kernel
theorem dX9_count_167 : decode cX9_count 167 = .ok (.aload_n 0, 1) := by decide +kernel
theorem dX9_count_168 : decode cX9_count 168 = .ok (.getfield 22, 3) := by decide +kernel
theorem dX9_count_171 : decode cX9_count 171 = .ok (.getfield 251, 3) := by decide +kernel
theorem dX9_count_174 : decode cX9_count 174 = .ok (.isub, 1) := by decide +kernel
theorem dX9_count_175 : decode cX9_count 175 = .ok (.ireturn, 1) := by decide +kernel
theorem dX9_count_176 : decode cX9_count 176 = .ok (.iconst (-1), 1) := by decide +kernel
theorem dX9_count_177 : decode cX9_count 177 = .ok (.ireturn, 1) := by decide +kernel
theorem dX9_startAnew_0 : decode cX9_startAnew 0 = .ok (.aload_n 0, 1) := by decide +kernel
theorem dX9_startAnew_1 : decode cX9_startAnew 1 = .ok (.getfield 10, 3) := by decide +kernel
theorem dX9_startAnew_4 : decode cX9_startAnew 4 = .ok (.getfield 97, 3) := by decide +kernel
theorem dX9_startAnew_7 : decode cX9_startAnew 7 = .ok (.invokevirtual 100, 3) := by decide +kernel
theorem dX9_startAnew_10 : decode cX9_startAnew 10 = .ok (.aload_n 0, 1) := by decide +kernel
theorem dX9_startAnew_11 : decode cX9_startAnew 11 = .ok (.getfield 22, 3) := by decide +kernel
theorem dX9_startAnew_14 : decode cX9_startAnew 14 = .ok (.aload_n 0, 1) := by decide +kernel
theorem dX9_startAnew_15 : decode cX9_startAnew 15 = .ok (.getfield 10, 3) := by decide +kernel
theorem dX9_startAnew_18 : decode cX9_startAnew 18 = .ok (.invokevirtual 266, 3) := by decide +kernel
theorem dX9_startAnew_21 : decode cX9_startAnew 21 = .ok (.return_, 1) := by decide +kernel
theorem dX9_allDraws_0 : decode cX9_allDraws 0 = .ok (.aload_n 0, 1) := by decide +kernel
theorem dX9_allDraws_1 : decode cX9_allDraws 1 = .ok (.getfield 36, 3) := by decide +kernel
theorem dX9_allDraws_4 : decode cX9_allDraws 4 = .ok (.aload_n 0, 1) := by decide +kernel
theorem dX9_allDraws_5 : decode cX9_allDraws 5 = .ok (.getfield 10, 3) := by decide +kernel
theorem dX9_allDraws_8 : decode cX9_allDraws 8 = .ok (.getfield 68, 3) := by decide +kernel
theorem dX9_allDraws_11 : decode cX9_allDraws 11 = .ok (.invokevirtual 271, 3) := by decide +kernel
theorem dX9_allDraws_14 : decode cX9_allDraws 14 = .ok (.ifCond .ne 31, 3) := by decide +kernel
theorem dX9_allDraws_17 : decode cX9_allDraws 17 = .ok (.aload_n 0, 1) := by decide +kernel
theorem dX9_allDraws_18 : decode cX9_allDraws 18 = .ok (.getfield 36, 3) := by decide +kernel
theorem dX9_allDraws_21 : decode cX9_allDraws 21 = .ok (.aload_n 0, 1) := by decide +kernel
theorem dX9_allDraws_22 : decode cX9_allDraws 22 = .ok (.getfield 10, 3) := by decide +kernel
theorem dX9_allDraws_25 : decode cX9_allDraws 25 = .ok (.getfield 68, 3) := by decide +kernel
theorem dX9_allDraws_28 : decode cX9_allDraws 28 = .ok (.invokevirtual 148, 3) := by decide +kernel
theorem dX9_allDraws_31 : decode cX9_allDraws 31 = .ok (.aload_n 0, 1) := by decide +kernel
theorem dX9_allDraws_32 : decode cX9_allDraws 32 = .ok (.getfield 36, 3) := by decide +kernel
theorem dX9_allDraws_35 : decode cX9_allDraws 35 = .ok (.invokevirtual 155, 3) := by decide +kernel
theorem dX9_allDraws_38 : decode cX9_allDraws 38 = .ok (.pop2, 1) := by decide +kernel
theorem dX9_allDraws_39 : decode cX9_allDraws 39 = .ok (.aload_n 0, 1) := by decide +kernel
theorem dX9_allDraws_40 : decode cX9_allDraws 40 = .ok (.bipush (-4), 2) := by decide +kernel
theorem dX9_allDraws_42 : decode cX9_allDraws 42 = .ok (.putfield 64, 3) := by decide +kernel
theorem dX9_allDraws_45 : decode cX9_allDraws 45 = .ok (.aload_n 0, 1) := by decide +kernel
theorem dX9_allDraws_46 : decode cX9_allDraws 46 = .ok (.getfield 36, 3) := by decide +kernel
theorem dX9_allDraws_49 : decode cX9_allDraws 49 = .ok (.getfield 275, 3) := by decide +kernel
theorem dX9_allDraws_52 : decode cX9_allDraws 52 = .ok (.lreturn, 1) := by decide +kernel
theorem dX9_watched_0 : decode cX9_watched 0 = .ok (.aload_n 0, 1) := by decide +kernel
theorem dX9_watched_1 : decode cX9_watched 1 = .ok (.invokevirtual 139, 3) := by decide +kernel
theorem dX9_watched_4 : decode cX9_watched 4 = .ok (.lconst 0, 1) := by decide +kernel
theorem dX9_watched_5 : decode cX9_watched 5 = .ok (.lcmp, 1) := by decide +kernel
theorem dX9_watched_6 : decode cX9_watched 6 = .ok (.ifCond .ne 5, 3) := by decide +kernel
theorem dX9_watched_9 : decode cX9_watched 9 = .ok (.lconst 0, 1) := by decide +kernel
theorem dX9_watched_10 : decode cX9_watched 10 = .ok (.lreturn, 1) := by decide +kernel
theorem dX9_watched_11 : decode cX9_watched 11 = .ok (.aload_n 0, 1) := by decide +kernel
theorem dX9_watched_12 : decode cX9_watched 12 = .ok (.getfield 40, 3) := by decide +kernel
theorem dX9_watched_15 : decode cX9_watched 15 = .ok (.aload_n 0, 1) := by decide +kernel
theorem dX9_watched_16 : decode cX9_watched 16 = .ok (.getfield 10, 3) := by decide +kernel
theorem dX9_watched_19 : decode cX9_watched 19 = .ok (.getfield 68, 3) := by decide +kernel
theorem dX9_watched_22 : decode cX9_watched 22 = .ok (.invokevirtual 148, 3) := by decide +kernel
theorem dX9_watched_25 : decode cX9_watched 25 = .ok (.aload_n 0, 1) := by decide +kernel
theorem dX9_watched_26 : decode cX9_watched 26 = .ok (.getfield 40, 3) := by decide +kernel
theorem dX9_watched_29 : decode cX9_watched 29 = .ok (.getfield 278, 3) := by decide +kernel
theorem dX9_watched_32 : decode cX9_watched 32 = .ok (.iload_n 1, 1) := by decide +kernel
theorem dX9_watched_33 : decode cX9_watched 33 = .ok (.iload_n 2, 1) := by decide +kernel
theorem dX9_watched_34 : decode cX9_watched 34 = .ok (.iload_n 3, 1) := by decide +kernel
theorem dX9_watched_35 : decode cX9_watched 35 = .ok (.invokevirtual 282, 3) := by decide +kernel
theorem dX9_watched_38 : decode cX9_watched 38 = .ok (.aload_n 0, 1) := by decide +kernel
theorem dX9_watched_39 : decode cX9_watched 39 = .ok (.getfield 40, 3) := by decide +kernel
theorem dX9_watched_42 : decode cX9_watched 42 = .ok (.invokevirtual 155, 3) := by decide +kernel
theorem dX9_watched_45 : decode cX9_watched 45 = .ok (.lreturn, 1) := by decide +kernel
theorem dX9_takeNumbered_0 : decode cX9_takeNumbered 0 = .ok (.aload_n 0, 1) := by decide +kernel
theorem dX9_takeNumbered_1 : decode cX9_takeNumbered 1 = .ok (.getfield 46, 3) := by decide +kernel
theorem dX9_takeNumbered_4 : decode cX9_takeNumbered 4 = .ok (.aload_n 0, 1) := by decide +kernel
theorem dX9_takeNumbered_5 : decode cX9_takeNumbered 5 = .ok (.getfield 36, 3) := by decide +kernel
theorem dX9_takeNumbered_8 : decode cX9_takeNumbered 8 = .ok (.lload_n 1, 1) := by decide +kernel
theorem dX9_takeNumbered_9 : decode cX9_takeNumbered 9 = .ok (.aload_n 0, 1) := by decide +kernel
theorem dX9_takeNumbered_10 : decode cX9_takeNumbered 10 = .ok (.getfield 10, 3) := by decide +kernel
theorem dX9_takeNumbered_13 : decode cX9_takeNumbered 13 = .ok (.getfield 97, 3) := by decide +kernel
theorem dX9_takeNumbered_16 : decode cX9_takeNumbered 16 = .ok (.getfield 287, 3) := by decide +kernel
theorem dX9_takeNumbered_19 : decode cX9_takeNumbered 19 = .ok (.invokevirtual 291, 3) := by decide +kernel
theorem dX9_takeNumbered_22 : decode cX9_takeNumbered 22 = .ok (.aload_n 0, 1) := by decide +kernel
theorem dX9_takeNumbered_23 : decode cX9_takeNumbered 23 = .ok (.getfield 10, 3) := by decide +kernel
theorem dX9_takeNumbered_26 : decode cX9_takeNumbered 26 = .ok (.getfield 97, 3) := by decide +kernel
theorem dX9_takeNumbered_29 : decode cX9_takeNumbered 29 = .ok (.lload_n 1, 1) := by decide +kernel
theorem dX9_takeNumbered_30 : decode cX9_takeNumbered 30 = .ok (.aload_n 0, 1) := by decide +kernel
theorem dX9_takeNumbered_31 : decode cX9_takeNumbered 31 = .ok (.getfield 10, 3) := by decide +kernel
theorem dX9_takeNumbered_34 : decode cX9_takeNumbered 34 = .ok (.getfield 68, 3) := by decide +kernel
theorem dX9_takeNumbered_37 : decode cX9_takeNumbered 37 = .ok (.invokevirtual 295, 3) := by decide +kernel
theorem dX9_takeNumbered_40 : decode cX9_takeNumbered 40 = .ok (.aload_n 0, 1) := by decide +kernel
theorem dX9_takeNumbered_41 : decode cX9_takeNumbered 41 = .ok (.getfield 22, 3) := by decide +kernel
theorem dX9_takeNumbered_44 : decode cX9_takeNumbered 44 = .ok (.aload_n 0, 1) := by decide +kernel
theorem dX9_takeNumbered_45 : decode cX9_takeNumbered 45 = .ok (.getfield 10, 3) := by decide +kernel
theorem dX9_takeNumbered_48 : decode cX9_takeNumbered 48 = .ok (.invokevirtual 103, 3) := by decide +kernel
theorem dX9_takeNumbered_51 : decode cX9_takeNumbered 51 = .ok (.return_, 1) := by decide +kernel
theorem dX9_searchLevels_0 : decode cX9_searchLevels 0 = .ok (.aload_n 0, 1) := by decide +kernel
theorem dX9_searchLevels_1 : decode cX9_searchLevels 1 = .ok (.getfield 53, 3) := by decide +kernel
theorem dX9_searchLevels_4 : decode cX9_searchLevels 4 = .ok (.aload_n 0, 1) := by decide +kernel
theorem dX9_searchLevels_5 : decode cX9_searchLevels 5 = .ok (.getfield 10, 3) := by decide +kernel
theorem dX9_searchLevels_8 : decode cX9_searchLevels 8 = .ok (.getfield 68, 3) := by decide +kernel
theorem dX9_searchLevels_11 : decode cX9_searchLevels 11 = .ok (.invokevirtual 133, 3) := by decide +kernel
theorem dX9_searchLevels_14 : decode cX9_searchLevels 14 = .ok (.iconst 0, 1) := by decide +kernel
theorem dX9_searchLevels_15 : decode cX9_searchLevels 15 = .ok (.istore_n 1, 1) := by decide +kernel
theorem dX9_searchLevels_16 : decode cX9_searchLevels 16 = .ok (.iload_n 1, 1) := by decide +kernel
theorem dX9_searchLevels_17 : decode cX9_searchLevels 17 = .ok (.bipush 8, 2) := by decide +kernel
theorem dX9_searchLevels_19 : decode cX9_searchLevels 19 = .ok (.if_icmp .ge 95, 3) := by decide +kernel
theorem dX9_searchLevels_22 : decode cX9_searchLevels 22 = .ok (.aload_n 0, 1) := by decide +kernel
theorem dX9_searchLevels_23 : decode cX9_searchLevels 23 = .ok (.getfield 53, 3) := by decide +kernel
theorem dX9_searchLevels_26 : decode cX9_searchLevels 26 = .ok (.getfield 114, 3) := by decide +kernel
theorem dX9_searchLevels_29 : decode cX9_searchLevels 29 = .ok (.ifCond .le 19, 3) := by decide +kernel
theorem dX9_searchLevels_32 : decode cX9_searchLevels 32 = .ok (.aload_n 0, 1) := by decide +kernel
theorem dX9_searchLevels_33 : decode cX9_searchLevels 33 = .ok (.getfield 53, 3) := by decide +kernel
theorem dX9_searchLevels_36 : decode cX9_searchLevels 36 = .ok (.dup, 1) := by decide +kernel
theorem dX9_searchLevels_37 : decode cX9_searchLevels 37 = .ok (.getfield 114, 3) := by decide +kernel
theorem dX9_searchLevels_40 : decode cX9_searchLevels 40 = .ok (.iconst 1, 1) := by decide +kernel
theorem dX9_searchLevels_41 : decode cX9_searchLevels 41 = .ok (.isub, 1) := by decide +kernel
theorem dX9_searchLevels_42 : decode cX9_searchLevels 42 = .ok (.putfield 114, 3) := by decide +kernel
theorem dX9_searchLevels_45 : decode cX9_searchLevels 45 = .ok (.goto 32, 3) := by decide +kernel
theorem dX9_searchLevels_48 : decode cX9_searchLevels 48 = .ok (.aload_n 0, 1) := by decide +kernel
theorem dX9_searchLevels_49 : decode cX9_searchLevels 49 = .ok (.getfield 53, 3) := by decide +kernel
theorem dX9_searchLevels_52 : decode cX9_searchLevels 52 = .ok (.getfield 111, 3) := by decide +kernel
theorem dX9_searchLevels_55 : decode cX9_searchLevels 55 = .ok (.ifCond .le 19, 3) := by decide +kernel
theorem dX9_searchLevels_58 : decode cX9_searchLevels 58 = .ok (.aload_n 0, 1) := by decide +kernel
theorem dX9_searchLevels_59 : decode cX9_searchLevels 59 = .ok (.getfield 53, 3) := by decide +kernel
theorem dX9_searchLevels_62 : decode cX9_searchLevels 62 = .ok (.dup, 1) := by decide +kernel
theorem dX9_searchLevels_63 : decode cX9_searchLevels 63 = .ok (.getfield 111, 3) := by decide +kernel
theorem dX9_searchLevels_66 : decode cX9_searchLevels 66 = .ok (.iconst 1, 1) := by decide +kernel
theorem dX9_searchLevels_67 : decode cX9_searchLevels 67 = .ok (.isub, 1) := by decide +kernel
theorem dX9_searchLevels_68 : decode cX9_searchLevels 68 = .ok (.putfield 111, 3) := by decide +kernel
theorem dX9_searchLevels_71 : decode cX9_searchLevels 71 = .ok (.goto 6, 3) := by decide +kernel
theorem dX9_searchLevels_74 : decode cX9_searchLevels 74 = .ok (.bipush (-2), 2) := by decide +kernel
theorem dX9_searchLevels_76 : decode cX9_searchLevels 76 = .ok (.ireturn, 1) := by decide +kernel
theorem dX9_searchLevels_77 : decode cX9_searchLevels 77 = .ok (.aload_n 0, 1) := by decide +kernel
theorem dX9_searchLevels_78 : decode cX9_searchLevels 78 = .ok (.getfield 40, 3) := by decide +kernel
theorem dX9_searchLevels_81 : decode cX9_searchLevels 81 = .ok (.aload_n 0, 1) := by decide +kernel
theorem dX9_searchLevels_82 : decode cX9_searchLevels 82 = .ok (.getfield 53, 3) := by decide +kernel
theorem dX9_searchLevels_85 : decode cX9_searchLevels 85 = .ok (.invokevirtual 148, 3) := by decide +kernel
theorem dX9_searchLevels_88 : decode cX9_searchLevels 88 = .ok (.aload_n 0, 1) := by decide +kernel
theorem dX9_searchLevels_89 : decode cX9_searchLevels 89 = .ok (.getfield 40, 3) := by decide +kernel
theorem dX9_searchLevels_92 : decode cX9_searchLevels 92 = .ok (.invokevirtual 155, 3) := by decide +kernel
theorem dX9_searchLevels_95 : decode cX9_searchLevels 95 = .ok (.lconst 0, 1) := by decide +kernel
theorem dX9_searchLevels_96 : decode cX9_searchLevels 96 = .ok (.lcmp, 1) := by decide +kernel
theorem dX9_searchLevels_97 : decode cX9_searchLevels 97 = .ok (.ifCond .le 11, 3) := by decide +kernel
theorem dX9_searchLevels_100 : decode cX9_searchLevels 100 = .ok (.aload_n 0, 1) := by decide +kernel
theorem dX9_searchLevels_101 : decode cX9_searchLevels 101 = .ok (.getfield 53, 3) := by decide +kernel
theorem dX9_searchLevels_104 : decode cX9_searchLevels 104 = .ok (.invokevirtual 207, 3) := by decide +kernel
theorem dX9_searchLevels_107 : decode cX9_searchLevels 107 = .ok (.ireturn, 1) := by decide +kernel
theorem dX9_searchLevels_108 : decode cX9_searchLevels 108 = .ok (.iinc 1 1, 3) := by decide +kernel
theorem dX9_searchLevels_111 : decode cX9_searchLevels 111 = .ok (.goto (-95), 3) := by decide +kernel
theorem dX9_searchLevels_114 : decode cX9_searchLevels 114 = .ok (.bipush (-2), 2) := by decide +kernel
theorem dX9_searchLevels_116 : decode cX9_searchLevels 116 = .ok (.ireturn, 1) := by decide +kernel
theorem dX10_init_0 : decode cX10_init 0 = .ok (.aload_n 0, 1) := by decide +kernel
theorem dX10_init_1 : decode cX10_init 1 = .ok (.invokespecial 1, 3) := by decide +kernel
theorem dX10_init_4 : decode cX10_init 4 = .ok (.aload_n 0, 1) := by decide +kernel
theorem dX10_init_5 : decode cX10_init 5 = .ok (.bipush 84, 2) := by decide +kernel
theorem dX10_init_7 : decode cX10_init 7 = .ok (.newarray .int, 2) := by decide +kernel
theorem dX10_init_9 : decode cX10_init 9 = .ok (.putfield 9, 3) := by decide +kernel
theorem dX10_init_12 : decode cX10_init 12 = .ok (.aload_n 0, 1) := by decide +kernel
theorem dX10_init_13 : decode cX10_init 13 = .ok (.bipush 84, 2) := by decide +kernel
theorem dX10_init_15 : decode cX10_init 15 = .ok (.newarray .int, 2) := by decide +kernel
theorem dX10_init_17 : decode cX10_init 17 = .ok (.putfield 13, 3) := by decide +kernel
theorem dX10_init_20 : decode cX10_init 20 = .ok (.aload_n 0, 1) := by decide +kernel
theorem dX10_init_21 : decode cX10_init 21 = .ok (.sipush 840, 3) := by decide +kernel
theorem dX10_init_24 : decode cX10_init 24 = .ok (.newarray .int, 2) := by decide +kernel
theorem dX10_init_26 : decode cX10_init 26 = .ok (.putfield 16, 3) := by decide +kernel
theorem dX10_init_29 : decode cX10_init 29 = .ok (.aload_n 0, 1) := by decide +kernel
theorem dX10_init_30 : decode cX10_init 30 = .ok (.sipush 840, 3) := by decide +kernel
theorem dX10_init_33 : decode cX10_init 33 = .ok (.newarray .int, 2) := by decide +kernel
theorem dX10_init_35 : decode cX10_init 35 = .ok (.putfield 19, 3) := by decide +kernel
theorem dX10_init_38 : decode cX10_init 38 = .ok (.aload_n 0, 1) := by decide +kernel
theorem dX10_init_39 : decode cX10_init 39 = .ok (.bipush 120, 2) := by decide +kernel
theorem dX10_init_41 : decode cX10_init 41 = .ok (.newarray .int, 2) := by decide +kernel
theorem dX10_init_43 : decode cX10_init 43 = .ok (.putfield 22, 3) := by decide +kernel
theorem dX10_init_46 : decode cX10_init 46 = .ok (.aload_n 0, 1) := by decide +kernel
theorem dX10_init_47 : decode cX10_init 47 = .ok (.bipush 40, 2) := by decide +kernel
theorem dX10_init_49 : decode cX10_init 49 = .ok (.newarray .int, 2) := by decide +kernel
theorem dX10_init_51 : decode cX10_init 51 = .ok (.putfield 25, 3) := by decide +kernel
theorem dX10_init_54 : decode cX10_init 54 = .ok (.aload_n 0, 1) := by decide +kernel
theorem dX10_init_55 : decode cX10_init 55 = .ok (.iconst 4, 1) := by decide +kernel
theorem dX10_init_56 : decode cX10_init 56 = .ok (.newarray .int, 2) := by decide +kernel
theorem dX10_init_58 : decode cX10_init 58 = .ok (.putfield 28, 3) := by decide +kernel
theorem dX10_init_61 : decode cX10_init 61 = .ok (.aload_n 0, 1) := by decide +kernel
theorem dX10_init_62 : decode cX10_init 62 = .ok (.bipush 16, 2) := by decide +kernel
theorem dX10_init_64 : decode cX10_init 64 = .ok (.newarray .int, 2) := by decide +kernel
theorem dX10_init_66 : decode cX10_init 66 = .ok (.putfield 31, 3) := by decide +kernel
theorem dX10_init_69 : decode cX10_init 69 = .ok (.aload_n 0, 1) := by decide +kernel
theorem dX10_init_70 : decode cX10_init 70 = .ok (.bipush 16, 2) := by decide +kernel
theorem dX10_init_72 : decode cX10_init 72 = .ok (.newarray .int, 2) := by decide +kernel
theorem dX10_init_74 : decode cX10_init 74 = .ok (.putfield 34, 3) := by decide +kernel
theorem dX10_init_77 : decode cX10_init 77 = .ok (.aload_n 0, 1) := by decide +kernel
theorem dX10_init_78 : decode cX10_init 78 = .ok (.sipush 31744, 3) := by decide +kernel
theorem dX10_init_81 : decode cX10_init 81 = .ok (.newarray .long, 2) := by decide +kernel
theorem dX10_init_83 : decode cX10_init 83 = .ok (.putfield 37, 3) := by decide +kernel
theorem dX10_init_86 : decode cX10_init 86 = .ok (.aload_n 0, 1) := by decide +kernel
theorem dX10_init_87 : decode cX10_init 87 = .ok (.sipush 31744, 3) := by decide +kernel
theorem dX10_init_90 : decode cX10_init 90 = .ok (.newarray .long, 2) := by decide +kernel
theorem dX10_init_92 : decode cX10_init 92 = .ok (.putfield 41, 3) := by decide +kernel
theorem dX10_init_95 : decode cX10_init 95 = .ok (.aload_n 0, 1) := by decide +kernel
theorem dX10_init_96 : decode cX10_init 96 = .ok (.sipush 1024, 3) := by decide +kernel
theorem dX10_init_99 : decode cX10_init 99 = .ok (.newarray .boolean, 2) := by decide +kernel
theorem dX10_init_101 : decode cX10_init 101 = .ok (.putfield 44, 3) := by decide +kernel
theorem dX10_init_104 : decode cX10_init 104 = .ok (.aload_n 0, 1) := by decide +kernel
theorem dX10_init_105 : decode cX10_init 105 = .ok (.sipush 1024, 3) := by decide +kernel
theorem dX10_init_108 : decode cX10_init 108 = .ok (.newarray .boolean, 2) := by decide +kernel
theorem dX10_init_110 : decode cX10_init 110 = .ok (.putfield 48, 3) := by decide +kernel
theorem dX10_init_113 : decode cX10_init 113 = .ok (.aload_n 0, 1) := by decide +kernel
theorem dX10_init_114 : decode cX10_init 114 = .ok (.sipush 1024, 3) := by decide +kernel
theorem dX10_init_117 : decode cX10_init 117 = .ok (.newarray .int, 2) := by decide +kernel
theorem dX10_init_119 : decode cX10_init 119 = .ok (.putfield 51, 3) := by decide +kernel
theorem dX10_init_122 : decode cX10_init 122 = .ok (.aload_n 0, 1) := by decide +kernel
theorem dX10_init_123 : decode cX10_init 123 = .ok (.bipush 10, 2) := by decide +kernel
theorem dX10_init_125 : decode cX10_init 125 = .ok (.newarray .int, 2) := by decide +kernel
theorem dX10_init_127 : decode cX10_init 127 = .ok (.putfield 54, 3) := by decide +kernel
theorem dX10_init_130 : decode cX10_init 130 = .ok (.aload_n 0, 1) := by decide +kernel
theorem dX10_init_131 : decode cX10_init 131 = .ok (.bipush 16, 2) := by decide +kernel
theorem dX10_init_133 : decode cX10_init 133 = .ok (.newarray .int, 2) := by decide +kernel
theorem dX10_init_135 : decode cX10_init 135 = .ok (.putfield 57, 3) := by decide +kernel
theorem dX10_init_138 : decode cX10_init 138 = .ok (.aload_n 0, 1) := by decide +kernel
theorem dX10_init_139 : decode cX10_init 139 = .ok (.bipush 84, 2) := by decide +kernel
theorem dX10_init_141 : decode cX10_init 141 = .ok (.newarray .int, 2) := by decide +kernel
theorem dX10_init_143 : decode cX10_init 143 = .ok (.putfield 60, 3) := by decide +kernel
theorem dX10_init_146 : decode cX10_init 146 = .ok (.aload_n 0, 1) := by decide +kernel
theorem dX10_init_147 : decode cX10_init 147 = .ok (.getfield 9, 3) := by decide +kernel
theorem dX10_init_150 : decode cX10_init 150 = .ok (.iconst 1, 1) := by decide +kernel
theorem dX10_init_151 : decode cX10_init 151 = .ok (.iconst 1, 1) := by decide +kernel
theorem dX10_init_152 : decode cX10_init 152 = .ok (.iastore, 1) := by decide +kernel
theorem dX10_init_153 : decode cX10_init 153 = .ok (.return_, 1) := by decide +kernel
theorem dX10_in_0 : decode cX10_in 0 = .ok (.lload_n 0, 1) := by decide +kernel
theorem dX10_in_1 : decode cX10_in 1 = .ok (.lload_n 2, 1) := by decide +kernel
theorem dX10_in_2 : decode cX10_in 2 = .ok (.lcmp, 1) := by decide +kernel
theorem dX10_in_3 : decode cX10_in 3 = .ok (.ifCond .lt 14, 3) := by decide +kernel
theorem dX10_in_6 : decode cX10_in 6 = .ok (.lload_n 0, 1) := by decide +kernel
theorem dX10_in_7 : decode cX10_in 7 = .ok (.lload 4, 2) := by decide +kernel
theorem dX10_in_9 : decode cX10_in 9 = .ok (.lcmp, 1) := by decide +kernel
theorem dX10_in_10 : decode cX10_in 10 = .ok (.ifCond .gt 7, 3) := by decide +kernel
theorem dX10_in_13 : decode cX10_in 13 = .ok (.iconst 1, 1) := by decide +kernel
theorem dX10_in_14 : decode cX10_in 14 = .ok (.goto 4, 3) := by decide +kernel
theorem dX10_in_17 : decode cX10_in 17 = .ok (.iconst 0, 1) := by decide +kernel
theorem dX10_in_18 : decode cX10_in 18 = .ok (.ireturn, 1) := by decide +kernel
theorem dX10_isPlayer_0 : decode cX10_isPlayer 0 = .ok (.iload_n 1, 1) := by decide +kernel
theorem dX10_isPlayer_1 : decode cX10_isPlayer 1 = .ok (.i2l, 1) := by decide +kernel
theorem dX10_isPlayer_2 : decode cX10_isPlayer 2 = .ok (.lconst 0, 1) := by decide +kernel
theorem dX10_isPlayer_3 : decode cX10_isPlayer 3 = .ok (.aload_n 0, 1) := by decide +kernel
theorem dX10_isPlayer_4 : decode cX10_isPlayer 4 = .ok (.getfield 9, 3) := by decide +kernel
theorem dX10_isPlayer_7 : decode cX10_isPlayer 7 = .ok (.iconst 0, 1) := by decide +kernel
theorem dX10_isPlayer_8 : decode cX10_isPlayer 8 = .ok (.iaload, 1) := by decide +kernel
theorem dX10_isPlayer_9 : decode cX10_isPlayer 9 = .ok (.iconst 1, 1) := by decide +kernel
theorem dX10_isPlayer_10 : decode cX10_isPlayer 10 = .ok (.isub, 1) := by decide +kernel
theorem dX10_isPlayer_11 : decode cX10_isPlayer 11 = .ok (.i2l, 1) := by decide +kernel
theorem dX10_isPlayer_12 : decode cX10_isPlayer 12 = .ok (.invokestatic 63, 3) := by decide +kernel
theorem dX10_isPlayer_15 : decode cX10_isPlayer 15 = .ok (.ireturn, 1) := by decide +kernel
theorem dX10_areFew_0 : decode cX10_areFew 0 = .ok (.aload_n 0, 1) := by decide +kernel
theorem dX10_areFew_1 : decode cX10_areFew 1 = .ok (.getfield 9, 3) := by decide +kernel
theorem dX10_areFew_4 : decode cX10_areFew 4 = .ok (.iconst 0, 1) := by decide +kernel
theorem dX10_areFew_5 : decode cX10_areFew 5 = .ok (.iaload, 1) := by decide +kernel
theorem dX10_areFew_6 : decode cX10_areFew 6 = .ok (.iconst 2, 1) := by decide +kernel
theorem dX10_areFew_7 : decode cX10_areFew 7 = .ok (.if_icmp .ge 7, 3) := by decide +kernel
theorem dX10_areFew_10 : decode cX10_areFew 10 = .ok (.iconst 1, 1) := by decide +kernel
theorem dX10_areFew_11 : decode cX10_areFew 11 = .ok (.goto 4, 3) := by decide +kernel
theorem dX10_areFew_14 : decode cX10_areFew 14 = .ok (.iconst 0, 1) := by decide +kernel
theorem dX10_areFew_15 : decode cX10_areFew 15 = .ok (.ireturn, 1) := by decide +kernel
theorem dX10_slots_0 : decode cX10_slots 0 = .ok (.iconst 2, 1) := by decide +kernel
theorem dX10_slots_1 : decode cX10_slots 1 = .ok (.istore_n 1, 1) := by decide +kernel
theorem dX10_slots_2 : decode cX10_slots 2 = .ok (.iload_n 1, 1) := by decide +kernel
theorem dX10_slots_3 : decode cX10_slots 3 = .ok (.aload_n 0, 1) := by decide +kernel
theorem dX10_slots_4 : decode cX10_slots 4 = .ok (.getfield 9, 3) := by decide +kernel
theorem dX10_slots_7 : decode cX10_slots 7 = .ok (.iconst 0, 1) := by decide +kernel
theorem dX10_slots_8 : decode cX10_slots 8 = .ok (.iaload, 1) := by decide +kernel
theorem dX10_slots_9 : decode cX10_slots 9 = .ok (.if_icmp .ge 10, 3) := by decide +kernel
theorem dX10_slots_12 : decode cX10_slots 12 = .ok (.iload_n 1, 1) := by decide +kernel
theorem dX10_slots_13 : decode cX10_slots 13 = .ok (.iconst 2, 1) := by decide +kernel
theorem dX10_slots_14 : decode cX10_slots 14 = .ok (.imul, 1) := by decide +kernel
theorem dX10_slots_15 : decode cX10_slots 15 = .ok (.istore_n 1, 1) := by decide +kernel
theorem dX10_slots_16 : decode cX10_slots 16 = .ok (.goto (-14), 3) := by decide +kernel
theorem dX10_slots_19 : decode cX10_slots 19 = .ok (.iload_n 1, 1) := by decide +kernel
theorem dX10_slots_20 : decode cX10_slots 20 = .ok (.ireturn, 1) := by decide +kernel
theorem dX10_lastRound_0 : decode cX10_lastRound 0 = .ok (.iconst 1, 1) := by decide +kernel
theorem dX10_lastRound_1 : decode cX10_lastRound 1 = .ok (.istore_n 1, 1) := by decide +kernel
theorem dX10_lastRound_2 : decode cX10_lastRound 2 = .ok (.iconst 1, 1) := by decide +kernel
theorem dX10_lastRound_3 : decode cX10_lastRound 3 = .ok (.iload_n 1, 1) := by decide +kernel
theorem dX10_lastRound_4 : decode cX10_lastRound 4 = .ok (.ishl, 1) := by decide +kernel
theorem dX10_lastRound_5 : decode cX10_lastRound 5 = .ok (.aload_n 0, 1) := by decide +kernel
theorem dX10_lastRound_6 : decode cX10_lastRound 6 = .ok (.getfield 9, 3) := by decide +kernel
theorem dX10_lastRound_9 : decode cX10_lastRound 9 = .ok (.iconst 0, 1) := by decide +kernel
theorem dX10_lastRound_10 : decode cX10_lastRound 10 = .ok (.iaload, 1) := by decide +kernel
theorem dX10_lastRound_11 : decode cX10_lastRound 11 = .ok (.if_icmp .ge 9, 3) := by decide +kernel
theorem dX10_lastRound_14 : decode cX10_lastRound 14 = .ok (.iinc 1 1, 3) := by decide +kernel
theorem dX10_lastRound_17 : decode cX10_lastRound 17 = .ok (.goto (-15), 3) := by decide +kernel
theorem dX10_lastRound_20 : decode cX10_lastRound 20 = .ok (.iload_n 1, 1) := by decide +kernel
theorem dX10_lastRound_21 : decode cX10_lastRound 21 = .ok (.ireturn, 1) := by decide +kernel
theorem dX10_isSlot_0 : decode cX10_isSlot 0 = .ok (.iload_n 1, 1) := by decide +kernel
theorem dX10_isSlot_1 : decode cX10_isSlot 1 = .ok (.i2l, 1) := by decide +kernel
theorem dX10_isSlot_2 : decode cX10_isSlot 2 = .ok (.lconst 0, 1) := by decide +kernel
theorem dX10_isSlot_3 : decode cX10_isSlot 3 = .ok (.aload_n 0, 1) := by decide +kernel
theorem dX10_isSlot_4 : decode cX10_isSlot 4 = .ok (.invokevirtual 67, 3) := by decide +kernel
theorem dX10_isSlot_7 : decode cX10_isSlot 7 = .ok (.iconst 1, 1) := by decide +kernel
theorem dX10_isSlot_8 : decode cX10_isSlot 8 = .ok (.isub, 1) := by decide +kernel
theorem dX10_isSlot_9 : decode cX10_isSlot 9 = .ok (.i2l, 1) := by decide +kernel
theorem dX10_isSlot_10 : decode cX10_isSlot 10 = .ok (.invokestatic 63, 3) := by decide +kernel
theorem dX10_isSlot_13 : decode cX10_isSlot 13 = .ok (.ireturn, 1) := by decide +kernel
theorem dX10_isRound_0 : decode cX10_isRound 0 = .ok (.iload_n 1, 1) := by decide +kernel
theorem dX10_isRound_1 : decode cX10_isRound 1 = .ok (.i2l, 1) := by decide +kernel
theorem dX10_isRound_2 : decode cX10_isRound 2 = .ok (.lconst 1, 1) := by decide +kernel
theorem dX10_isRound_3 : decode cX10_isRound 3 = .ok (.aload_n 0, 1) := by decide +kernel
theorem dX10_isRound_4 : decode cX10_isRound 4 = .ok (.invokevirtual 71, 3) := by decide +kernel
theorem dX10_isRound_7 : decode cX10_isRound 7 = .ok (.i2l, 1) := by decide +kernel
theorem dX10_isRound_8 : decode cX10_isRound 8 = .ok (.invokestatic 63, 3) := by decide +kernel
theorem dX10_isRound_11 : decode cX10_isRound 11 = .ok (.ireturn, 1) := by decide +kernel
theorem dX10_byes_0 : decode cX10_byes 0 = .ok (.aload_n 0, 1) := by decide +kernel
theorem dX10_byes_1 : decode cX10_byes 1 = .ok (.invokevirtual 67, 3) := by decide +kernel
theorem dX10_byes_4 : decode cX10_byes 4 = .ok (.aload_n 0, 1) := by decide +kernel
theorem dX10_byes_5 : decode cX10_byes 5 = .ok (.getfield 9, 3) := by decide +kernel
theorem dX10_byes_8 : decode cX10_byes 8 = .ok (.iconst 0, 1) := by decide +kernel
theorem dX10_byes_9 : decode cX10_byes 9 = .ok (.iaload, 1) := by decide +kernel
theorem dX10_byes_10 : decode cX10_byes 10 = .ok (.isub, 1) := by decide +kernel
theorem dX10_byes_11 : decode cX10_byes 11 = .ok (.ireturn, 1) := by decide +kernel
theorem dX10_copies_0 : decode cX10_copies 0 = .ok (.iconst 0, 1) := by decide +kernel
theorem dX10_copies_1 : decode cX10_copies 1 = .ok (.istore 4, 2) := by decide +kernel
theorem dX10_copies_3 : decode cX10_copies 3 = .ok (.iload 4, 2) := by decide +kernel
theorem dX10_copies_5 : decode cX10_copies 5 = .ok (.bipush 84, 2) := by decide +kernel
theorem dX10_copies_7 : decode cX10_copies 7 = .ok (.if_icmp .ge 21, 3) := by decide +kernel
theorem dX10_copies_10 : decode cX10_copies 10 = .ok (.aload_n 2, 1) := by decide +kernel
theorem dX10_copies_11 : decode cX10_copies 11 = .ok (.iload_n 3, 1) := by decide +kernel
theorem dX10_copies_12 : decode cX10_copies 12 = .ok (.iload 4, 2) := by decide +kernel
theorem dX10_copies_14 : decode cX10_copies 14 = .ok (.iadd, 1) := by decide +kernel
theorem dX10_copies_15 : decode cX10_copies 15 = .ok (.aload_n 0, 1) := by decide +kernel
theorem dX10_copies_16 : decode cX10_copies 16 = .ok (.iload_n 1, 1) := by decide +kernel
theorem dX10_copies_17 : decode cX10_copies 17 = .ok (.iload 4, 2) := by decide +kernel
theorem dX10_copies_19 : decode cX10_copies 19 = .ok (.iadd, 1) := by decide +kernel
theorem dX10_copies_20 : decode cX10_copies 20 = .ok (.iaload, 1) := by decide +kernel
theorem dX10_copies_21 : decode cX10_copies 21 = .ok (.iastore, 1) := by decide +kernel
theorem dX10_copies_22 : decode cX10_copies 22 = .ok (.iinc 4 1, 3) := by decide +kernel
theorem dX10_copies_25 : decode cX10_copies 25 = .ok (.goto (-22), 3) := by decide +kernel
theorem dX10_copies_28 : decode cX10_copies 28 = .ok (.return_, 1) := by decide +kernel
theorem dX10_clears_0 : decode cX10_clears 0 = .ok (.aload_n 0, 1) := by decide +kernel
theorem dX10_clears_1 : decode cX10_clears 1 = .ok (.getfield 9, 3) := by decide +kernel
theorem dX10_clears_4 : decode cX10_clears 4 = .ok (.iconst 3, 1) := by decide +kernel
theorem dX10_clears_5 : decode cX10_clears 5 = .ok (.iconst 0, 1) := by decide +kernel
theorem dX10_clears_6 : decode cX10_clears 6 = .ok (.iastore, 1) := by decide +kernel
theorem dX10_clears_7 : decode cX10_clears 7 = .ok (.aload_n 0, 1) := by decide +kernel
theorem dX10_clears_8 : decode cX10_clears 8 = .ok (.getfield 9, 3) := by decide +kernel
theorem dX10_clears_11 : decode cX10_clears 11 = .ok (.iconst 4, 1) := by decide +kernel
theorem dX10_clears_12 : decode cX10_clears 12 = .ok (.iconst 0, 1) := by decide +kernel
theorem dX10_clears_13 : decode cX10_clears 13 = .ok (.iastore, 1) := by decide +kernel
theorem dX10_clears_14 : decode cX10_clears 14 = .ok (.bipush 45, 2) := by decide +kernel
theorem dX10_clears_16 : decode cX10_clears 16 = .ok (.istore_n 1, 1) := by decide +kernel
theorem dX10_clears_17 : decode cX10_clears 17 = .ok (.iload_n 1, 1) := by decide +kernel
theorem dX10_clears_18 : decode cX10_clears 18 = .ok (.bipush 84, 2) := by decide +kernel
theorem dX10_clears_20 : decode cX10_clears 20 = .ok (.if_icmp .ge 16, 3) := by decide +kernel
theorem dX10_clears_23 : decode cX10_clears 23 = .ok (.aload_n 0, 1) := by decide +kernel
theorem dX10_clears_24 : decode cX10_clears 24 = .ok (.getfield 9, 3) := by decide +kernel
theorem dX10_clears_27 : decode cX10_clears 27 = .ok (.iload_n 1, 1) := by decide +kernel
theorem dX10_clears_28 : decode cX10_clears 28 = .ok (.iconst 0, 1) := by decide +kernel
theorem dX10_clears_29 : decode cX10_clears 29 = .ok (.iastore, 1) := by decide +kernel
theorem dX10_clears_30 : decode cX10_clears 30 = .ok (.iinc 1 1, 3) := by decide +kernel
theorem dX10_clears_33 : decode cX10_clears 33 = .ok (.goto (-16), 3) := by decide +kernel
theorem dX10_clears_36 : decode cX10_clears 36 = .ok (.return_, 1) := by decide +kernel
theorem dX10_noDraw_0 : decode cX10_noDraw 0 = .ok (.aload_n 0, 1) := by decide +kernel
theorem dX10_noDraw_1 : decode cX10_noDraw 1 = .ok (.invokevirtual 74, 3) := by decide +kernel
theorem dX10_noDraw_4 : decode cX10_noDraw 4 = .ok (.aload_n 0, 1) := by decide +kernel
theorem dX10_noDraw_5 : decode cX10_noDraw 5 = .ok (.iconst 0, 1) := by decide +kernel
theorem dX10_noDraw_6 : decode cX10_noDraw 6 = .ok (.putfield 77, 3) := by decide +kernel
theorem dX10_noDraw_9 : decode cX10_noDraw 9 = .ok (.return_, 1) := by decide +kernel
theorem dX10_changes_0 : decode cX10_changes 0 = .ok (.aload_n 0, 1) := by decide +kernel
theorem dX10_changes_1 : decode cX10_changes 1 = .ok (.getfield 81, 3) := by decide +kernel
theorem dX10_changes_4 : decode cX10_changes 4 = .ok (.bipush 10, 2) := by decide +kernel
theorem dX10_changes_6 : decode cX10_changes 6 = .ok (.if_icmp .ne 47, 3) := by decide +kernel
theorem dX10_changes_9 : decode cX10_changes 9 = .ok (.aload_n 0, 1) := by decide +kernel
theorem dX10_changes_10 : decode cX10_changes 10 = .ok (.dup, 1) := by decide +kernel
theorem dX10_changes_11 : decode cX10_changes 11 = .ok (.getfield 81, 3) := by decide +kernel
theorem dX10_changes_14 : decode cX10_changes 14 = .ok (.iconst 1, 1) := by decide +kernel
theorem dX10_changes_15 : decode cX10_changes 15 = .ok (.isub, 1) := by decide +kernel
theorem dX10_changes_16 : decode cX10_changes 16 = .ok (.putfield 81, 3) := by decide +kernel
theorem dX10_changes_19 : decode cX10_changes 19 = .ok (.iconst 0, 1) := by decide +kernel
theorem dX10_changes_20 : decode cX10_changes 20 = .ok (.istore_n 1, 1) := by decide +kernel
theorem dX10_changes_21 : decode cX10_changes 21 = .ok (.iload_n 1, 1) := by decide +kernel
theorem dX10_changes_22 : decode cX10_changes 22 = .ok (.aload_n 0, 1) := by decide +kernel
theorem dX10_changes_23 : decode cX10_changes 23 = .ok (.getfield 81, 3) := by decide +kernel
theorem dX10_changes_26 : decode cX10_changes 26 = .ok (.bipush 84, 2) := by decide +kernel
theorem dX10_changes_28 : decode cX10_changes 28 = .ok (.imul, 1) := by decide +kernel
theorem dX10_changes_29 : decode cX10_changes 29 = .ok (.if_icmp .ge 24, 3) := by decide +kernel
theorem dX10_changes_32 : decode cX10_changes 32 = .ok (.aload_n 0, 1) := by decide +kernel
theorem dX10_changes_33 : decode cX10_changes 33 = .ok (.getfield 16, 3) := by decide +kernel
theorem dX10_changes_36 : decode cX10_changes 36 = .ok (.iload_n 1, 1) := by decide +kernel
theorem dX10_changes_37 : decode cX10_changes 37 = .ok (.aload_n 0, 1) := by decide +kernel
theorem dX10_changes_38 : decode cX10_changes 38 = .ok (.getfield 16, 3) := by decide +kernel
theorem dX10_changes_41 : decode cX10_changes 41 = .ok (.iload_n 1, 1) := by decide +kernel
theorem dX10_changes_42 : decode cX10_changes 42 = .ok (.bipush 84, 2) := by decide +kernel
theorem dX10_changes_44 : decode cX10_changes 44 = .ok (.iadd, 1) := by decide +kernel
theorem dX10_changes_45 : decode cX10_changes 45 = .ok (.iaload, 1) := by decide +kernel
theorem dX10_changes_46 : decode cX10_changes 46 = .ok (.iastore, 1) := by decide +kernel
theorem dX10_changes_47 : decode cX10_changes 47 = .ok (.iinc 1 1, 3) := by decide +kernel
theorem dX10_changes_50 : decode cX10_changes 50 = .ok (.goto (-29), 3) := by decide +kernel
theorem dX10_changes_53 : decode cX10_changes 53 = .ok (.aload_n 0, 1) := by decide +kernel
theorem dX10_changes_54 : decode cX10_changes 54 = .ok (.getfield 9, 3) := by decide +kernel
theorem dX10_changes_57 : decode cX10_changes 57 = .ok (.iconst 0, 1) := by decide +kernel
theorem dX10_changes_58 : decode cX10_changes 58 = .ok (.aload_n 0, 1) := by decide +kernel
theorem dX10_changes_59 : decode cX10_changes 59 = .ok (.getfield 16, 3) := by decide +kernel
theorem dX10_changes_62 : decode cX10_changes 62 = .ok (.aload_n 0, 1) := by decide +kernel
theorem dX10_changes_63 : decode cX10_changes 63 = .ok (.getfield 81, 3) := by decide +kernel
theorem dX10_changes_66 : decode cX10_changes 66 = .ok (.bipush 84, 2) := by decide +kernel
theorem dX10_changes_68 : decode cX10_changes 68 = .ok (.imul, 1) := by decide +kernel
theorem dX10_changes_69 : decode cX10_changes 69 = .ok (.invokestatic 85, 3) := by decide +kernel
theorem dX10_changes_72 : decode cX10_changes 72 = .ok (.aload_n 0, 1) := by decide +kernel
theorem dX10_changes_73 : decode cX10_changes 73 = .ok (.dup, 1) := by decide +kernel
theorem dX10_changes_74 : decode cX10_changes 74 = .ok (.getfield 81, 3) := by decide +kernel
theorem dX10_changes_77 : decode cX10_changes 77 = .ok (.iconst 1, 1) := by decide +kernel
theorem dX10_changes_78 : decode cX10_changes 78 = .ok (.iadd, 1) := by decide +kernel
theorem dX10_changes_79 : decode cX10_changes 79 = .ok (.putfield 81, 3) := by decide +kernel
theorem dX10_changes_82 : decode cX10_changes 82 = .ok (.aload_n 0, 1) := by decide +kernel
theorem dX10_changes_83 : decode cX10_changes 83 = .ok (.iconst 0, 1) := by decide +kernel
theorem dX10_changes_84 : decode cX10_changes 84 = .ok (.putfield 89, 3) := by decide +kernel
theorem dX10_changes_87 : decode cX10_changes 87 = .ok (.return_, 1) := by decide +kernel
theorem dX10_undo_0 : decode cX10_undo 0 = .ok (.aload_n 0, 1) := by decide +kernel
theorem dX10_undo_1 : decode cX10_undo 1 = .ok (.getfield 81, 3) := by decide +kernel
theorem dX10_undo_4 : decode cX10_undo 4 = .ok (.ifCond .ne 6, 3) := by decide +kernel
theorem dX10_undo_7 : decode cX10_undo 7 = .ok (.bipush (-5), 2) := by decide +kernel
theorem dX10_undo_9 : decode cX10_undo 9 = .ok (.ireturn, 1) := by decide +kernel
theorem dX10_undo_10 : decode cX10_undo 10 = .ok (.aload_n 0, 1) := by decide +kernel
theorem dX10_undo_11 : decode cX10_undo 11 = .ok (.getfield 9, 3) := by decide +kernel
theorem dX10_undo_14 : decode cX10_undo 14 = .ok (.iconst 0, 1) := by decide +kernel
theorem dX10_undo_15 : decode cX10_undo 15 = .ok (.aload_n 0, 1) := by decide +kernel
theorem dX10_undo_16 : decode cX10_undo 16 = .ok (.getfield 19, 3) := by decide +kernel
theorem dX10_undo_19 : decode cX10_undo 19 = .ok (.aload_n 0, 1) := by decide +kernel
theorem dX10_undo_20 : decode cX10_undo 20 = .ok (.getfield 89, 3) := by decide +kernel
theorem dX10_undo_23 : decode cX10_undo 23 = .ok (.bipush 84, 2) := by decide +kernel
theorem dX10_undo_25 : decode cX10_undo 25 = .ok (.imul, 1) := by decide +kernel
theorem dX10_undo_26 : decode cX10_undo 26 = .ok (.invokestatic 85, 3) := by decide +kernel
theorem dX10_undo_29 : decode cX10_undo 29 = .ok (.aload_n 0, 1) := by decide +kernel
theorem dX10_undo_30 : decode cX10_undo 30 = .ok (.dup, 1) := by decide +kernel
theorem dX10_undo_31 : decode cX10_undo 31 = .ok (.getfield 89, 3) := by decide +kernel
theorem dX10_undo_34 : decode cX10_undo 34 = .ok (.iconst 1, 1) := by decide +kernel
theorem dX10_undo_35 : decode cX10_undo 35 = .ok (.iadd, 1) := by decide +kernel
theorem dX10_undo_36 : decode cX10_undo 36 = .ok (.putfield 89, 3) := by decide +kernel
theorem dX10_undo_39 : decode cX10_undo 39 = .ok (.aload_n 0, 1) := by decide +kernel
theorem dX10_undo_40 : decode cX10_undo 40 = .ok (.dup, 1) := by decide +kernel
theorem dX10_undo_41 : decode cX10_undo 41 = .ok (.getfield 81, 3) := by decide +kernel
theorem dX10_undo_44 : decode cX10_undo 44 = .ok (.iconst 1, 1) := by decide +kernel
theorem dX10_undo_45 : decode cX10_undo 45 = .ok (.isub, 1) := by decide +kernel
theorem dX10_undo_46 : decode cX10_undo 46 = .ok (.putfield 81, 3) := by decide +kernel
theorem dX10_undo_49 : decode cX10_undo 49 = .ok (.aload_n 0, 1) := by decide +kernel
theorem dX10_undo_50 : decode cX10_undo 50 = .ok (.getfield 16, 3) := by decide +kernel
theorem dX10_undo_53 : decode cX10_undo 53 = .ok (.aload_n 0, 1) := by decide +kernel
theorem dX10_undo_54 : decode cX10_undo 54 = .ok (.getfield 81, 3) := by decide +kernel
theorem dX10_undo_57 : decode cX10_undo 57 = .ok (.bipush 84, 2) := by decide +kernel
theorem dX10_undo_59 : decode cX10_undo 59 = .ok (.imul, 1) := by decide +kernel
theorem dX10_undo_60 : decode cX10_undo 60 = .ok (.aload_n 0, 1) := by decide +kernel
theorem dX10_undo_61 : decode cX10_undo 61 = .ok (.getfield 9, 3) := by decide +kernel
theorem dX10_undo_64 : decode cX10_undo 64 = .ok (.iconst 0, 1) := by decide +kernel
theorem dX10_undo_65 : decode cX10_undo 65 = .ok (.invokestatic 85, 3) := by decide +kernel
theorem dX10_undo_68 : decode cX10_undo 68 = .ok (.aload_n 0, 1) := by decide +kernel
theorem dX10_undo_69 : decode cX10_undo 69 = .ok (.iconst 0, 1) := by decide +kernel
theorem dX10_undo_70 : decode cX10_undo 70 = .ok (.putfield 77, 3) := by decide +kernel
theorem dX10_undo_73 : decode cX10_undo 73 = .ok (.aload_n 0, 1) := by decide +kernel
theorem dX10_undo_74 : decode cX10_undo 74 = .ok (.getfield 81, 3) := by decide +kernel
theorem dX10_undo_77 : decode cX10_undo 77 = .ok (.ireturn, 1) := by decide +kernel
theorem dX10_redo_0 : decode cX10_redo 0 = .ok (.aload_n 0, 1) := by decide +kernel
theorem dX10_redo_1 : decode cX10_redo 1 = .ok (.getfield 89, 3) := by decide +kernel
theorem dX10_redo_4 : decode cX10_redo 4 = .ok (.ifCond .ne 6, 3) := by decide +kernel
theorem dX10_redo_7 : decode cX10_redo 7 = .ok (.bipush (-5), 2) := by decide +kernel
theorem dX10_redo_9 : decode cX10_redo 9 = .ok (.ireturn, 1) := by decide +kernel
theorem dX10_redo_10 : decode cX10_redo 10 = .ok (.aload_n 0, 1) := by decide +kernel
theorem dX10_redo_11 : decode cX10_redo 11 = .ok (.getfield 9, 3) := by decide +kernel
theorem dX10_redo_14 : decode cX10_redo 14 = .ok (.iconst 0, 1) := by decide +kernel
theorem dX10_redo_15 : decode cX10_redo 15 = .ok (.aload_n 0, 1) := by decide +kernel
theorem dX10_redo_16 : decode cX10_redo 16 = .ok (.getfield 16, 3) := by decide +kernel
theorem dX10_redo_19 : decode cX10_redo 19 = .ok (.aload_n 0, 1) := by decide +kernel
theorem dX10_redo_20 : decode cX10_redo 20 = .ok (.getfield 81, 3) := by decide +kernel
theorem dX10_redo_23 : decode cX10_redo 23 = .ok (.bipush 84, 2) := by decide +kernel
theorem dX10_redo_25 : decode cX10_redo 25 = .ok (.imul, 1) := by decide +kernel
theorem dX10_redo_26 : decode cX10_redo 26 = .ok (.invokestatic 85, 3) := by decide +kernel
theorem dX10_redo_29 : decode cX10_redo 29 = .ok (.aload_n 0, 1) := by decide +kernel
theorem dX10_redo_30 : decode cX10_redo 30 = .ok (.dup, 1) := by decide +kernel
theorem dX10_redo_31 : decode cX10_redo 31 = .ok (.getfield 81, 3) := by decide +kernel
theorem dX10_redo_34 : decode cX10_redo 34 = .ok (.iconst 1, 1) := by decide +kernel
theorem dX10_redo_35 : decode cX10_redo 35 = .ok (.iadd, 1) := by decide +kernel
theorem dX10_redo_36 : decode cX10_redo 36 = .ok (.putfield 81, 3) := by decide +kernel
theorem dX10_redo_39 : decode cX10_redo 39 = .ok (.aload_n 0, 1) := by decide +kernel
theorem dX10_redo_40 : decode cX10_redo 40 = .ok (.dup, 1) := by decide +kernel
theorem dX10_redo_41 : decode cX10_redo 41 = .ok (.getfield 89, 3) := by decide +kernel
theorem dX10_redo_44 : decode cX10_redo 44 = .ok (.iconst 1, 1) := by decide +kernel
theorem dX10_redo_45 : decode cX10_redo 45 = .ok (.isub, 1) := by decide +kernel
theorem dX10_redo_46 : decode cX10_redo 46 = .ok (.putfield 89, 3) := by decide +kernel
theorem dX10_redo_49 : decode cX10_redo 49 = .ok (.aload_n 0, 1) := by decide +kernel
theorem dX10_redo_50 : decode cX10_redo 50 = .ok (.getfield 19, 3) := by decide +kernel
theorem dX10_redo_53 : decode cX10_redo 53 = .ok (.aload_n 0, 1) := by decide +kernel
theorem dX10_redo_54 : decode cX10_redo 54 = .ok (.getfield 89, 3) := by decide +kernel
theorem dX10_redo_57 : decode cX10_redo 57 = .ok (.bipush 84, 2) := by decide +kernel
theorem dX10_redo_59 : decode cX10_redo 59 = .ok (.imul, 1) := by decide +kernel
theorem dX10_redo_60 : decode cX10_redo 60 = .ok (.aload_n 0, 1) := by decide +kernel
theorem dX10_redo_61 : decode cX10_redo 61 = .ok (.getfield 9, 3) := by decide +kernel
theorem dX10_redo_64 : decode cX10_redo 64 = .ok (.iconst 0, 1) := by decide +kernel
theorem dX10_redo_65 : decode cX10_redo 65 = .ok (.invokestatic 85, 3) := by decide +kernel
theorem dX10_redo_68 : decode cX10_redo 68 = .ok (.aload_n 0, 1) := by decide +kernel
theorem dX10_redo_69 : decode cX10_redo 69 = .ok (.iconst 0, 1) := by decide +kernel
theorem dX10_redo_70 : decode cX10_redo 70 = .ok (.putfield 77, 3) := by decide +kernel
theorem dX10_redo_73 : decode cX10_redo 73 = .ok (.aload_n 0, 1) := by decide +kernel
theorem dX10_redo_74 : decode cX10_redo 74 = .ok (.getfield 89, 3) := by decide +kernel
theorem dX10_redo_77 : decode cX10_redo 77 = .ok (.ireturn, 1) := by decide +kernel
theorem dX10_image_0 : decode cX10_image 0 = .ok (.aload_n 0, 1) := by decide +kernel
theorem dX10_image_1 : decode cX10_image 1 = .ok (.getfield 9, 3) := by decide +kernel
theorem dX10_image_4 : decode cX10_image 4 = .ok (.iconst 0, 1) := by decide +kernel
theorem dX10_image_5 : decode cX10_image 5 = .ok (.aload_n 0, 1) := by decide +kernel
theorem dX10_image_6 : decode cX10_image 6 = .ok (.getfield 13, 3) := by decide +kernel
theorem dX10_image_9 : decode cX10_image 9 = .ok (.iconst 0, 1) := by decide +kernel
theorem dX10_image_10 : decode cX10_image 10 = .ok (.invokestatic 85, 3) := by decide +kernel
theorem dX10_image_13 : decode cX10_image 13 = .ok (.aload_n 0, 1) := by decide +kernel
theorem dX10_image_14 : decode cX10_image 14 = .ok (.iconst 1, 1) := by decide +kernel
theorem dX10_image_15 : decode cX10_image 15 = .ok (.putfield 92, 3) := by decide +kernel
theorem dX10_image_18 : decode cX10_image 18 = .ok (.aload_n 0, 1) := by decide +kernel
theorem dX10_image_19 : decode cX10_image 19 = .ok (.getfield 9, 3) := by decide +kernel
theorem dX10_image_22 : decode cX10_image 22 = .ok (.iconst 0, 1) := by decide +kernel
theorem dX10_image_23 : decode cX10_image 23 = .ok (.iaload, 1) := by decide +kernel
theorem dX10_image_24 : decode cX10_image 24 = .ok (.ireturn, 1) := by decide +kernel
theorem dX10_back_0 : decode cX10_back 0 = .ok (.aload_n 0, 1) := by decide +kernel
theorem dX10_back_1 : decode cX10_back 1 = .ok (.getfield 92, 3) := by decide +kernel
theorem dX10_back_4 : decode cX10_back 4 = .ok (.ifCond .ne 6, 3) := by decide +kernel
theorem dX10_back_7 : decode cX10_back 7 = .ok (.bipush (-5), 2) := by decide +kernel
theorem dX10_back_9 : decode cX10_back 9 = .ok (.ireturn, 1) := by decide +kernel
theorem dX10_back_10 : decode cX10_back 10 = .ok (.aload_n 0, 1) := by decide +kernel
theorem dX10_back_11 : decode cX10_back 11 = .ok (.getfield 13, 3) := by decide +kernel
theorem dX10_back_14 : decode cX10_back 14 = .ok (.iconst 0, 1) := by decide +kernel
theorem dX10_back_15 : decode cX10_back 15 = .ok (.aload_n 0, 1) := by decide +kernel
theorem dX10_back_16 : decode cX10_back 16 = .ok (.getfield 9, 3) := by decide +kernel
theorem dX10_back_19 : decode cX10_back 19 = .ok (.iconst 0, 1) := by decide +kernel
theorem dX10_back_20 : decode cX10_back 20 = .ok (.invokestatic 85, 3) := by decide +kernel
theorem dX10_back_23 : decode cX10_back 23 = .ok (.aload_n 0, 1) := by decide +kernel
theorem dX10_back_24 : decode cX10_back 24 = .ok (.iconst 0, 1) := by decide +kernel
theorem dX10_back_25 : decode cX10_back 25 = .ok (.putfield 81, 3) := by decide +kernel
theorem dX10_back_28 : decode cX10_back 28 = .ok (.aload_n 0, 1) := by decide +kernel
theorem dX10_back_29 : decode cX10_back 29 = .ok (.iconst 0, 1) := by decide +kernel
theorem dX10_back_30 : decode cX10_back 30 = .ok (.putfield 89, 3) := by decide +kernel
theorem dX10_back_33 : decode cX10_back 33 = .ok (.aload_n 0, 1) := by decide +kernel
theorem dX10_back_34 : decode cX10_back 34 = .ok (.iconst 0, 1) := by decide +kernel
theorem dX10_back_35 : decode cX10_back 35 = .ok (.putfield 77, 3) := by decide +kernel
theorem dX10_back_38 : decode cX10_back 38 = .ok (.aload_n 0, 1) := by decide +kernel
theorem dX10_back_39 : decode cX10_back 39 = .ok (.getfield 9, 3) := by decide +kernel
theorem dX10_back_42 : decode cX10_back 42 = .ok (.iconst 0, 1) := by decide +kernel
theorem dX10_back_43 : decode cX10_back 43 = .ok (.iaload, 1) := by decide +kernel
theorem dX10_back_44 : decode cX10_back 44 = .ok (.ireturn, 1) := by decide +kernel
theorem dX10_hasSeed_0 : decode cX10_hasSeed 0 = .ok (.iconst 0, 1) := by decide +kernel
theorem dX10_hasSeed_1 : decode cX10_hasSeed 1 = .ok (.istore_n 3, 1) := by decide +kernel
theorem dX10_hasSeed_2 : decode cX10_hasSeed 2 = .ok (.iconst 0, 1) := by decide +kernel
theorem dX10_hasSeed_3 : decode cX10_hasSeed 3 = .ok (.istore 4, 2) := by decide +kernel
theorem dX10_hasSeed_5 : decode cX10_hasSeed 5 = .ok (.iload 4, 2) := by decide +kernel
theorem dX10_hasSeed_7 : decode cX10_hasSeed 7 = .ok (.aload_n 0, 1) := by decide +kernel
theorem dX10_hasSeed_8 : decode cX10_hasSeed 8 = .ok (.getfield 9, 3) := by decide +kernel
theorem dX10_hasSeed_11 : decode cX10_hasSeed 11 = .ok (.iconst 0, 1) := by decide +kernel
theorem dX10_hasSeed_12 : decode cX10_hasSeed 12 = .ok (.iaload, 1) := by decide +kernel
theorem dX10_hasSeed_13 : decode cX10_hasSeed 13 = .ok (.if_icmp .ge 39, 3) := by decide +kernel
theorem dX10_hasSeed_16 : decode cX10_hasSeed 16 = .ok (.iload_n 3, 1) := by decide +kernel
theorem dX10_hasSeed_17 : decode cX10_hasSeed 17 = .ok (.ifCond .ne 23, 3) := by decide +kernel
theorem dX10_hasSeed_20 : decode cX10_hasSeed 20 = .ok (.iload 4, 2) := by decide +kernel
theorem dX10_hasSeed_22 : decode cX10_hasSeed 22 = .ok (.iload_n 2, 1) := by decide +kernel
theorem dX10_hasSeed_23 : decode cX10_hasSeed 23 = .ok (.if_icmp .eq 21, 3) := by decide +kernel
theorem dX10_hasSeed_26 : decode cX10_hasSeed 26 = .ok (.aload_n 0, 1) := by decide +kernel
theorem dX10_hasSeed_27 : decode cX10_hasSeed 27 = .ok (.getfield 9, 3) := by decide +kernel
theorem dX10_hasSeed_30 : decode cX10_hasSeed 30 = .ok (.bipush 25, 2) := by decide +kernel
theorem dX10_hasSeed_32 : decode cX10_hasSeed 32 = .ok (.iload 4, 2) := by decide +kernel
theorem dX10_hasSeed_34 : decode cX10_hasSeed 34 = .ok (.iadd, 1) := by decide +kernel
theorem dX10_hasSeed_35 : decode cX10_hasSeed 35 = .ok (.iaload, 1) := by decide +kernel
theorem dX10_hasSeed_36 : decode cX10_hasSeed 36 = .ok (.iload_n 1, 1) := by decide +kernel
theorem dX10_hasSeed_37 : decode cX10_hasSeed 37 = .ok (.if_icmp .ne 7, 3) := by decide +kernel
theorem dX10_hasSeed_40 : decode cX10_hasSeed 40 = .ok (.iconst 1, 1) := by decide +kernel
theorem dX10_hasSeed_41 : decode cX10_hasSeed 41 = .ok (.goto 4, 3) := by decide +kernel
theorem dX10_hasSeed_44 : decode cX10_hasSeed 44 = .ok (.iconst 0, 1) := by decide +kernel
theorem dX10_hasSeed_45 : decode cX10_hasSeed 45 = .ok (.istore_n 3, 1) := by decide +kernel
theorem dX10_hasSeed_46 : decode cX10_hasSeed 46 = .ok (.iinc 4 1, 3) := by decide +kernel
theorem dX10_hasSeed_49 : decode cX10_hasSeed 49 = .ok (.goto (-44), 3) := by decide +kernel
theorem dX10_hasSeed_52 : decode cX10_hasSeed 52 = .ok (.iload_n 3, 1) := by decide +kernel
theorem dX10_hasSeed_53 : decode cX10_hasSeed 53 = .ok (.ifCond .eq 11, 3) := by decide +kernel
theorem dX10_hasSeed_56 : decode cX10_hasSeed 56 = .ok (.iload_n 1, 1) := by decide +kernel
theorem dX10_hasSeed_57 : decode cX10_hasSeed 57 = .ok (.ifCond .le 7, 3) := by decide +kernel
theorem dX10_hasSeed_60 : decode cX10_hasSeed 60 = .ok (.iconst 1, 1) := by decide +kernel
theorem dX10_hasSeed_61 : decode cX10_hasSeed 61 = .ok (.goto 4, 3) := by decide +kernel
theorem dX10_hasSeed_64 : decode cX10_hasSeed 64 = .ok (.iconst 0, 1) := by decide +kernel
theorem dX10_hasSeed_65 : decode cX10_hasSeed 65 = .ok (.ireturn, 1) := by decide +kernel
theorem dX10_comes_0 : decode cX10_comes 0 = .ok (.aload_n 0, 1) := by decide +kernel
theorem dX10_comes_1 : decode cX10_comes 1 = .ok (.getfield 9, 3) := by decide +kernel
theorem dX10_comes_4 : decode cX10_comes 4 = .ok (.iconst 0, 1) := by decide +kernel
theorem dX10_comes_5 : decode cX10_comes 5 = .ok (.iaload, 1) := by decide +kernel
theorem dX10_comes_6 : decode cX10_comes 6 = .ok (.istore 5, 2) := by decide +kernel
theorem dX10_comes_8 : decode cX10_comes 8 = .ok (.aload_n 0, 1) := by decide +kernel
theorem dX10_comes_9 : decode cX10_comes 9 = .ok (.getfield 9, 3) := by decide +kernel
theorem dX10_comes_12 : decode cX10_comes 12 = .ok (.iconst 5, 1) := by decide +kernel
theorem dX10_comes_13 : decode cX10_comes 13 = .ok (.iload 5, 2) := by decide +kernel
theorem dX10_comes_15 : decode cX10_comes 15 = .ok (.iadd, 1) := by decide +kernel
theorem dX10_comes_16 : decode cX10_comes 16 = .ok (.iload_n 1, 1) := by decide +kernel
theorem dX10_comes_17 : decode cX10_comes 17 = .ok (.iastore, 1) := by decide +kernel
theorem dX10_comes_18 : decode cX10_comes 18 = .ok (.aload_n 0, 1) := by decide +kernel
theorem dX10_comes_19 : decode cX10_comes 19 = .ok (.getfield 9, 3) := by decide +kernel
theorem dX10_comes_22 : decode cX10_comes 22 = .ok (.bipush 15, 2) := by decide +kernel
theorem dX10_comes_24 : decode cX10_comes 24 = .ok (.iload 5, 2) := by decide +kernel
theorem dX10_comes_26 : decode cX10_comes 26 = .ok (.iadd, 1) := by decide +kernel
theorem dX10_comes_27 : decode cX10_comes 27 = .ok (.iload_n 2, 1) := by decide +kernel
theorem dX10_comes_28 : decode cX10_comes 28 = .ok (.iastore, 1) := by decide +kernel
theorem dX10_comes_29 : decode cX10_comes 29 = .ok (.aload_n 0, 1) := by decide +kernel
theorem dX10_comes_30 : decode cX10_comes 30 = .ok (.getfield 9, 3) := by decide +kernel
theorem dX10_comes_33 : decode cX10_comes 33 = .ok (.bipush 25, 2) := by decide +kernel
theorem dX10_comes_35 : decode cX10_comes 35 = .ok (.iload 5, 2) := by decide +kernel
theorem dX10_comes_37 : decode cX10_comes 37 = .ok (.iadd, 1) := by decide +kernel
theorem dX10_comes_38 : decode cX10_comes 38 = .ok (.iload_n 3, 1) := by decide +kernel
theorem dX10_comes_39 : decode cX10_comes 39 = .ok (.iastore, 1) := by decide +kernel
theorem dX10_comes_40 : decode cX10_comes 40 = .ok (.aload_n 0, 1) := by decide +kernel
theorem dX10_comes_41 : decode cX10_comes 41 = .ok (.getfield 9, 3) := by decide +kernel
theorem dX10_comes_44 : decode cX10_comes 44 = .ok (.bipush 35, 2) := by decide +kernel
theorem dX10_comes_46 : decode cX10_comes 46 = .ok (.iload 5, 2) := by decide +kernel
theorem dX10_comes_48 : decode cX10_comes 48 = .ok (.iadd, 1) := by decide +kernel
theorem dX10_comes_49 : decode cX10_comes 49 = .ok (.iload 4, 2) := by decide +kernel
theorem dX10_comes_51 : decode cX10_comes 51 = .ok (.iastore, 1) := by decide +kernel
theorem dX10_comes_52 : decode cX10_comes 52 = .ok (.aload_n 0, 1) := by decide +kernel
theorem dX10_comes_53 : decode cX10_comes 53 = .ok (.getfield 9, 3) := by decide +kernel
theorem dX10_comes_56 : decode cX10_comes 56 = .ok (.iconst 0, 1) := by decide +kernel
theorem dX10_comes_57 : decode cX10_comes 57 = .ok (.dup2, 1) := by decide +kernel
theorem dX10_comes_58 : decode cX10_comes 58 = .ok (.iaload, 1) := by decide +kernel
theorem dX10_comes_59 : decode cX10_comes 59 = .ok (.iconst 1, 1) := by decide +kernel
theorem dX10_comes_60 : decode cX10_comes 60 = .ok (.iadd, 1) := by decide +kernel
theorem dX10_comes_61 : decode cX10_comes 61 = .ok (.iastore, 1) := by decide +kernel
theorem dX10_comes_62 : decode cX10_comes 62 = .ok (.aload_n 0, 1) := by decide +kernel
theorem dX10_comes_63 : decode cX10_comes 63 = .ok (.invokevirtual 95, 3) := by decide +kernel
theorem dX10_comes_66 : decode cX10_comes 66 = .ok (.aload_n 0, 1) := by decide +kernel
theorem dX10_comes_67 : decode cX10_comes 67 = .ok (.iconst 0, 1) := by decide +kernel
theorem dX10_comes_68 : decode cX10_comes 68 = .ok (.putfield 81, 3) := by decide +kernel
theorem dX10_comes_71 : decode cX10_comes 71 = .ok (.aload_n 0, 1) := by decide +kernel
theorem dX10_comes_72 : decode cX10_comes 72 = .ok (.iconst 0, 1) := by decide +kernel
theorem dX10_comes_73 : decode cX10_comes 73 = .ok (.putfield 89, 3) := by decide +kernel
theorem dX10_comes_76 : decode cX10_comes 76 = .ok (.return_, 1) := by decide +kernel
theorem dX10_player_0 : decode cX10_player 0 = .ok (.iload_n 1, 1) := by decide +kernel
theorem dX10_player_1 : decode cX10_player 1 = .ok (.i2l, 1) := by decide +kernel
theorem dX10_player_2 : decode cX10_player 2 = .ok (.lconst 0, 1) := by decide +kernel
theorem dX10_player_3 : decode cX10_player 3 = .ok (.ldc2_w 98, 3) := by decide +kernel
theorem dX10_player_6 : decode cX10_player 6 = .ok (.invokestatic 63, 3) := by decide +kernel
theorem dX10_player_9 : decode cX10_player 9 = .ok (.ifCond .eq 50, 3) := by decide +kernel
theorem dX10_player_12 : decode cX10_player 12 = .ok (.iload_n 2, 1) := by decide +kernel
theorem dX10_player_13 : decode cX10_player 13 = .ok (.i2l, 1) := by decide +kernel
theorem dX10_player_14 : decode cX10_player 14 = .ok (.lconst 0, 1) := by decide +kernel
theorem dX10_player_15 : decode cX10_player 15 = .ok (.ldc2_w 100, 3) := by decide +kernel
theorem dX10_player_18 : decode cX10_player 18 = .ok (.invokestatic 63, 3) := by decide +kernel
theorem dX10_player_21 : decode cX10_player 21 = .ok (.ifCond .eq 38, 3) := by decide +kernel
theorem dX10_player_24 : decode cX10_player 24 = .ok (.iload_n 3, 1) := by decide +kernel
theorem dX10_player_25 : decode cX10_player 25 = .ok (.i2l, 1) := by decide +kernel
theorem dX10_player_26 : decode cX10_player 26 = .ok (.lconst 0, 1) := by decide +kernel
theorem dX10_player_27 : decode cX10_player 27 = .ok (.ldc2_w 102, 3) := by decide +kernel
theorem dX10_player_30 : decode cX10_player 30 = .ok (.invokestatic 63, 3) := by decide +kernel
theorem dX10_player_33 : decode cX10_player 33 = .ok (.ifCond .eq 26, 3) := by decide +kernel
theorem dX10_player_36 : decode cX10_player 36 = .ok (.iload 4, 2) := by decide +kernel
theorem dX10_player_38 : decode cX10_player 38 = .ok (.i2l, 1) := by decide +kernel
theorem dX10_player_39 : decode cX10_player 39 = .ok (.lconst 0, 1) := by decide +kernel
theorem dX10_player_40 : decode cX10_player 40 = .ok (.ldc2_w 104, 3) := by decide +kernel
theorem dX10_player_43 : decode cX10_player 43 = .ok (.invokestatic 63, 3) := by decide +kernel
theorem dX10_player_46 : decode cX10_player 46 = .ok (.ifCond .eq 13, 3) := by decide +kernel
theorem dX10_player_49 : decode cX10_player 49 = .ok (.aload_n 0, 1) := by decide +kernel
theorem dX10_player_50 : decode cX10_player 50 = .ok (.iload_n 3, 1) := by decide +kernel
theorem dX10_player_51 : decode cX10_player 51 = .ok (.bipush (-2), 2) := by decide +kernel
theorem dX10_player_53 : decode cX10_player 53 = .ok (.invokevirtual 106, 3) := by decide +kernel
theorem dX10_player_56 : decode cX10_player 56 = .ok (.ifCond .eq 5, 3) := by decide +kernel
theorem dX10_player_59 : decode cX10_player 59 = .ok (.iconst (-1), 1) := by decide +kernel
theorem dX10_player_60 : decode cX10_player 60 = .ok (.ireturn, 1) := by decide +kernel
theorem dX10_player_61 : decode cX10_player 61 = .ok (.aload_n 0, 1) := by decide +kernel
theorem dX10_player_62 : decode cX10_player 62 = .ok (.getfield 9, 3) := by decide +kernel
theorem dX10_player_65 : decode cX10_player 65 = .ok (.iconst 0, 1) := by decide +kernel
theorem dX10_player_66 : decode cX10_player 66 = .ok (.iaload, 1) := by decide +kernel
theorem dX10_player_67 : decode cX10_player 67 = .ok (.bipush 10, 2) := by decide +kernel
theorem dX10_player_69 : decode cX10_player 69 = .ok (.if_icmp .ne 6, 3) := by decide +kernel
theorem dX10_player_72 : decode cX10_player 72 = .ok (.bipush (-3), 2) := by decide +kernel
theorem dX10_player_74 : decode cX10_player 74 = .ok (.ireturn, 1) := by decide +kernel
theorem dX10_player_75 : decode cX10_player 75 = .ok (.aload_n 0, 1) := by decide +kernel
theorem dX10_player_76 : decode cX10_player 76 = .ok (.iload_n 1, 1) := by decide +kernel
theorem dX10_player_77 : decode cX10_player 77 = .ok (.iload_n 2, 1) := by decide +kernel
theorem dX10_player_78 : decode cX10_player 78 = .ok (.iload_n 3, 1) := by decide +kernel
theorem dX10_player_79 : decode cX10_player 79 = .ok (.iload 4, 2) := by decide +kernel
theorem dX10_player_81 : decode cX10_player 81 = .ok (.invokevirtual 110, 3) := by decide +kernel
theorem dX10_player_84 : decode cX10_player 84 = .ok (.aload_n 0, 1) := by decide +kernel
theorem dX10_player_85 : decode cX10_player 85 = .ok (.getfield 9, 3) := by decide +kernel
theorem dX10_player_88 : decode cX10_player 88 = .ok (.iconst 0, 1) := by decide +kernel
theorem dX10_player_89 : decode cX10_player 89 = .ok (.iaload, 1) := by decide +kernel
theorem dX10_player_90 : decode cX10_player 90 = .ok (.iconst 1, 1) := by decide +kernel
theorem dX10_player_91 : decode cX10_player 91 = .ok (.isub, 1) := by decide +kernel
theorem dX10_player_92 : decode cX10_player 92 = .ok (.ireturn, 1) := by decide +kernel
theorem dX10_placeOf_0 : decode cX10_placeOf 0 = .ok (.iload_n 0, 1) := by decide +kernel
theorem dX10_placeOf_1 : decode cX10_placeOf 1 = .ok (.ifCond .ne 7, 3) := by decide +kernel
theorem dX10_placeOf_4 : decode cX10_placeOf 4 = .ok (.iconst 5, 1) := by decide +kernel
theorem dX10_placeOf_5 : decode cX10_placeOf 5 = .ok (.goto 25, 3) := by decide +kernel
theorem dX10_placeOf_8 : decode cX10_placeOf 8 = .ok (.iload_n 0, 1) := by decide +kernel
theorem dX10_placeOf_9 : decode cX10_placeOf 9 = .ok (.iconst 1, 1) := by decide +kernel
theorem dX10_placeOf_10 : decode cX10_placeOf 10 = .ok (.if_icmp .ne 8, 3) := by decide +kernel
theorem dX10_placeOf_13 : decode cX10_placeOf 13 = .ok (.bipush 15, 2) := by decide +kernel
theorem dX10_placeOf_15 : decode cX10_placeOf 15 = .ok (.goto 15, 3) := by decide +kernel
theorem dX10_placeOf_18 : decode cX10_placeOf 18 = .ok (.iload_n 0, 1) := by decide +kernel
theorem dX10_placeOf_19 : decode cX10_placeOf 19 = .ok (.iconst 2, 1) := by decide +kernel
theorem dX10_placeOf_20 : decode cX10_placeOf 20 = .ok (.if_icmp .ne 8, 3) := by decide +kernel
theorem dX10_placeOf_23 : decode cX10_placeOf 23 = .ok (.bipush 25, 2) := by decide +kernel
theorem dX10_placeOf_25 : decode cX10_placeOf 25 = .ok (.goto 5, 3) := by decide +kernel
theorem dX10_placeOf_28 : decode cX10_placeOf 28 = .ok (.bipush 35, 2) := by decide +kernel
theorem dX10_placeOf_30 : decode cX10_placeOf 30 = .ok (.ireturn, 1) := by decide +kernel
theorem dX10_mostOf_0 : decode cX10_mostOf 0 = .ok (.iload_n 0, 1) := by decide +kernel
theorem dX10_mostOf_1 : decode cX10_mostOf 1 = .ok (.ifCond .ne 7, 3) := by decide +kernel
theorem dX10_mostOf_4 : decode cX10_mostOf 4 = .ok (.iconst 5, 1) := by decide +kernel
theorem dX10_mostOf_5 : decode cX10_mostOf 5 = .ok (.goto 24, 3) := by decide +kernel
theorem dX10_mostOf_8 : decode cX10_mostOf 8 = .ok (.iload_n 0, 1) := by decide +kernel
theorem dX10_mostOf_9 : decode cX10_mostOf 9 = .ok (.iconst 1, 1) := by decide +kernel
theorem dX10_mostOf_10 : decode cX10_mostOf 10 = .ok (.if_icmp .ne 7, 3) := by decide +kernel
theorem dX10_mostOf_13 : decode cX10_mostOf 13 = .ok (.iconst 3, 1) := by decide +kernel
theorem dX10_mostOf_14 : decode cX10_mostOf 14 = .ok (.goto 15, 3) := by decide +kernel
theorem dX10_mostOf_17 : decode cX10_mostOf 17 = .ok (.iload_n 0, 1) := by decide +kernel
theorem dX10_mostOf_18 : decode cX10_mostOf 18 = .ok (.iconst 2, 1) := by decide +kernel
theorem dX10_mostOf_19 : decode cX10_mostOf 19 = .ok (.if_icmp .ne 8, 3) := by decide +kernel
theorem dX10_mostOf_22 : decode cX10_mostOf 22 = .ok (.bipush 8, 2) := by decide +kernel
theorem dX10_mostOf_24 : decode cX10_mostOf 24 = .ok (.goto 5, 3) := by decide +kernel
theorem dX10_mostOf_27 : decode cX10_mostOf 27 = .ok (.bipush 99, 2) := by decide +kernel
theorem dX10_mostOf_29 : decode cX10_mostOf 29 = .ok (.ireturn, 1) := by decide +kernel
theorem dX10_tell_0 : decode cX10_tell 0 = .ok (.aload_n 0, 1) := by decide +kernel
theorem dX10_tell_1 : decode cX10_tell 1 = .ok (.iload_n 1, 1) := by decide +kernel
theorem dX10_tell_2 : decode cX10_tell 2 = .ok (.invokevirtual 114, 3) := by decide +kernel
theorem dX10_tell_5 : decode cX10_tell 5 = .ok (.ifCond .eq 43, 3) := by decide +kernel
theorem dX10_tell_8 : decode cX10_tell 8 = .ok (.iload_n 2, 1) := by decide +kernel
theorem dX10_tell_9 : decode cX10_tell 9 = .ok (.i2l, 1) := by decide +kernel
theorem dX10_tell_10 : decode cX10_tell 10 = .ok (.lconst 0, 1) := by decide +kernel
theorem dX10_tell_11 : decode cX10_tell 11 = .ok (.ldc2_w 100, 3) := by decide +kernel
theorem dX10_tell_14 : decode cX10_tell 14 = .ok (.invokestatic 63, 3) := by decide +kernel
theorem dX10_tell_17 : decode cX10_tell 17 = .ok (.ifCond .eq 31, 3) := by decide +kernel
theorem dX10_tell_20 : decode cX10_tell 20 = .ok (.iload_n 3, 1) := by decide +kernel
theorem dX10_tell_21 : decode cX10_tell 21 = .ok (.i2l, 1) := by decide +kernel
theorem dX10_tell_22 : decode cX10_tell 22 = .ok (.lconst 0, 1) := by decide +kernel
theorem dX10_tell_23 : decode cX10_tell 23 = .ok (.iload_n 2, 1) := by decide +kernel
theorem dX10_tell_24 : decode cX10_tell 24 = .ok (.invokestatic 118, 3) := by decide +kernel
theorem dX10_tell_27 : decode cX10_tell 27 = .ok (.i2l, 1) := by decide +kernel
theorem dX10_tell_28 : decode cX10_tell 28 = .ok (.invokestatic 63, 3) := by decide +kernel
theorem dX10_tell_31 : decode cX10_tell 31 = .ok (.ifCond .eq 17, 3) := by decide +kernel
theorem dX10_tell_34 : decode cX10_tell 34 = .ok (.iload_n 2, 1) := by decide +kernel
theorem dX10_tell_35 : decode cX10_tell 35 = .ok (.iconst 2, 1) := by decide +kernel
theorem dX10_tell_36 : decode cX10_tell 36 = .ok (.if_icmp .ne 14, 3) := by decide +kernel
theorem dX10_tell_39 : decode cX10_tell 39 = .ok (.aload_n 0, 1) := by decide +kernel
theorem dX10_tell_40 : decode cX10_tell 40 = .ok (.iload_n 3, 1) := by decide +kernel
theorem dX10_tell_41 : decode cX10_tell 41 = .ok (.iload_n 1, 1) := by decide +kernel
theorem dX10_tell_42 : decode cX10_tell 42 = .ok (.invokevirtual 106, 3) := by decide +kernel
theorem dX10_tell_45 : decode cX10_tell 45 = .ok (.ifCond .eq 5, 3) := by decide +kernel
theorem dX10_tell_48 : decode cX10_tell 48 = .ok (.iconst (-1), 1) := by decide +kernel
theorem dX10_tell_49 : decode cX10_tell 49 = .ok (.ireturn, 1) := by decide +kernel
theorem dX10_tell_50 : decode cX10_tell 50 = .ok (.aload_n 0, 1) := by decide +kernel
theorem dX10_tell_51 : decode cX10_tell 51 = .ok (.invokevirtual 122, 3) := by decide +kernel
theorem dX10_tell_54 : decode cX10_tell 54 = .ok (.iload_n 2, 1) := by decide +kernel
theorem dX10_tell_55 : decode cX10_tell 55 = .ok (.invokestatic 125, 3) := by decide +kernel
theorem dX10_tell_58 : decode cX10_tell 58 = .ok (.iload_n 1, 1) := by decide +kernel
theorem dX10_tell_59 : decode cX10_tell 59 = .ok (.iadd, 1) := by decide +kernel
theorem dX10_tell_60 : decode cX10_tell 60 = .ok (.istore 4, 2) := by decide +kernel
theorem dX10_tell_62 : decode cX10_tell 62 = .ok (.aload_n 0, 1) := by decide +kernel
theorem dX10_tell_63 : decode cX10_tell 63 = .ok (.getfield 9, 3) := by decide +kernel
theorem dX10_tell_66 : decode cX10_tell 66 = .ok (.iload 4, 2) := by decide +kernel
theorem dX10_tell_68 : decode cX10_tell 68 = .ok (.iaload, 1) := by decide +kernel
theorem dX10_tell_69 : decode cX10_tell 69 = .ok (.istore 5, 2) := by decide +kernel
theorem dX10_tell_71 : decode cX10_tell 71 = .ok (.aload_n 0, 1) := by decide +kernel
theorem dX10_tell_72 : decode cX10_tell 72 = .ok (.getfield 9, 3) := by decide +kernel
theorem dX10_tell_75 : decode cX10_tell 75 = .ok (.iload 4, 2) := by decide +kernel
theorem dX10_tell_77 : decode cX10_tell 77 = .ok (.iload_n 3, 1) := by decide +kernel
theorem dX10_tell_78 : decode cX10_tell 78 = .ok (.iastore, 1) := by decide +kernel
theorem dX10_tell_79 : decode cX10_tell 79 = .ok (.iload_n 2, 1) := by decide +kernel
theorem dX10_tell_80 : decode cX10_tell 80 = .ok (.iconst 3, 1) := by decide +kernel
theorem dX10_tell_81 : decode cX10_tell 81 = .ok (.if_icmp .ge 7, 3) := by decide +kernel
theorem dX10_tell_84 : decode cX10_tell 84 = .ok (.aload_n 0, 1) := by decide +kernel
theorem dX10_tell_85 : decode cX10_tell 85 = .ok (.invokevirtual 95, 3) := by decide +kernel
theorem dX10_tell_88 : decode cX10_tell 88 = .ok (.iload 5, 2) := by decide +kernel
theorem dX10_tell_90 : decode cX10_tell 90 = .ok (.ireturn, 1) := by decide +kernel
theorem dX10_of_0 : decode cX10_of 0 = .ok (.aload_n 0, 1) := by decide +kernel
theorem dX10_of_1 : decode cX10_of 1 = .ok (.iload_n 1, 1) := by decide +kernel
theorem dX10_of_2 : decode cX10_of 2 = .ok (.invokevirtual 114, 3) := by decide +kernel
theorem dX10_of_5 : decode cX10_of 5 = .ok (.ifCond .eq 15, 3) := by decide +kernel
theorem dX10_of_8 : decode cX10_of 8 = .ok (.iload_n 2, 1) := by decide +kernel
theorem dX10_of_9 : decode cX10_of 9 = .ok (.i2l, 1) := by decide +kernel
theorem dX10_of_10 : decode cX10_of 10 = .ok (.lconst 0, 1) := by decide +kernel
theorem dX10_of_11 : decode cX10_of 11 = .ok (.ldc2_w 128, 3) := by decide +kernel
theorem dX10_of_14 : decode cX10_of 14 = .ok (.invokestatic 63, 3) := by decide +kernel
theorem dX10_of_17 : decode cX10_of 17 = .ok (.ifCond .ne 5, 3) := by decide +kernel
theorem dX10_of_20 : decode cX10_of 20 = .ok (.iconst (-1), 1) := by decide +kernel
theorem dX10_of_21 : decode cX10_of 21 = .ok (.ireturn, 1) := by decide +kernel
theorem dX10_of_22 : decode cX10_of 22 = .ok (.iload_n 2, 1) := by decide +kernel
theorem dX10_of_23 : decode cX10_of 23 = .ok (.iconst 4, 1) := by decide +kernel
theorem dX10_of_24 : decode cX10_of 24 = .ok (.if_icmp .ge 17, 3) := by decide +kernel
theorem dX10_of_27 : decode cX10_of 27 = .ok (.aload_n 0, 1) := by decide +kernel
theorem dX10_of_28 : decode cX10_of 28 = .ok (.getfield 9, 3) := by decide +kernel
theorem dX10_of_31 : decode cX10_of 31 = .ok (.iload_n 2, 1) := by decide +kernel
theorem dX10_of_32 : decode cX10_of 32 = .ok (.invokestatic 125, 3) := by decide +kernel
theorem dX10_of_35 : decode cX10_of 35 = .ok (.iload_n 1, 1) := by decide +kernel
theorem dX10_of_36 : decode cX10_of 36 = .ok (.iadd, 1) := by decide +kernel
theorem dX10_of_37 : decode cX10_of 37 = .ok (.iaload, 1) := by decide +kernel
theorem dX10_of_38 : decode cX10_of 38 = .ok (.goto 16, 3) := by decide +kernel
theorem dX10_of_41 : decode cX10_of 41 = .ok (.aload_n 0, 1) := by decide +kernel
theorem dX10_of_42 : decode cX10_of 42 = .ok (.aload_n 0, 1) := by decide +kernel
theorem dX10_of_43 : decode cX10_of 43 = .ok (.getfield 9, 3) := by decide +kernel
theorem dX10_of_46 : decode cX10_of 46 = .ok (.bipush 25, 2) := by decide +kernel
theorem dX10_of_48 : decode cX10_of 48 = .ok (.iload_n 1, 1) := by decide +kernel
theorem dX10_of_49 : decode cX10_of 49 = .ok (.iadd, 1) := by decide +kernel
theorem dX10_of_50 : decode cX10_of 50 = .ok (.iaload, 1) := by decide +kernel
theorem dX10_of_51 : decode cX10_of 51 = .ok (.invokevirtual 130, 3) := by decide +kernel
theorem dX10_of_54 : decode cX10_of 54 = .ok (.ireturn, 1) := by decide +kernel
theorem dX10_level_0 : decode cX10_level 0 = .ok (.iload_n 1, 1) := by decide +kernel
theorem dX10_level_1 : decode cX10_level 1 = .ok (.i2l, 1) := by decide +kernel
theorem dX10_level_2 : decode cX10_level 2 = .ok (.lconst 0, 1) := by decide +kernel
theorem dX10_level_3 : decode cX10_level 3 = .ok (.lconst 1, 1) := by decide +kernel
theorem dX10_level_4 : decode cX10_level 4 = .ok (.invokestatic 63, 3) := by decide +kernel
theorem dX10_level_7 : decode cX10_level 7 = .ok (.ifCond .eq 15, 3) := by decide +kernel
theorem dX10_level_10 : decode cX10_level 10 = .ok (.iload_n 2, 1) := by decide +kernel
theorem dX10_level_11 : decode cX10_level 11 = .ok (.i2l, 1) := by decide +kernel
theorem dX10_level_12 : decode cX10_level 12 = .ok (.lconst 0, 1) := by decide +kernel
theorem dX10_level_13 : decode cX10_level 13 = .ok (.ldc2_w 128, 3) := by decide +kernel
theorem dX10_level_16 : decode cX10_level 16 = .ok (.invokestatic 63, 3) := by decide +kernel
theorem dX10_level_19 : decode cX10_level 19 = .ok (.ifCond .ne 5, 3) := by decide +kernel
theorem dX10_level_22 : decode cX10_level 22 = .ok (.iconst (-1), 1) := by decide +kernel
theorem dX10_level_23 : decode cX10_level 23 = .ok (.ireturn, 1) := by decide +kernel
theorem dX10_level_24 : decode cX10_level 24 = .ok (.aload_n 0, 1) := by decide +kernel
theorem dX10_level_25 : decode cX10_level 25 = .ok (.invokevirtual 122, 3) := by decide +kernel
theorem dX10_level_28 : decode cX10_level 28 = .ok (.iload_n 1, 1) := by decide +kernel
theorem dX10_level_29 : decode cX10_level 29 = .ok (.ifCond .ne 7, 3) := by decide +kernel
theorem dX10_level_32 : decode cX10_level 32 = .ok (.iconst 1, 1) := by decide +kernel
theorem dX10_level_33 : decode cX10_level 33 = .ok (.goto 4, 3) := by decide +kernel
theorem dX10_level_36 : decode cX10_level 36 = .ok (.iconst 2, 1) := by decide +kernel
theorem dX10_level_37 : decode cX10_level 37 = .ok (.istore_n 3, 1) := by decide +kernel
theorem dX10_level_38 : decode cX10_level 38 = .ok (.aload_n 0, 1) := by decide +kernel
theorem dX10_level_39 : decode cX10_level 39 = .ok (.getfield 9, 3) := by decide +kernel
theorem dX10_level_42 : decode cX10_level 42 = .ok (.iload_n 3, 1) := by decide +kernel
theorem dX10_level_43 : decode cX10_level 43 = .ok (.iaload, 1) := by decide +kernel
theorem dX10_level_44 : decode cX10_level 44 = .ok (.istore 4, 2) := by decide +kernel
theorem dX10_level_46 : decode cX10_level 46 = .ok (.aload_n 0, 1) := by decide +kernel
theorem dX10_level_47 : decode cX10_level 47 = .ok (.getfield 9, 3) := by decide +kernel
theorem dX10_level_50 : decode cX10_level 50 = .ok (.iload_n 3, 1) := by decide +kernel
theorem dX10_level_51 : decode cX10_level 51 = .ok (.iload_n 2, 1) := by decide +kernel
theorem dX10_level_52 : decode cX10_level 52 = .ok (.iastore, 1) := by decide +kernel
theorem dX10_level_53 : decode cX10_level 53 = .ok (.aload_n 0, 1) := by decide +kernel
theorem dX10_level_54 : decode cX10_level 54 = .ok (.invokevirtual 95, 3) := by decide +kernel
theorem dX10_level_57 : decode cX10_level 57 = .ok (.iload 4, 2) := by decide +kernel
theorem dX10_level_59 : decode cX10_level 59 = .ok (.ireturn, 1) := by decide +kernel
theorem dX10_feed_0 : decode cX10_feed 0 = .ok (.iload_n 1, 1) := by decide +kernel
theorem dX10_feed_1 : decode cX10_feed 1 = .ok (.i2l, 1) := by decide +kernel
theorem dX10_feed_2 : decode cX10_feed 2 = .ok (.ldc2_w 133, 3) := by decide +kernel
theorem dX10_feed_5 : decode cX10_feed 5 = .ok (.ldc2_w 135, 3) := by decide +kernel
theorem dX10_feed_8 : decode cX10_feed 8 = .ok (.invokestatic 63, 3) := by decide +kernel
theorem dX10_feed_11 : decode cX10_feed 11 = .ok (.ifCond .ne 5, 3) := by decide +kernel
theorem dX10_feed_14 : decode cX10_feed 14 = .ok (.iconst (-1), 1) := by decide +kernel
theorem dX10_feed_15 : decode cX10_feed 15 = .ok (.ireturn, 1) := by decide +kernel
theorem dX10_feed_16 : decode cX10_feed 16 = .ok (.aload_n 0, 1) := by decide +kernel
theorem dX10_feed_17 : decode cX10_feed 17 = .ok (.getfield 137, 3) := by decide +kernel
theorem dX10_feed_20 : decode cX10_feed 20 = .ok (.bipush 120, 2) := by decide +kernel
theorem dX10_feed_22 : decode cX10_feed 22 = .ok (.if_icmp .ne 6, 3) := by decide +kernel
theorem dX10_feed_25 : decode cX10_feed 25 = .ok (.bipush (-3), 2) := by decide +kernel
theorem dX10_feed_27 : decode cX10_feed 27 = .ok (.ireturn, 1) := by decide +kernel
theorem dX10_feed_28 : decode cX10_feed 28 = .ok (.aload_n 0, 1) := by decide +kernel
theorem dX10_feed_29 : decode cX10_feed 29 = .ok (.getfield 22, 3) := by decide +kernel
theorem dX10_feed_32 : decode cX10_feed 32 = .ok (.aload_n 0, 1) := by decide +kernel
theorem dX10_feed_33 : decode cX10_feed 33 = .ok (.getfield 137, 3) := by decide +kernel
theorem dX10_feed_36 : decode cX10_feed 36 = .ok (.iload_n 1, 1) := by decide +kernel
theorem dX10_feed_37 : decode cX10_feed 37 = .ok (.iastore, 1) := by decide +kernel
theorem dX10_feed_38 : decode cX10_feed 38 = .ok (.aload_n 0, 1) := by decide +kernel
theorem dX10_feed_39 : decode cX10_feed 39 = .ok (.dup, 1) := by decide +kernel
theorem dX10_feed_40 : decode cX10_feed 40 = .ok (.getfield 137, 3) := by decide +kernel
theorem dX10_feed_43 : decode cX10_feed 43 = .ok (.iconst 1, 1) := by decide +kernel
theorem dX10_feed_44 : decode cX10_feed 44 = .ok (.iadd, 1) := by decide +kernel
theorem dX10_feed_45 : decode cX10_feed 45 = .ok (.putfield 137, 3) := by decide +kernel
theorem dX10_feed_48 : decode cX10_feed 48 = .ok (.aload_n 0, 1) := by decide +kernel
theorem dX10_feed_49 : decode cX10_feed 49 = .ok (.getfield 137, 3) := by decide +kernel
theorem dX10_feed_52 : decode cX10_feed 52 = .ok (.ireturn, 1) := by decide +kernel
theorem dX10_here_0 : decode cX10_here 0 = .ok (.aload_n 0, 1) := by decide +kernel
theorem dX10_here_1 : decode cX10_here 1 = .ok (.getfield 140, 3) := by decide +kernel
theorem dX10_here_4 : decode cX10_here 4 = .ok (.aload_n 0, 1) := by decide +kernel
theorem dX10_here_5 : decode cX10_here 5 = .ok (.getfield 137, 3) := by decide +kernel
theorem dX10_here_8 : decode cX10_here 8 = .ok (.if_icmp .ge 15, 3) := by decide +kernel
theorem dX10_here_11 : decode cX10_here 11 = .ok (.aload_n 0, 1) := by decide +kernel
theorem dX10_here_12 : decode cX10_here 12 = .ok (.getfield 22, 3) := by decide +kernel
theorem dX10_here_15 : decode cX10_here 15 = .ok (.aload_n 0, 1) := by decide +kernel
theorem dX10_here_16 : decode cX10_here 16 = .ok (.getfield 140, 3) := by decide +kernel
theorem dX10_here_19 : decode cX10_here 19 = .ok (.iaload, 1) := by decide +kernel
theorem dX10_here_20 : decode cX10_here 20 = .ok (.goto 4, 3) := by decide +kernel
theorem dX10_here_23 : decode cX10_here 23 = .ok (.iconst (-1), 1) := by decide +kernel
theorem dX10_here_24 : decode cX10_here 24 = .ok (.ireturn, 1) := by decide +kernel
theorem dX10_isFigure_0 : decode cX10_isFigure 0 = .ok (.aload_n 0, 1) := by decide +kernel
theorem dX10_isFigure_1 : decode cX10_isFigure 1 = .ok (.invokevirtual 143, 3) := by decide +kernel
theorem dX10_isFigure_4 : decode cX10_isFigure 4 = .ok (.i2l, 1) := by decide +kernel
theorem dX10_isFigure_5 : decode cX10_isFigure 5 = .ok (.ldc2_w 146, 3) := by decide +kernel
theorem dX10_isFigure_8 : decode cX10_isFigure 8 = .ok (.ldc2_w 148, 3) := by decide +kernel
theorem dX10_isFigure_11 : decode cX10_isFigure 11 = .ok (.invokestatic 63, 3) := by decide +kernel
theorem dX10_isFigure_14 : decode cX10_isFigure 14 = .ok (.ireturn, 1) := by decide +kernel
theorem dX10_whatOf_0 : decode cX10_whatOf 0 = .ok (.iload_n 0, 1) := by decide +kernel
theorem dX10_whatOf_1 : decode cX10_whatOf 1 = .ok (.bipush 99, 2) := by decide +kernel
theorem dX10_whatOf_3 : decode cX10_whatOf 3 = .ok (.if_icmp .ne 7, 3) := by decide +kernel
theorem dX10_whatOf_6 : decode cX10_whatOf 6 = .ok (.iconst 0, 1) := by decide +kernel
theorem dX10_whatOf_7 : decode cX10_whatOf 7 = .ok (.goto 35, 3) := by decide +kernel
theorem dX10_whatOf_10 : decode cX10_whatOf 10 = .ok (.iload_n 0, 1) := by decide +kernel
theorem dX10_whatOf_11 : decode cX10_whatOf 11 = .ok (.bipush 114, 2) := by decide +kernel
theorem dX10_whatOf_13 : decode cX10_whatOf 13 = .ok (.if_icmp .ne 7, 3) := by decide +kernel
theorem dX10_whatOf_16 : decode cX10_whatOf 16 = .ok (.iconst 1, 1) := by decide +kernel
theorem dX10_whatOf_17 : decode cX10_whatOf 17 = .ok (.goto 25, 3) := by decide +kernel
theorem dX10_whatOf_20 : decode cX10_whatOf 20 = .ok (.iload_n 0, 1) := by decide +kernel
theorem dX10_whatOf_21 : decode cX10_whatOf 21 = .ok (.bipush 115, 2) := by decide +kernel
theorem dX10_whatOf_23 : decode cX10_whatOf 23 = .ok (.if_icmp .ne 7, 3) := by decide +kernel
theorem dX10_whatOf_26 : decode cX10_whatOf 26 = .ok (.iconst 2, 1) := by decide +kernel
theorem dX10_whatOf_27 : decode cX10_whatOf 27 = .ok (.goto 15, 3) := by decide +kernel
theorem dX10_whatOf_30 : decode cX10_whatOf 30 = .ok (.iload_n 0, 1) := by decide +kernel
theorem dX10_whatOf_31 : decode cX10_whatOf 31 = .ok (.bipush 120, 2) := by decide +kernel
theorem dX10_whatOf_33 : decode cX10_whatOf 33 = .ok (.if_icmp .ne 7, 3) := by decide +kernel
theorem dX10_whatOf_36 : decode cX10_whatOf 36 = .ok (.iconst 3, 1) := by decide +kernel
theorem dX10_whatOf_37 : decode cX10_whatOf 37 = .ok (.goto 5, 3) := by decide +kernel
theorem dX10_whatOf_40 : decode cX10_whatOf 40 = .ok (.bipush (-2), 2) := by decide +kernel
theorem dX10_whatOf_42 : decode cX10_whatOf 42 = .ok (.ireturn, 1) := by decide +kernel
theorem dX10_isTaken_0 : decode cX10_isTaken 0 = .ok (.aload_n 0, 1) := by decide +kernel
theorem dX10_isTaken_1 : decode cX10_isTaken 1 = .ok (.iload_n 1, 1) := by decide +kernel
theorem dX10_isTaken_2 : decode cX10_isTaken 2 = .ok (.bipush (-2), 2) := by decide +kernel
theorem dX10_isTaken_4 : decode cX10_isTaken 4 = .ok (.invokevirtual 106, 3) := by decide +kernel
theorem dX10_isTaken_7 : decode cX10_isTaken 7 = .ok (.istore_n 3, 1) := by decide +kernel
theorem dX10_isTaken_8 : decode cX10_isTaken 8 = .ok (.iconst 0, 1) := by decide +kernel
theorem dX10_isTaken_9 : decode cX10_isTaken 9 = .ok (.istore 4, 2) := by decide +kernel
theorem dX10_isTaken_11 : decode cX10_isTaken 11 = .ok (.iload 4, 2) := by decide +kernel
theorem dX10_isTaken_13 : decode cX10_isTaken 13 = .ok (.iload_n 2, 1) := by decide +kernel
theorem dX10_isTaken_14 : decode cX10_isTaken 14 = .ok (.if_icmp .ge 38, 3) := by decide +kernel
theorem dX10_isTaken_17 : decode cX10_isTaken 17 = .ok (.iload_n 3, 1) := by decide +kernel
theorem dX10_isTaken_18 : decode cX10_isTaken 18 = .ok (.ifCond .ne 22, 3) := by decide +kernel
theorem dX10_isTaken_21 : decode cX10_isTaken 21 = .ok (.iload_n 1, 1) := by decide +kernel
theorem dX10_isTaken_22 : decode cX10_isTaken 22 = .ok (.ifCond .le 22, 3) := by decide +kernel
theorem dX10_isTaken_25 : decode cX10_isTaken 25 = .ok (.aload_n 0, 1) := by decide +kernel
theorem dX10_isTaken_26 : decode cX10_isTaken 26 = .ok (.getfield 25, 3) := by decide +kernel
theorem dX10_isTaken_29 : decode cX10_isTaken 29 = .ok (.iconst 4, 1) := by decide +kernel
theorem dX10_isTaken_30 : decode cX10_isTaken 30 = .ok (.iload 4, 2) := by decide +kernel
theorem dX10_isTaken_32 : decode cX10_isTaken 32 = .ok (.imul, 1) := by decide +kernel
theorem dX10_isTaken_33 : decode cX10_isTaken 33 = .ok (.iconst 2, 1) := by decide +kernel
theorem dX10_isTaken_34 : decode cX10_isTaken 34 = .ok (.iadd, 1) := by decide +kernel
theorem dX10_isTaken_35 : decode cX10_isTaken 35 = .ok (.iaload, 1) := by decide +kernel
theorem dX10_isTaken_36 : decode cX10_isTaken 36 = .ok (.iload_n 1, 1) := by decide +kernel
theorem dX10_isTaken_37 : decode cX10_isTaken 37 = .ok (.if_icmp .ne 7, 3) := by decide +kernel
theorem dX10_isTaken_40 : decode cX10_isTaken 40 = .ok (.iconst 1, 1) := by decide +kernel
theorem dX10_isTaken_41 : decode cX10_isTaken 41 = .ok (.goto 4, 3) := by decide +kernel
theorem dX10_isTaken_44 : decode cX10_isTaken 44 = .ok (.iconst 0, 1) := by decide +kernel
theorem dX10_isTaken_45 : decode cX10_isTaken 45 = .ok (.istore_n 3, 1) := by decide +kernel
theorem dX10_isTaken_46 : decode cX10_isTaken 46 = .ok (.iinc 4 1, 3) := by decide +kernel
theorem dX10_isTaken_49 : decode cX10_isTaken 49 = .ok (.goto (-38), 3) := by decide +kernel
theorem dX10_isTaken_52 : decode cX10_isTaken 52 = .ok (.iload_n 3, 1) := by decide +kernel
theorem dX10_isTaken_53 : decode cX10_isTaken 53 = .ok (.ireturn, 1) := by decide +kernel
theorem dX10_readsNumber_0 : decode cX10_readsNumber 0 = .ok (.aload_n 0, 1) := by decide +kernel
theorem dX10_readsNumber_1 : decode cX10_readsNumber 1 = .ok (.getfield 140, 3) := by decide +kernel
theorem dX10_readsNumber_4 : decode cX10_readsNumber 4 = .ok (.istore_n 3, 1) := by decide +kernel
theorem dX10_readsNumber_5 : decode cX10_readsNumber 5 = .ok (.iconst 0, 1) := by decide +kernel
theorem dX10_readsNumber_6 : decode cX10_readsNumber 6 = .ok (.istore 4, 2) := by decide +kernel
theorem dX10_readsNumber_8 : decode cX10_readsNumber 8 = .ok (.iconst 0, 1) := by decide +kernel
theorem dX10_readsNumber_9 : decode cX10_readsNumber 9 = .ok (.istore 5, 2) := by decide +kernel
theorem dX10_readsNumber_11 : decode cX10_readsNumber 11 = .ok (.iload 5, 2) := by decide +kernel
theorem dX10_readsNumber_13 : decode cX10_readsNumber 13 = .ok (.iload_n 1, 1) := by decide +kernel
theorem dX10_readsNumber_14 : decode cX10_readsNumber 14 = .ok (.iconst 3, 1) := by decide +kernel
theorem dX10_readsNumber_15 : decode cX10_readsNumber 15 = .ok (.if_icmp .ne 7, 3) := by decide +kernel
theorem dX10_readsNumber_18 : decode cX10_readsNumber 18 = .ok (.iconst 2, 1) := by decide +kernel
theorem dX10_readsNumber_19 : decode cX10_readsNumber 19 = .ok (.goto 4, 3) := by decide +kernel
theorem dX10_readsNumber_22 : decode cX10_readsNumber 22 = .ok (.iconst 1, 1) := by decide +kernel
theorem dX10_readsNumber_23 : decode cX10_readsNumber 23 = .ok (.if_icmp .ge 41, 3) := by decide +kernel
theorem dX10_readsNumber_26 : decode cX10_readsNumber 26 = .ok (.aload_n 0, 1) := by decide +kernel
theorem dX10_readsNumber_27 : decode cX10_readsNumber 27 = .ok (.invokevirtual 150, 3) := by decide +kernel
theorem dX10_readsNumber_30 : decode cX10_readsNumber 30 = .ok (.ifCond .eq 34, 3) := by decide +kernel
theorem dX10_readsNumber_33 : decode cX10_readsNumber 33 = .ok (.bipush 10, 2) := by decide +kernel
theorem dX10_readsNumber_35 : decode cX10_readsNumber 35 = .ok (.iload 4, 2) := by decide +kernel
theorem dX10_readsNumber_37 : decode cX10_readsNumber 37 = .ok (.imul, 1) := by decide +kernel
theorem dX10_readsNumber_38 : decode cX10_readsNumber 38 = .ok (.aload_n 0, 1) := by decide +kernel
theorem dX10_readsNumber_39 : decode cX10_readsNumber 39 = .ok (.invokevirtual 143, 3) := by decide +kernel
theorem dX10_readsNumber_42 : decode cX10_readsNumber 42 = .ok (.iadd, 1) := by decide +kernel
theorem dX10_readsNumber_43 : decode cX10_readsNumber 43 = .ok (.bipush 48, 2) := by decide +kernel
theorem dX10_readsNumber_45 : decode cX10_readsNumber 45 = .ok (.isub, 1) := by decide +kernel
theorem dX10_readsNumber_46 : decode cX10_readsNumber 46 = .ok (.istore 4, 2) := by decide +kernel
theorem dX10_readsNumber_48 : decode cX10_readsNumber 48 = .ok (.aload_n 0, 1) := by decide +kernel
theorem dX10_readsNumber_49 : decode cX10_readsNumber 49 = .ok (.dup, 1) := by decide +kernel
theorem dX10_readsNumber_50 : decode cX10_readsNumber 50 = .ok (.getfield 140, 3) := by decide +kernel
theorem dX10_readsNumber_53 : decode cX10_readsNumber 53 = .ok (.iconst 1, 1) := by decide +kernel
theorem dX10_readsNumber_54 : decode cX10_readsNumber 54 = .ok (.iadd, 1) := by decide +kernel
theorem dX10_readsNumber_55 : decode cX10_readsNumber 55 = .ok (.putfield 140, 3) := by decide +kernel
theorem dX10_readsNumber_58 : decode cX10_readsNumber 58 = .ok (.iinc 5 1, 3) := by decide +kernel
theorem dX10_readsNumber_61 : decode cX10_readsNumber 61 = .ok (.goto (-50), 3) := by decide +kernel
theorem dX10_readsNumber_64 : decode cX10_readsNumber 64 = .ok (.aload_n 0, 1) := by decide +kernel
theorem dX10_readsNumber_65 : decode cX10_readsNumber 65 = .ok (.getfield 140, 3) := by decide +kernel
theorem dX10_readsNumber_68 : decode cX10_readsNumber 68 = .ok (.iload_n 3, 1) := by decide +kernel
theorem dX10_readsNumber_69 : decode cX10_readsNumber 69 = .ok (.if_icmp .eq 27, 3) := by decide +kernel
theorem dX10_readsNumber_72 : decode cX10_readsNumber 72 = .ok (.iload 4, 2) := by decide +kernel
theorem dX10_readsNumber_74 : decode cX10_readsNumber 74 = .ok (.iload_n 1, 1) := by decide +kernel
theorem dX10_readsNumber_75 : decode cX10_readsNumber 75 = .ok (.invokestatic 118, 3) := by decide +kernel
theorem dX10_readsNumber_78 : decode cX10_readsNumber 78 = .ok (.if_icmp .gt 18, 3) := by decide +kernel
theorem dX10_readsNumber_81 : decode cX10_readsNumber 81 = .ok (.iload_n 1, 1) := by decide +kernel
theorem dX10_readsNumber_82 : decode cX10_readsNumber 82 = .ok (.iconst 2, 1) := by decide +kernel
theorem dX10_readsNumber_83 : decode cX10_readsNumber 83 = .ok (.if_icmp .ne 18, 3) := by decide +kernel
theorem dX10_readsNumber_86 : decode cX10_readsNumber 86 = .ok (.aload_n 0, 1) := by decide +kernel
theorem dX10_readsNumber_87 : decode cX10_readsNumber 87 = .ok (.iload 4, 2) := by decide +kernel
theorem dX10_readsNumber_89 : decode cX10_readsNumber 89 = .ok (.iload_n 2, 1) := by decide +kernel
theorem dX10_readsNumber_90 : decode cX10_readsNumber 90 = .ok (.invokevirtual 154, 3) := by decide +kernel
theorem dX10_readsNumber_93 : decode cX10_readsNumber 93 = .ok (.ifCond .eq 8, 3) := by decide +kernel
theorem dX10_readsNumber_96 : decode cX10_readsNumber 96 = .ok (.aload_n 0, 1) := by decide +kernel
theorem dX10_readsNumber_97 : decode cX10_readsNumber 97 = .ok (.iload_n 3, 1) := by decide +kernel
theorem dX10_readsNumber_98 : decode cX10_readsNumber 98 = .ok (.putfield 157, 3) := by decide +kernel
theorem dX10_readsNumber_101 : decode cX10_readsNumber 101 = .ok (.aload_n 0, 1) := by decide +kernel
theorem dX10_readsNumber_102 : decode cX10_readsNumber 102 = .ok (.getfield 28, 3) := by decide +kernel
theorem dX10_readsNumber_105 : decode cX10_readsNumber 105 = .ok (.iload_n 1, 1) := by decide +kernel
theorem dX10_readsNumber_106 : decode cX10_readsNumber 106 = .ok (.iload 4, 2) := by decide +kernel
theorem dX10_readsNumber_108 : decode cX10_readsNumber 108 = .ok (.iastore, 1) := by decide +kernel
theorem dX10_readsNumber_109 : decode cX10_readsNumber 109 = .ok (.return_, 1) := by decide +kernel
theorem dX10_readsPlayer_0 : decode cX10_readsPlayer 0 = .ok (.iconst 0, 1) := by decide +kernel
theorem dX10_readsPlayer_1 : decode cX10_readsPlayer 1 = .ok (.istore_n 2, 1) := by decide +kernel
theorem dX10_readsPlayer_2 : decode cX10_readsPlayer 2 = .ok (.iconst 0, 1) := by decide +kernel
theorem dX10_readsPlayer_3 : decode cX10_readsPlayer 3 = .ok (.istore_n 3, 1) := by decide +kernel
theorem dX10_readsPlayer_4 : decode cX10_readsPlayer 4 = .ok (.iload_n 3, 1) := by decide +kernel
theorem dX10_readsPlayer_5 : decode cX10_readsPlayer 5 = .ok (.iconst 4, 1) := by decide +kernel
theorem dX10_readsPlayer_6 : decode cX10_readsPlayer 6 = .ok (.if_icmp .ge 16, 3) := by decide +kernel
theorem dX10_readsPlayer_9 : decode cX10_readsPlayer 9 = .ok (.aload_n 0, 1) := by decide +kernel
theorem dX10_readsPlayer_10 : decode cX10_readsPlayer 10 = .ok (.getfield 28, 3) := by decide +kernel
theorem dX10_readsPlayer_13 : decode cX10_readsPlayer 13 = .ok (.iload_n 3, 1) := by decide +kernel
theorem dX10_readsPlayer_14 : decode cX10_readsPlayer 14 = .ok (.iconst 0, 1) := by decide +kernel
theorem dX10_readsPlayer_15 : decode cX10_readsPlayer 15 = .ok (.iastore, 1) := by decide +kernel
theorem dX10_readsPlayer_16 : decode cX10_readsPlayer 16 = .ok (.iinc 3 1, 3) := by decide +kernel
theorem dX10_readsPlayer_19 : decode cX10_readsPlayer 19 = .ok (.goto (-15), 3) := by decide +kernel
theorem dX10_readsPlayer_22 : decode cX10_readsPlayer 22 = .ok (.aload_n 0, 1) := by decide +kernel
theorem dX10_readsPlayer_23 : decode cX10_readsPlayer 23 = .ok (.getfield 9, 3) := by decide +kernel
theorem dX10_readsPlayer_26 : decode cX10_readsPlayer 26 = .ok (.iconst 0, 1) := by decide +kernel
theorem dX10_readsPlayer_27 : decode cX10_readsPlayer 27 = .ok (.iaload, 1) := by decide +kernel
theorem dX10_readsPlayer_28 : decode cX10_readsPlayer 28 = .ok (.iload_n 1, 1) := by decide +kernel
theorem dX10_readsPlayer_29 : decode cX10_readsPlayer 29 = .ok (.iadd, 1) := by decide +kernel
theorem dX10_readsPlayer_30 : decode cX10_readsPlayer 30 = .ok (.bipush 10, 2) := by decide +kernel
theorem dX10_readsPlayer_32 : decode cX10_readsPlayer 32 = .ok (.if_icmp .eq 13, 3) := by decide +kernel
theorem dX10_readsPlayer_35 : decode cX10_readsPlayer 35 = .ok (.aload_n 0, 1) := by decide +kernel
theorem dX10_readsPlayer_36 : decode cX10_readsPlayer 36 = .ok (.invokevirtual 143, 3) := by decide +kernel
theorem dX10_readsPlayer_39 : decode cX10_readsPlayer 39 = .ok (.invokestatic 160, 3) := by decide +kernel
theorem dX10_readsPlayer_42 : decode cX10_readsPlayer 42 = .ok (.ifCond .ge 11, 3) := by decide +kernel
theorem dX10_readsPlayer_45 : decode cX10_readsPlayer 45 = .ok (.aload_n 0, 1) := by decide +kernel
theorem dX10_readsPlayer_46 : decode cX10_readsPlayer 46 = .ok (.aload_n 0, 1) := by decide +kernel
theorem dX10_readsPlayer_47 : decode cX10_readsPlayer 47 = .ok (.getfield 140, 3) := by decide +kernel
theorem dX10_readsPlayer_50 : decode cX10_readsPlayer 50 = .ok (.putfield 157, 3) := by decide +kernel
theorem dX10_readsPlayer_53 : decode cX10_readsPlayer 53 = .ok (.aload_n 0, 1) := by decide +kernel
theorem dX10_readsPlayer_54 : decode cX10_readsPlayer 54 = .ok (.getfield 157, 3) := by decide +kernel
theorem dX10_readsPlayer_57 : decode cX10_readsPlayer 57 = .ok (.ifCond .ge 66, 3) := by decide +kernel
theorem dX10_readsPlayer_60 : decode cX10_readsPlayer 60 = .ok (.aload_n 0, 1) := by decide +kernel
theorem dX10_readsPlayer_61 : decode cX10_readsPlayer 61 = .ok (.invokevirtual 143, 3) := by decide +kernel
theorem dX10_readsPlayer_64 : decode cX10_readsPlayer 64 = .ok (.invokestatic 160, 3) := by decide +kernel
theorem dX10_readsPlayer_67 : decode cX10_readsPlayer 67 = .ok (.ifCond .lt 56, 3) := by decide +kernel
theorem dX10_readsPlayer_70 : decode cX10_readsPlayer 70 = .ok (.aload_n 0, 1) := by decide +kernel
theorem dX10_readsPlayer_71 : decode cX10_readsPlayer 71 = .ok (.invokevirtual 143, 3) := by decide +kernel
theorem dX10_readsPlayer_74 : decode cX10_readsPlayer 74 = .ok (.invokestatic 160, 3) := by decide +kernel
theorem dX10_readsPlayer_77 : decode cX10_readsPlayer 77 = .ok (.istore_n 3, 1) := by decide +kernel
theorem dX10_readsPlayer_78 : decode cX10_readsPlayer 78 = .ok (.iload_n 2, 1) := by decide +kernel
theorem dX10_readsPlayer_79 : decode cX10_readsPlayer 79 = .ok (.iload_n 3, 1) := by decide +kernel
theorem dX10_readsPlayer_80 : decode cX10_readsPlayer 80 = .ok (.ishr, 1) := by decide +kernel
theorem dX10_readsPlayer_81 : decode cX10_readsPlayer 81 = .ok (.iconst 1, 1) := by decide +kernel
theorem dX10_readsPlayer_82 : decode cX10_readsPlayer 82 = .ok (.iand, 1) := by decide +kernel
theorem dX10_readsPlayer_83 : decode cX10_readsPlayer 83 = .ok (.iconst 1, 1) := by decide +kernel
theorem dX10_readsPlayer_84 : decode cX10_readsPlayer 84 = .ok (.if_icmp .ne 14, 3) := by decide +kernel
theorem dX10_readsPlayer_87 : decode cX10_readsPlayer 87 = .ok (.aload_n 0, 1) := by decide +kernel
theorem dX10_readsPlayer_88 : decode cX10_readsPlayer 88 = .ok (.aload_n 0, 1) := by decide +kernel
theorem dX10_readsPlayer_89 : decode cX10_readsPlayer 89 = .ok (.getfield 140, 3) := by decide +kernel
theorem dX10_readsPlayer_92 : decode cX10_readsPlayer 92 = .ok (.putfield 157, 3) := by decide +kernel
theorem dX10_readsPlayer_95 : decode cX10_readsPlayer 95 = .ok (.goto 25, 3) := by decide +kernel
theorem dX10_readsPlayer_98 : decode cX10_readsPlayer 98 = .ok (.iload_n 2, 1) := by decide +kernel
theorem dX10_readsPlayer_99 : decode cX10_readsPlayer 99 = .ok (.iconst 1, 1) := by decide +kernel
theorem dX10_readsPlayer_100 : decode cX10_readsPlayer 100 = .ok (.iload_n 3, 1) := by decide +kernel
theorem dX10_readsPlayer_101 : decode cX10_readsPlayer 101 = .ok (.ishl, 1) := by decide +kernel
theorem dX10_readsPlayer_102 : decode cX10_readsPlayer 102 = .ok (.ior, 1) := by decide +kernel
theorem dX10_readsPlayer_103 : decode cX10_readsPlayer 103 = .ok (.istore_n 2, 1) := by decide +kernel
theorem dX10_readsPlayer_104 : decode cX10_readsPlayer 104 = .ok (.aload_n 0, 1) := by decide +kernel
theorem dX10_readsPlayer_105 : decode cX10_readsPlayer 105 = .ok (.dup, 1) := by decide +kernel
theorem dX10_readsPlayer_106 : decode cX10_readsPlayer 106 = .ok (.getfield 140, 3) := by decide +kernel
theorem dX10_readsPlayer_109 : decode cX10_readsPlayer 109 = .ok (.iconst 1, 1) := by decide +kernel
theorem dX10_readsPlayer_110 : decode cX10_readsPlayer 110 = .ok (.iadd, 1) := by decide +kernel
theorem dX10_readsPlayer_111 : decode cX10_readsPlayer 111 = .ok (.putfield 140, 3) := by decide +kernel
theorem dX10_readsPlayer_114 : decode cX10_readsPlayer 114 = .ok (.aload_n 0, 1) := by decide +kernel
theorem dX10_readsPlayer_115 : decode cX10_readsPlayer 115 = .ok (.iload_n 3, 1) := by decide +kernel
theorem dX10_readsPlayer_116 : decode cX10_readsPlayer 116 = .ok (.iload_n 1, 1) := by decide +kernel
theorem dX10_readsPlayer_117 : decode cX10_readsPlayer 117 = .ok (.invokevirtual 163, 3) := by decide +kernel
theorem dX10_readsPlayer_120 : decode cX10_readsPlayer 120 = .ok (.goto (-67), 3) := by decide +kernel
theorem dX10_readsPlayer_123 : decode cX10_readsPlayer 123 = .ok (.iconst 0, 1) := by decide +kernel
theorem dX10_readsPlayer_124 : decode cX10_readsPlayer 124 = .ok (.istore_n 3, 1) := by decide +kernel
theorem dX10_readsPlayer_125 : decode cX10_readsPlayer 125 = .ok (.iload_n 3, 1) := by decide +kernel
theorem dX10_readsPlayer_126 : decode cX10_readsPlayer 126 = .ok (.iconst 4, 1) := by decide +kernel
theorem dX10_readsPlayer_127 : decode cX10_readsPlayer 127 = .ok (.if_icmp .ge 32, 3) := by decide +kernel
theorem dX10_readsPlayer_130 : decode cX10_readsPlayer 130 = .ok (.aload_n 0, 1) := by decide +kernel
theorem dX10_readsPlayer_131 : decode cX10_readsPlayer 131 = .ok (.getfield 157, 3) := by decide +kernel
theorem dX10_readsPlayer_134 : decode cX10_readsPlayer 134 = .ok (.ifCond .ge 25, 3) := by decide +kernel
theorem dX10_readsPlayer_137 : decode cX10_readsPlayer 137 = .ok (.aload_n 0, 1) := by decide +kernel
theorem dX10_readsPlayer_138 : decode cX10_readsPlayer 138 = .ok (.getfield 25, 3) := by decide +kernel
theorem dX10_readsPlayer_141 : decode cX10_readsPlayer 141 = .ok (.iconst 4, 1) := by decide +kernel
theorem dX10_readsPlayer_142 : decode cX10_readsPlayer 142 = .ok (.iload_n 1, 1) := by decide +kernel
theorem dX10_readsPlayer_143 : decode cX10_readsPlayer 143 = .ok (.imul, 1) := by decide +kernel
theorem dX10_readsPlayer_144 : decode cX10_readsPlayer 144 = .ok (.iload_n 3, 1) := by decide +kernel
theorem dX10_readsPlayer_145 : decode cX10_readsPlayer 145 = .ok (.iadd, 1) := by decide +kernel
theorem dX10_readsPlayer_146 : decode cX10_readsPlayer 146 = .ok (.aload_n 0, 1) := by decide +kernel
theorem dX10_readsPlayer_147 : decode cX10_readsPlayer 147 = .ok (.getfield 28, 3) := by decide +kernel
theorem dX10_readsPlayer_150 : decode cX10_readsPlayer 150 = .ok (.iload_n 3, 1) := by decide +kernel
theorem dX10_readsPlayer_151 : decode cX10_readsPlayer 151 = .ok (.iaload, 1) := by decide +kernel
theorem dX10_readsPlayer_152 : decode cX10_readsPlayer 152 = .ok (.iastore, 1) := by decide +kernel
theorem dX10_readsPlayer_153 : decode cX10_readsPlayer 153 = .ok (.iinc 3 1, 3) := by decide +kernel
theorem dX10_readsPlayer_156 : decode cX10_readsPlayer 156 = .ok (.goto (-31), 3) := by decide +kernel
theorem dX10_readsPlayer_159 : decode cX10_readsPlayer 159 = .ok (.return_, 1) := by decide +kernel
theorem dX10_players_0 : decode cX10_players 0 = .ok (.aload_n 0, 1) := by decide +kernel
theorem dX10_players_1 : decode cX10_players 1 = .ok (.iconst 0, 1) := by decide +kernel
theorem dX10_players_2 : decode cX10_players 2 = .ok (.putfield 140, 3) := by decide +kernel
theorem dX10_players_5 : decode cX10_players 5 = .ok (.aload_n 0, 1) := by decide +kernel
theorem dX10_players_6 : decode cX10_players 6 = .ok (.bipush (-2), 2) := by decide +kernel
theorem dX10_players_8 : decode cX10_players 8 = .ok (.putfield 157, 3) := by decide +kernel
theorem dX10_players_11 : decode cX10_players 11 = .ok (.iconst 0, 1) := by decide +kernel
theorem dX10_players_12 : decode cX10_players 12 = .ok (.istore_n 1, 1) := by decide +kernel
theorem dX10_players_13 : decode cX10_players 13 = .ok (.aload_n 0, 1) := by decide +kernel
theorem dX10_players_14 : decode cX10_players 14 = .ok (.iload_n 1, 1) := by decide +kernel
theorem dX10_players_15 : decode cX10_players 15 = .ok (.invokevirtual 167, 3) := by decide +kernel
theorem dX10_players_18 : decode cX10_players 18 = .ok (.aload_n 0, 1) := by decide +kernel
theorem dX10_players_19 : decode cX10_players 19 = .ok (.getfield 157, 3) := by decide +kernel
theorem dX10_players_22 : decode cX10_players 22 = .ok (.ifCond .ge 33, 3) := by decide +kernel
theorem dX10_players_25 : decode cX10_players 25 = .ok (.aload_n 0, 1) := by decide +kernel
theorem dX10_players_26 : decode cX10_players 26 = .ok (.invokevirtual 143, 3) := by decide +kernel
theorem dX10_players_29 : decode cX10_players 29 = .ok (.bipush 59, 2) := by decide +kernel
theorem dX10_players_31 : decode cX10_players 31 = .ok (.if_icmp .ne 24, 3) := by decide +kernel
theorem dX10_players_34 : decode cX10_players 34 = .ok (.aload_n 0, 1) := by decide +kernel
theorem dX10_players_35 : decode cX10_players 35 = .ok (.dup, 1) := by decide +kernel
theorem dX10_players_36 : decode cX10_players 36 = .ok (.getfield 140, 3) := by decide +kernel
theorem dX10_players_39 : decode cX10_players 39 = .ok (.iconst 1, 1) := by decide +kernel
theorem dX10_players_40 : decode cX10_players 40 = .ok (.iadd, 1) := by decide +kernel
theorem dX10_players_41 : decode cX10_players 41 = .ok (.putfield 140, 3) := by decide +kernel
theorem dX10_players_44 : decode cX10_players 44 = .ok (.iinc 1 1, 3) := by decide +kernel
theorem dX10_players_47 : decode cX10_players 47 = .ok (.aload_n 0, 1) := by decide +kernel
theorem dX10_players_48 : decode cX10_players 48 = .ok (.iload_n 1, 1) := by decide +kernel
theorem dX10_players_49 : decode cX10_players 49 = .ok (.invokevirtual 167, 3) := by decide +kernel
theorem dX10_players_52 : decode cX10_players 52 = .ok (.goto (-34), 3) := by decide +kernel
theorem dX10_players_55 : decode cX10_players 55 = .ok (.aload_n 0, 1) := by decide +kernel
theorem dX10_players_56 : decode cX10_players 56 = .ok (.getfield 157, 3) := by decide +kernel
theorem dX10_players_59 : decode cX10_players 59 = .ok (.ifCond .ge 22, 3) := by decide +kernel
theorem dX10_players_62 : decode cX10_players 62 = .ok (.aload_n 0, 1) := by decide +kernel
theorem dX10_players_63 : decode cX10_players 63 = .ok (.getfield 140, 3) := by decide +kernel
theorem dX10_players_66 : decode cX10_players 66 = .ok (.aload_n 0, 1) := by decide +kernel
theorem dX10_players_67 : decode cX10_players 67 = .ok (.getfield 137, 3) := by decide +kernel
theorem dX10_players_70 : decode cX10_players 70 = .ok (.if_icmp .ge 11, 3) := by decide +kernel
theorem dX10_players_73 : decode cX10_players 73 = .ok (.aload_n 0, 1) := by decide +kernel
theorem dX10_players_74 : decode cX10_players 74 = .ok (.aload_n 0, 1) := by decide +kernel
theorem dX10_players_75 : decode cX10_players 75 = .ok (.getfield 140, 3) := by decide +kernel
theorem dX10_players_78 : decode cX10_players 78 = .ok (.putfield 157, 3) := by decide +kernel
theorem dX10_players_81 : decode cX10_players 81 = .ok (.aload_n 0, 1) := by decide +kernel
theorem dX10_players_82 : decode cX10_players 82 = .ok (.iconst 0, 1) := by decide +kernel
theorem dX10_players_83 : decode cX10_players 83 = .ok (.putfield 137, 3) := by decide +kernel
theorem dX10_players_86 : decode cX10_players 86 = .ok (.aload_n 0, 1) := by decide +kernel
theorem dX10_players_87 : decode cX10_players 87 = .ok (.getfield 157, 3) := by decide +kernel
theorem dX10_players_90 : decode cX10_players 90 = .ok (.ifCond .lt 11, 3) := by decide +kernel
theorem dX10_players_93 : decode cX10_players 93 = .ok (.bipush (-100), 2) := by decide +kernel
theorem dX10_players_95 : decode cX10_players 95 = .ok (.aload_n 0, 1) := by decide +kernel
theorem dX10_players_96 : decode cX10_players 96 = .ok (.getfield 157, 3) := by decide +kernel
theorem dX10_players_99 : decode cX10_players 99 = .ok (.isub, 1) := by decide +kernel
theorem dX10_players_100 : decode cX10_players 100 = .ok (.ireturn, 1) := by decide +kernel
theorem dX10_players_101 : decode cX10_players 101 = .ok (.iconst 0, 1) := by decide +kernel
theorem dX10_players_102 : decode cX10_players 102 = .ok (.istore_n 2, 1) := by decide +kernel
theorem dX10_players_103 : decode cX10_players 103 = .ok (.iload_n 2, 1) := by decide +kernel
theorem dX10_players_104 : decode cX10_players 104 = .ok (.iload_n 1, 1) := by decide +kernel
theorem dX10_players_105 : decode cX10_players 105 = .ok (.if_icmp .gt 51, 3) := by decide +kernel
theorem dX10_players_108 : decode cX10_players 108 = .ok (.aload_n 0, 1) := by decide +kernel
theorem dX10_players_109 : decode cX10_players 109 = .ok (.aload_n 0, 1) := by decide +kernel
theorem dX10_players_110 : decode cX10_players 110 = .ok (.getfield 25, 3) := by decide +kernel
theorem dX10_players_113 : decode cX10_players 113 = .ok (.iconst 4, 1) := by decide +kernel
theorem dX10_players_114 : decode cX10_players 114 = .ok (.iload_n 2, 1) := by decide +kernel
theorem dX10_players_115 : decode cX10_players 115 = .ok (.imul, 1) := by decide +kernel
theorem dX10_players_116 : decode cX10_players 116 = .ok (.iaload, 1) := by decide +kernel
theorem dX10_players_117 : decode cX10_players 117 = .ok (.aload_n 0, 1) := by decide +kernel
theorem dX10_players_118 : decode cX10_players 118 = .ok (.getfield 25, 3) := by decide +kernel
theorem dX10_players_121 : decode cX10_players 121 = .ok (.iconst 4, 1) := by decide +kernel
theorem dX10_players_122 : decode cX10_players 122 = .ok (.iload_n 2, 1) := by decide +kernel
theorem dX10_players_123 : decode cX10_players 123 = .ok (.imul, 1) := by decide +kernel
theorem dX10_players_124 : decode cX10_players 124 = .ok (.iconst 1, 1) := by decide +kernel
theorem dX10_players_125 : decode cX10_players 125 = .ok (.iadd, 1) := by decide +kernel
theorem dX10_players_126 : decode cX10_players 126 = .ok (.iaload, 1) := by decide +kernel
theorem dX10_players_127 : decode cX10_players 127 = .ok (.aload_n 0, 1) := by decide +kernel
theorem dX10_players_128 : decode cX10_players 128 = .ok (.getfield 25, 3) := by decide +kernel
theorem dX10_players_131 : decode cX10_players 131 = .ok (.iconst 4, 1) := by decide +kernel
theorem dX10_players_132 : decode cX10_players 132 = .ok (.iload_n 2, 1) := by decide +kernel
theorem dX10_players_133 : decode cX10_players 133 = .ok (.imul, 1) := by decide +kernel
theorem dX10_players_134 : decode cX10_players 134 = .ok (.iconst 2, 1) := by decide +kernel
theorem dX10_players_135 : decode cX10_players 135 = .ok (.iadd, 1) := by decide +kernel
theorem dX10_players_136 : decode cX10_players 136 = .ok (.iaload, 1) := by decide +kernel
theorem dX10_players_137 : decode cX10_players 137 = .ok (.aload_n 0, 1) := by decide +kernel
theorem dX10_players_138 : decode cX10_players 138 = .ok (.getfield 25, 3) := by decide +kernel
theorem dX10_players_141 : decode cX10_players 141 = .ok (.iconst 4, 1) := by decide +kernel
theorem dX10_players_142 : decode cX10_players 142 = .ok (.iload_n 2, 1) := by decide +kernel
theorem dX10_players_143 : decode cX10_players 143 = .ok (.imul, 1) := by decide +kernel
theorem dX10_players_144 : decode cX10_players 144 = .ok (.iconst 3, 1) := by decide +kernel
theorem dX10_players_145 : decode cX10_players 145 = .ok (.iadd, 1) := by decide +kernel
theorem dX10_players_146 : decode cX10_players 146 = .ok (.iaload, 1) := by decide +kernel
theorem dX10_players_147 : decode cX10_players 147 = .ok (.invokevirtual 110, 3) := by decide +kernel
theorem dX10_players_150 : decode cX10_players 150 = .ok (.iinc 2 1, 3) := by decide +kernel
theorem dX10_players_153 : decode cX10_players 153 = .ok (.goto (-50), 3) := by decide +kernel
theorem dX10_players_156 : decode cX10_players 156 = .ok (.aload_n 0, 1) := by decide +kernel
theorem dX10_players_157 : decode cX10_players 157 = .ok (.getfield 9, 3) := by decide +kernel
theorem dX10_players_160 : decode cX10_players 160 = .ok (.iconst 0, 1) := by decide +kernel
theorem dX10_players_161 : decode cX10_players 161 = .ok (.iaload, 1) := by decide +kernel
theorem dX10_players_162 : decode cX10_players 162 = .ok (.ireturn, 1) := by decide +kernel
theorem dX10_seedSlot_0 : decode cX10_seedSlot 0 = .ok (.aload_n 0, 1) := by decide +kernel
theorem dX10_seedSlot_1 : decode cX10_seedSlot 1 = .ok (.invokevirtual 67, 3) := by decide +kernel
theorem dX10_seedSlot_4 : decode cX10_seedSlot 4 = .ok (.istore_n 2, 1) := by decide +kernel
theorem dX10_seedSlot_5 : decode cX10_seedSlot 5 = .ok (.iload_n 1, 1) := by decide +kernel
theorem dX10_seedSlot_6 : decode cX10_seedSlot 6 = .ok (.i2l, 1) := by decide +kernel
theorem dX10_seedSlot_7 : decode cX10_seedSlot 7 = .ok (.lconst 1, 1) := by decide +kernel
theorem dX10_seedSlot_8 : decode cX10_seedSlot 8 = .ok (.iload_n 2, 1) := by decide +kernel
theorem dX10_seedSlot_9 : decode cX10_seedSlot 9 = .ok (.i2l, 1) := by decide +kernel
theorem dX10_seedSlot_10 : decode cX10_seedSlot 10 = .ok (.invokestatic 63, 3) := by decide +kernel
theorem dX10_seedSlot_13 : decode cX10_seedSlot 13 = .ok (.ifCond .ne 6, 3) := by decide +kernel
theorem dX10_seedSlot_16 : decode cX10_seedSlot 16 = .ok (.bipush (-2), 2) := by decide +kernel
theorem dX10_seedSlot_18 : decode cX10_seedSlot 18 = .ok (.ireturn, 1) := by decide +kernel
theorem dX10_seedSlot_19 : decode cX10_seedSlot 19 = .ok (.aload_n 0, 1) := by decide +kernel
theorem dX10_seedSlot_20 : decode cX10_seedSlot 20 = .ok (.getfield 31, 3) := by decide +kernel
theorem dX10_seedSlot_23 : decode cX10_seedSlot 23 = .ok (.iconst 0, 1) := by decide +kernel
theorem dX10_seedSlot_24 : decode cX10_seedSlot 24 = .ok (.iconst 1, 1) := by decide +kernel
theorem dX10_seedSlot_25 : decode cX10_seedSlot 25 = .ok (.iastore, 1) := by decide +kernel
theorem dX10_seedSlot_26 : decode cX10_seedSlot 26 = .ok (.iconst 1, 1) := by decide +kernel
theorem dX10_seedSlot_27 : decode cX10_seedSlot 27 = .ok (.istore_n 3, 1) := by decide +kernel
theorem dX10_seedSlot_28 : decode cX10_seedSlot 28 = .ok (.iload_n 3, 1) := by decide +kernel
theorem dX10_seedSlot_29 : decode cX10_seedSlot 29 = .ok (.iload_n 2, 1) := by decide +kernel
theorem dX10_seedSlot_30 : decode cX10_seedSlot 30 = .ok (.if_icmp .ge 96, 3) := by decide +kernel
theorem dX10_seedSlot_33 : decode cX10_seedSlot 33 = .ok (.iconst 0, 1) := by decide +kernel
theorem dX10_seedSlot_34 : decode cX10_seedSlot 34 = .ok (.istore 4, 2) := by decide +kernel
theorem dX10_seedSlot_36 : decode cX10_seedSlot 36 = .ok (.iload 4, 2) := by decide +kernel
theorem dX10_seedSlot_38 : decode cX10_seedSlot 38 = .ok (.iload_n 3, 1) := by decide +kernel
theorem dX10_seedSlot_39 : decode cX10_seedSlot 39 = .ok (.if_icmp .ge 49, 3) := by decide +kernel
theorem dX10_seedSlot_42 : decode cX10_seedSlot 42 = .ok (.aload_n 0, 1) := by decide +kernel
theorem dX10_seedSlot_43 : decode cX10_seedSlot 43 = .ok (.getfield 34, 3) := by decide +kernel
theorem dX10_seedSlot_46 : decode cX10_seedSlot 46 = .ok (.iconst 2, 1) := by decide +kernel
theorem dX10_seedSlot_47 : decode cX10_seedSlot 47 = .ok (.iload 4, 2) := by decide +kernel
theorem dX10_seedSlot_49 : decode cX10_seedSlot 49 = .ok (.imul, 1) := by decide +kernel
theorem dX10_seedSlot_50 : decode cX10_seedSlot 50 = .ok (.aload_n 0, 1) := by decide +kernel
theorem dX10_seedSlot_51 : decode cX10_seedSlot 51 = .ok (.getfield 31, 3) := by decide +kernel
theorem dX10_seedSlot_54 : decode cX10_seedSlot 54 = .ok (.iload 4, 2) := by decide +kernel
theorem dX10_seedSlot_56 : decode cX10_seedSlot 56 = .ok (.iaload, 1) := by decide +kernel
theorem dX10_seedSlot_57 : decode cX10_seedSlot 57 = .ok (.iastore, 1) := by decide +kernel
theorem dX10_seedSlot_58 : decode cX10_seedSlot 58 = .ok (.aload_n 0, 1) := by decide +kernel
theorem dX10_seedSlot_59 : decode cX10_seedSlot 59 = .ok (.getfield 34, 3) := by decide +kernel
theorem dX10_seedSlot_62 : decode cX10_seedSlot 62 = .ok (.iconst 2, 1) := by decide +kernel
theorem dX10_seedSlot_63 : decode cX10_seedSlot 63 = .ok (.iload 4, 2) := by decide +kernel
theorem dX10_seedSlot_65 : decode cX10_seedSlot 65 = .ok (.imul, 1) := by decide +kernel
theorem dX10_seedSlot_66 : decode cX10_seedSlot 66 = .ok (.iconst 1, 1) := by decide +kernel
theorem dX10_seedSlot_67 : decode cX10_seedSlot 67 = .ok (.iadd, 1) := by decide +kernel
theorem dX10_seedSlot_68 : decode cX10_seedSlot 68 = .ok (.iconst 2, 1) := by decide +kernel
theorem dX10_seedSlot_69 : decode cX10_seedSlot 69 = .ok (.iload_n 3, 1) := by decide +kernel
theorem dX10_seedSlot_70 : decode cX10_seedSlot 70 = .ok (.imul, 1) := by decide +kernel
theorem dX10_seedSlot_71 : decode cX10_seedSlot 71 = .ok (.iconst 1, 1) := by decide +kernel
theorem dX10_seedSlot_72 : decode cX10_seedSlot 72 = .ok (.iadd, 1) := by decide +kernel
theorem dX10_seedSlot_73 : decode cX10_seedSlot 73 = .ok (.aload_n 0, 1) := by decide +kernel
theorem dX10_seedSlot_74 : decode cX10_seedSlot 74 = .ok (.getfield 31, 3) := by decide +kernel
theorem dX10_seedSlot_77 : decode cX10_seedSlot 77 = .ok (.iload 4, 2) := by decide +kernel
theorem dX10_seedSlot_79 : decode cX10_seedSlot 79 = .ok (.iaload, 1) := by decide +kernel
theorem dX10_seedSlot_80 : decode cX10_seedSlot 80 = .ok (.isub, 1) := by decide +kernel
theorem dX10_seedSlot_81 : decode cX10_seedSlot 81 = .ok (.iastore, 1) := by decide +kernel
theorem dX10_seedSlot_82 : decode cX10_seedSlot 82 = .ok (.iinc 4 1, 3) := by decide +kernel
theorem dX10_seedSlot_85 : decode cX10_seedSlot 85 = .ok (.goto (-49), 3) := by decide +kernel
theorem dX10_seedSlot_88 : decode cX10_seedSlot 88 = .ok (.iconst 0, 1) := by decide +kernel
theorem dX10_seedSlot_89 : decode cX10_seedSlot 89 = .ok (.istore 4, 2) := by decide +kernel
theorem dX10_seedSlot_91 : decode cX10_seedSlot 91 = .ok (.iload 4, 2) := by decide +kernel
theorem dX10_seedSlot_93 : decode cX10_seedSlot 93 = .ok (.iconst 2, 1) := by decide +kernel
theorem dX10_seedSlot_94 : decode cX10_seedSlot 94 = .ok (.iload_n 3, 1) := by decide +kernel
theorem dX10_seedSlot_95 : decode cX10_seedSlot 95 = .ok (.imul, 1) := by decide +kernel
theorem dX10_seedSlot_96 : decode cX10_seedSlot 96 = .ok (.if_icmp .ge 23, 3) := by decide +kernel
theorem dX10_seedSlot_99 : decode cX10_seedSlot 99 = .ok (.aload_n 0, 1) := by decide +kernel
theorem dX10_seedSlot_100 : decode cX10_seedSlot 100 = .ok (.getfield 31, 3) := by decide +kernel
theorem dX10_seedSlot_103 : decode cX10_seedSlot 103 = .ok (.iload 4, 2) := by decide +kernel
theorem dX10_seedSlot_105 : decode cX10_seedSlot 105 = .ok (.aload_n 0, 1) := by decide +kernel
theorem dX10_seedSlot_106 : decode cX10_seedSlot 106 = .ok (.getfield 34, 3) := by decide +kernel
theorem dX10_seedSlot_109 : decode cX10_seedSlot 109 = .ok (.iload 4, 2) := by decide +kernel
theorem dX10_seedSlot_111 : decode cX10_seedSlot 111 = .ok (.iaload, 1) := by decide +kernel
theorem dX10_seedSlot_112 : decode cX10_seedSlot 112 = .ok (.iastore, 1) := by decide +kernel
theorem dX10_seedSlot_113 : decode cX10_seedSlot 113 = .ok (.iinc 4 1, 3) := by decide +kernel
theorem dX10_seedSlot_116 : decode cX10_seedSlot 116 = .ok (.goto (-25), 3) := by decide +kernel
theorem dX10_seedSlot_119 : decode cX10_seedSlot 119 = .ok (.iload_n 3, 1) := by decide +kernel
theorem dX10_seedSlot_120 : decode cX10_seedSlot 120 = .ok (.iconst 2, 1) := by decide +kernel
theorem dX10_seedSlot_121 : decode cX10_seedSlot 121 = .ok (.imul, 1) := by decide +kernel
theorem dX10_seedSlot_122 : decode cX10_seedSlot 122 = .ok (.istore_n 3, 1) := by decide +kernel
theorem dX10_seedSlot_123 : decode cX10_seedSlot 123 = .ok (.goto (-95), 3) := by decide +kernel
theorem dX10_seedSlot_126 : decode cX10_seedSlot 126 = .ok (.iconst 0, 1) := by decide +kernel
theorem dX10_seedSlot_127 : decode cX10_seedSlot 127 = .ok (.istore_n 3, 1) := by decide +kernel
theorem dX10_seedSlot_128 : decode cX10_seedSlot 128 = .ok (.aload_n 0, 1) := by decide +kernel
theorem dX10_seedSlot_129 : decode cX10_seedSlot 129 = .ok (.getfield 31, 3) := by decide +kernel
theorem dX10_seedSlot_132 : decode cX10_seedSlot 132 = .ok (.iload_n 3, 1) := by decide +kernel
theorem dX10_seedSlot_133 : decode cX10_seedSlot 133 = .ok (.iaload, 1) := by decide +kernel
theorem dX10_seedSlot_134 : decode cX10_seedSlot 134 = .ok (.iload_n 1, 1) := by decide +kernel
theorem dX10_seedSlot_135 : decode cX10_seedSlot 135 = .ok (.if_icmp .eq 9, 3) := by decide +kernel
theorem dX10_seedSlot_138 : decode cX10_seedSlot 138 = .ok (.iinc 3 1, 3) := by decide +kernel
theorem dX10_seedSlot_141 : decode cX10_seedSlot 141 = .ok (.goto (-13), 3) := by decide +kernel
theorem dX10_seedSlot_144 : decode cX10_seedSlot 144 = .ok (.iload_n 3, 1) := by decide +kernel
theorem dX10_seedSlot_145 : decode cX10_seedSlot 145 = .ok (.ireturn, 1) := by decide +kernel
theorem dX10_blockAt_0 : decode cX10_blockAt 0 = .ok (.sipush 1024, 3) := by decide +kernel
theorem dX10_blockAt_3 : decode cX10_blockAt 3 = .ok (.iload_n 0, 1) := by decide +kernel
theorem dX10_blockAt_4 : decode cX10_blockAt 4 = .ok (.ifCond .ne 7, 3) := by decide +kernel
theorem dX10_blockAt_7 : decode cX10_blockAt 7 = .ok (.iconst 0, 1) := by decide +kernel
theorem dX10_blockAt_8 : decode cX10_blockAt 8 = .ok (.goto 35, 3) := by decide +kernel
theorem dX10_blockAt_11 : decode cX10_blockAt 11 = .ok (.iload_n 0, 1) := by decide +kernel
theorem dX10_blockAt_12 : decode cX10_blockAt 12 = .ok (.iconst 1, 1) := by decide +kernel
theorem dX10_blockAt_13 : decode cX10_blockAt 13 = .ok (.if_icmp .ne 8, 3) := by decide +kernel
theorem dX10_blockAt_16 : decode cX10_blockAt 16 = .ok (.bipush 16, 2) := by decide +kernel
theorem dX10_blockAt_18 : decode cX10_blockAt 18 = .ok (.goto 25, 3) := by decide +kernel
theorem dX10_blockAt_21 : decode cX10_blockAt 21 = .ok (.iload_n 0, 1) := by decide +kernel
theorem dX10_blockAt_22 : decode cX10_blockAt 22 = .ok (.iconst 2, 1) := by decide +kernel
theorem dX10_blockAt_23 : decode cX10_blockAt 23 = .ok (.if_icmp .ne 8, 3) := by decide +kernel
theorem dX10_blockAt_26 : decode cX10_blockAt 26 = .ok (.bipush 24, 2) := by decide +kernel
theorem dX10_blockAt_28 : decode cX10_blockAt 28 = .ok (.goto 15, 3) := by decide +kernel
theorem dX10_blockAt_31 : decode cX10_blockAt 31 = .ok (.iload_n 0, 1) := by decide +kernel
theorem dX10_blockAt_32 : decode cX10_blockAt 32 = .ok (.iconst 3, 1) := by decide +kernel
theorem dX10_blockAt_33 : decode cX10_blockAt 33 = .ok (.if_icmp .ne 8, 3) := by decide +kernel
theorem dX10_blockAt_36 : decode cX10_blockAt 36 = .ok (.bipush 28, 2) := by decide +kernel
theorem dX10_blockAt_38 : decode cX10_blockAt 38 = .ok (.goto 5, 3) := by decide +kernel
theorem dX10_blockAt_41 : decode cX10_blockAt 41 = .ok (.bipush 30, 2) := by decide +kernel
theorem dX10_blockAt_43 : decode cX10_blockAt 43 = .ok (.iload_n 1, 1) := by decide +kernel
theorem dX10_blockAt_44 : decode cX10_blockAt 44 = .ok (.iadd, 1) := by decide +kernel
theorem dX10_blockAt_45 : decode cX10_blockAt 45 = .ok (.imul, 1) := by decide +kernel
theorem dX10_blockAt_46 : decode cX10_blockAt 46 = .ok (.ireturn, 1) := by decide +kernel
theorem dX10_areUnlike_0 : decode cX10_areUnlike 0 = .ok (.iconst 0, 1) := by decide +kernel
theorem dX10_areUnlike_1 : decode cX10_areUnlike 1 = .ok (.istore_n 3, 1) := by decide +kernel
theorem dX10_areUnlike_2 : decode cX10_areUnlike 2 = .ok (.iconst 0, 1) := by decide +kernel
theorem dX10_areUnlike_3 : decode cX10_areUnlike 3 = .ok (.istore 4, 2) := by decide +kernel
theorem dX10_areUnlike_5 : decode cX10_areUnlike 5 = .ok (.iload 4, 2) := by decide +kernel
theorem dX10_areUnlike_7 : decode cX10_areUnlike 7 = .ok (.aload_n 0, 1) := by decide +kernel
theorem dX10_areUnlike_8 : decode cX10_areUnlike 8 = .ok (.getfield 9, 3) := by decide +kernel
theorem dX10_areUnlike_11 : decode cX10_areUnlike 11 = .ok (.iconst 0, 1) := by decide +kernel
theorem dX10_areUnlike_12 : decode cX10_areUnlike 12 = .ok (.iaload, 1) := by decide +kernel
theorem dX10_areUnlike_13 : decode cX10_areUnlike 13 = .ok (.if_icmp .ge 58, 3) := by decide +kernel
theorem dX10_areUnlike_16 : decode cX10_areUnlike 16 = .ok (.iload_n 1, 1) := by decide +kernel
theorem dX10_areUnlike_17 : decode cX10_areUnlike 17 = .ok (.iload 4, 2) := by decide +kernel
theorem dX10_areUnlike_19 : decode cX10_areUnlike 19 = .ok (.ishr, 1) := by decide +kernel
theorem dX10_areUnlike_20 : decode cX10_areUnlike 20 = .ok (.iconst 1, 1) := by decide +kernel
theorem dX10_areUnlike_21 : decode cX10_areUnlike 21 = .ok (.iand, 1) := by decide +kernel
theorem dX10_areUnlike_22 : decode cX10_areUnlike 22 = .ok (.iconst 1, 1) := by decide +kernel
theorem dX10_areUnlike_23 : decode cX10_areUnlike 23 = .ok (.if_icmp .ne 15, 3) := by decide +kernel
theorem dX10_areUnlike_26 : decode cX10_areUnlike 26 = .ok (.aload_n 0, 1) := by decide +kernel
theorem dX10_areUnlike_27 : decode cX10_areUnlike 27 = .ok (.getfield 9, 3) := by decide +kernel
theorem dX10_areUnlike_30 : decode cX10_areUnlike 30 = .ok (.iload_n 2, 1) := by decide +kernel
theorem dX10_areUnlike_31 : decode cX10_areUnlike 31 = .ok (.iload 4, 2) := by decide +kernel
theorem dX10_areUnlike_33 : decode cX10_areUnlike 33 = .ok (.iadd, 1) := by decide +kernel
theorem dX10_areUnlike_34 : decode cX10_areUnlike 34 = .ok (.iaload, 1) := by decide +kernel
theorem dX10_areUnlike_35 : decode cX10_areUnlike 35 = .ok (.goto 4, 3) := by decide +kernel
theorem dX10_areUnlike_38 : decode cX10_areUnlike 38 = .ok (.iconst 0, 1) := by decide +kernel
theorem dX10_areUnlike_39 : decode cX10_areUnlike 39 = .ok (.istore 5, 2) := by decide +kernel
theorem dX10_areUnlike_41 : decode cX10_areUnlike 41 = .ok (.iload 5, 2) := by decide +kernel
theorem dX10_areUnlike_43 : decode cX10_areUnlike 43 = .ok (.ifCond .le 15, 3) := by decide +kernel
theorem dX10_areUnlike_46 : decode cX10_areUnlike 46 = .ok (.iload_n 3, 1) := by decide +kernel
theorem dX10_areUnlike_47 : decode cX10_areUnlike 47 = .ok (.iload 5, 2) := by decide +kernel
theorem dX10_areUnlike_49 : decode cX10_areUnlike 49 = .ok (.ishr, 1) := by decide +kernel
theorem dX10_areUnlike_50 : decode cX10_areUnlike 50 = .ok (.iconst 1, 1) := by decide +kernel
theorem dX10_areUnlike_51 : decode cX10_areUnlike 51 = .ok (.iand, 1) := by decide +kernel
theorem dX10_areUnlike_52 : decode cX10_areUnlike 52 = .ok (.iconst 1, 1) := by decide +kernel
theorem dX10_areUnlike_53 : decode cX10_areUnlike 53 = .ok (.if_icmp .ne 5, 3) := by decide +kernel
theorem dX10_areUnlike_56 : decode cX10_areUnlike 56 = .ok (.iconst 0, 1) := by decide +kernel
theorem dX10_areUnlike_57 : decode cX10_areUnlike 57 = .ok (.ireturn, 1) := by decide +kernel
theorem dX10_areUnlike_58 : decode cX10_areUnlike 58 = .ok (.iload_n 3, 1) := by decide +kernel
theorem dX10_areUnlike_59 : decode cX10_areUnlike 59 = .ok (.iconst 1, 1) := by decide +kernel
theorem dX10_areUnlike_60 : decode cX10_areUnlike 60 = .ok (.iload 5, 2) := by decide +kernel
theorem dX10_areUnlike_62 : decode cX10_areUnlike 62 = .ok (.ishl, 1) := by decide +kernel
theorem dX10_areUnlike_63 : decode cX10_areUnlike 63 = .ok (.ior, 1) := by decide +kernel
theorem dX10_areUnlike_64 : decode cX10_areUnlike 64 = .ok (.istore_n 3, 1) := by decide +kernel
theorem dX10_areUnlike_65 : decode cX10_areUnlike 65 = .ok (.iinc 4 1, 3) := by decide +kernel
theorem dX10_areUnlike_68 : decode cX10_areUnlike 68 = .ok (.goto (-63), 3) := by decide +kernel
theorem dX10_areUnlike_71 : decode cX10_areUnlike 71 = .ok (.iconst 1, 1) := by decide +kernel
theorem dX10_areUnlike_72 : decode cX10_areUnlike 72 = .ok (.ireturn, 1) := by decide +kernel
theorem dX10_prepares_0 : decode cX10_prepares 0 = .ok (.aload_n 0, 1) := by decide +kernel
theorem dX10_prepares_1 : decode cX10_prepares 1 = .ok (.iconst 0, 1) := by decide +kernel
theorem dX10_prepares_2 : decode cX10_prepares 2 = .ok (.putfield 171, 3) := by decide +kernel
theorem dX10_prepares_5 : decode cX10_prepares 5 = .ok (.iconst 0, 1) := by decide +kernel
theorem dX10_prepares_6 : decode cX10_prepares 6 = .ok (.istore_n 1, 1) := by decide +kernel
theorem dX10_prepares_7 : decode cX10_prepares 7 = .ok (.iload_n 1, 1) := by decide +kernel
theorem dX10_prepares_8 : decode cX10_prepares 8 = .ok (.aload_n 0, 1) := by decide +kernel
theorem dX10_prepares_9 : decode cX10_prepares 9 = .ok (.getfield 9, 3) := by decide +kernel
theorem dX10_prepares_12 : decode cX10_prepares 12 = .ok (.iconst 0, 1) := by decide +kernel
theorem dX10_prepares_13 : decode cX10_prepares 13 = .ok (.iaload, 1) := by decide +kernel
theorem dX10_prepares_14 : decode cX10_prepares 14 = .ok (.if_icmp .ge 66, 3) := by decide +kernel
theorem dX10_prepares_17 : decode cX10_prepares 17 = .ok (.aload_n 0, 1) := by decide +kernel
theorem dX10_prepares_18 : decode cX10_prepares 18 = .ok (.getfield 54, 3) := by decide +kernel
theorem dX10_prepares_21 : decode cX10_prepares 21 = .ok (.iload_n 1, 1) := by decide +kernel
theorem dX10_prepares_22 : decode cX10_prepares 22 = .ok (.aload_n 0, 1) := by decide +kernel
theorem dX10_prepares_23 : decode cX10_prepares 23 = .ok (.aload_n 0, 1) := by decide +kernel
theorem dX10_prepares_24 : decode cX10_prepares 24 = .ok (.getfield 9, 3) := by decide +kernel
theorem dX10_prepares_27 : decode cX10_prepares 27 = .ok (.bipush 25, 2) := by decide +kernel
theorem dX10_prepares_29 : decode cX10_prepares 29 = .ok (.iload_n 1, 1) := by decide +kernel
theorem dX10_prepares_30 : decode cX10_prepares 30 = .ok (.iadd, 1) := by decide +kernel
theorem dX10_prepares_31 : decode cX10_prepares 31 = .ok (.iaload, 1) := by decide +kernel
theorem dX10_prepares_32 : decode cX10_prepares 32 = .ok (.invokevirtual 130, 3) := by decide +kernel
theorem dX10_prepares_35 : decode cX10_prepares 35 = .ok (.iastore, 1) := by decide +kernel
theorem dX10_prepares_36 : decode cX10_prepares 36 = .ok (.aload_n 0, 1) := by decide +kernel
theorem dX10_prepares_37 : decode cX10_prepares 37 = .ok (.dup, 1) := by decide +kernel
theorem dX10_prepares_38 : decode cX10_prepares 38 = .ok (.getfield 171, 3) := by decide +kernel
theorem dX10_prepares_41 : decode cX10_prepares 41 = .ok (.aload_n 0, 1) := by decide +kernel
theorem dX10_prepares_42 : decode cX10_prepares 42 = .ok (.getfield 9, 3) := by decide +kernel
theorem dX10_prepares_45 : decode cX10_prepares 45 = .ok (.bipush 25, 2) := by decide +kernel
theorem dX10_prepares_47 : decode cX10_prepares 47 = .ok (.iload_n 1, 1) := by decide +kernel
theorem dX10_prepares_48 : decode cX10_prepares 48 = .ok (.iadd, 1) := by decide +kernel
theorem dX10_prepares_49 : decode cX10_prepares 49 = .ok (.iaload, 1) := by decide +kernel
theorem dX10_prepares_50 : decode cX10_prepares 50 = .ok (.i2l, 1) := by decide +kernel
theorem dX10_prepares_51 : decode cX10_prepares 51 = .ok (.lconst 1, 1) := by decide +kernel
theorem dX10_prepares_52 : decode cX10_prepares 52 = .ok (.aload_n 0, 1) := by decide +kernel
theorem dX10_prepares_53 : decode cX10_prepares 53 = .ok (.invokevirtual 174, 3) := by decide +kernel
theorem dX10_prepares_56 : decode cX10_prepares 56 = .ok (.i2l, 1) := by decide +kernel
theorem dX10_prepares_57 : decode cX10_prepares 57 = .ok (.invokestatic 63, 3) := by decide +kernel
theorem dX10_prepares_60 : decode cX10_prepares 60 = .ok (.ifCond .eq 9, 3) := by decide +kernel
theorem dX10_prepares_63 : decode cX10_prepares 63 = .ok (.iconst 1, 1) := by decide +kernel
theorem dX10_prepares_64 : decode cX10_prepares 64 = .ok (.iload_n 1, 1) := by decide +kernel
theorem dX10_prepares_65 : decode cX10_prepares 65 = .ok (.ishl, 1) := by decide +kernel
theorem dX10_prepares_66 : decode cX10_prepares 66 = .ok (.goto 4, 3) := by decide +kernel
theorem dX10_prepares_69 : decode cX10_prepares 69 = .ok (.iconst 0, 1) := by decide +kernel
theorem dX10_prepares_70 : decode cX10_prepares 70 = .ok (.ior, 1) := by decide +kernel
theorem dX10_prepares_71 : decode cX10_prepares 71 = .ok (.putfield 171, 3) := by decide +kernel
theorem dX10_prepares_74 : decode cX10_prepares 74 = .ok (.iinc 1 1, 3) := by decide +kernel
theorem dX10_prepares_77 : decode cX10_prepares 77 = .ok (.goto (-70), 3) := by decide +kernel
theorem dX10_prepares_80 : decode cX10_prepares 80 = .ok (.iconst 0, 1) := by decide +kernel
theorem dX10_prepares_81 : decode cX10_prepares 81 = .ok (.istore_n 1, 1) := by decide +kernel
theorem dX10_prepares_82 : decode cX10_prepares 82 = .ok (.iload_n 1, 1) := by decide +kernel
theorem dX10_prepares_83 : decode cX10_prepares 83 = .ok (.iconst 1, 1) := by decide +kernel
theorem dX10_prepares_84 : decode cX10_prepares 84 = .ok (.aload_n 0, 1) := by decide +kernel
theorem dX10_prepares_85 : decode cX10_prepares 85 = .ok (.getfield 9, 3) := by decide +kernel
theorem dX10_prepares_88 : decode cX10_prepares 88 = .ok (.iconst 0, 1) := by decide +kernel
theorem dX10_prepares_89 : decode cX10_prepares 89 = .ok (.iaload, 1) := by decide +kernel
theorem dX10_prepares_90 : decode cX10_prepares 90 = .ok (.ishl, 1) := by decide +kernel
theorem dX10_prepares_91 : decode cX10_prepares 91 = .ok (.if_icmp .ge 60, 3) := by decide +kernel
theorem dX10_prepares_94 : decode cX10_prepares 94 = .ok (.aload_n 0, 1) := by decide +kernel
theorem dX10_prepares_95 : decode cX10_prepares 95 = .ok (.getfield 51, 3) := by decide +kernel
theorem dX10_prepares_98 : decode cX10_prepares 98 = .ok (.iload_n 1, 1) := by decide +kernel
theorem dX10_prepares_99 : decode cX10_prepares 99 = .ok (.iload_n 1, 1) := by decide +kernel
theorem dX10_prepares_100 : decode cX10_prepares 100 = .ok (.ifCond .ne 7, 3) := by decide +kernel
theorem dX10_prepares_103 : decode cX10_prepares 103 = .ok (.iconst 0, 1) := by decide +kernel
theorem dX10_prepares_104 : decode cX10_prepares 104 = .ok (.goto 15, 3) := by decide +kernel
theorem dX10_prepares_107 : decode cX10_prepares 107 = .ok (.aload_n 0, 1) := by decide +kernel
theorem dX10_prepares_108 : decode cX10_prepares 108 = .ok (.getfield 51, 3) := by decide +kernel
theorem dX10_prepares_111 : decode cX10_prepares 111 = .ok (.iload_n 1, 1) := by decide +kernel
theorem dX10_prepares_112 : decode cX10_prepares 112 = .ok (.iconst 1, 1) := by decide +kernel
theorem dX10_prepares_113 : decode cX10_prepares 113 = .ok (.ishr, 1) := by decide +kernel
theorem dX10_prepares_114 : decode cX10_prepares 114 = .ok (.iaload, 1) := by decide +kernel
theorem dX10_prepares_115 : decode cX10_prepares 115 = .ok (.iload_n 1, 1) := by decide +kernel
theorem dX10_prepares_116 : decode cX10_prepares 116 = .ok (.iconst 1, 1) := by decide +kernel
theorem dX10_prepares_117 : decode cX10_prepares 117 = .ok (.iand, 1) := by decide +kernel
theorem dX10_prepares_118 : decode cX10_prepares 118 = .ok (.iadd, 1) := by decide +kernel
theorem dX10_prepares_119 : decode cX10_prepares 119 = .ok (.iastore, 1) := by decide +kernel
theorem dX10_prepares_120 : decode cX10_prepares 120 = .ok (.aload_n 0, 1) := by decide +kernel
theorem dX10_prepares_121 : decode cX10_prepares 121 = .ok (.getfield 44, 3) := by decide +kernel
theorem dX10_prepares_124 : decode cX10_prepares 124 = .ok (.iload_n 1, 1) := by decide +kernel
theorem dX10_prepares_125 : decode cX10_prepares 125 = .ok (.aload_n 0, 1) := by decide +kernel
theorem dX10_prepares_126 : decode cX10_prepares 126 = .ok (.iload_n 1, 1) := by decide +kernel
theorem dX10_prepares_127 : decode cX10_prepares 127 = .ok (.iconst 5, 1) := by decide +kernel
theorem dX10_prepares_128 : decode cX10_prepares 128 = .ok (.invokevirtual 177, 3) := by decide +kernel
theorem dX10_prepares_131 : decode cX10_prepares 131 = .ok (.bastore, 1) := by decide +kernel
theorem dX10_prepares_132 : decode cX10_prepares 132 = .ok (.aload_n 0, 1) := by decide +kernel
theorem dX10_prepares_133 : decode cX10_prepares 133 = .ok (.getfield 48, 3) := by decide +kernel
theorem dX10_prepares_136 : decode cX10_prepares 136 = .ok (.iload_n 1, 1) := by decide +kernel
theorem dX10_prepares_137 : decode cX10_prepares 137 = .ok (.aload_n 0, 1) := by decide +kernel
theorem dX10_prepares_138 : decode cX10_prepares 138 = .ok (.iload_n 1, 1) := by decide +kernel
theorem dX10_prepares_139 : decode cX10_prepares 139 = .ok (.bipush 15, 2) := by decide +kernel
theorem dX10_prepares_141 : decode cX10_prepares 141 = .ok (.invokevirtual 177, 3) := by decide +kernel
theorem dX10_prepares_144 : decode cX10_prepares 144 = .ok (.bastore, 1) := by decide +kernel
theorem dX10_prepares_145 : decode cX10_prepares 145 = .ok (.iinc 1 1, 3) := by decide +kernel
theorem dX10_prepares_148 : decode cX10_prepares 148 = .ok (.goto (-66), 3) := by decide +kernel
theorem dX10_prepares_151 : decode cX10_prepares 151 = .ok (.return_, 1) := by decide +kernel
theorem dX10_isSeated_0 : decode cX10_isSeated 0 = .ok (.iconst 1, 1) := by decide +kernel
theorem dX10_isSeated_1 : decode cX10_isSeated 1 = .ok (.istore 4, 2) := by decide +kernel
theorem dX10_isSeated_3 : decode cX10_isSeated 3 = .ok (.iconst 0, 1) := by decide +kernel
theorem dX10_isSeated_4 : decode cX10_isSeated 4 = .ok (.istore 5, 2) := by decide +kernel
theorem dX10_isSeated_6 : decode cX10_isSeated 6 = .ok (.iload 5, 2) := by decide +kernel
theorem dX10_isSeated_8 : decode cX10_isSeated 8 = .ok (.aload_n 0, 1) := by decide +kernel
theorem dX10_isSeated_9 : decode cX10_isSeated 9 = .ok (.getfield 9, 3) := by decide +kernel
theorem dX10_isSeated_12 : decode cX10_isSeated 12 = .ok (.iconst 0, 1) := by decide +kernel
theorem dX10_isSeated_13 : decode cX10_isSeated 13 = .ok (.iaload, 1) := by decide +kernel
theorem dX10_isSeated_14 : decode cX10_isSeated 14 = .ok (.if_icmp .ge 67, 3) := by decide +kernel
theorem dX10_isSeated_17 : decode cX10_isSeated 17 = .ok (.iload 4, 2) := by decide +kernel
theorem dX10_isSeated_19 : decode cX10_isSeated 19 = .ok (.ifCond .eq 53, 3) := by decide +kernel
theorem dX10_isSeated_22 : decode cX10_isSeated 22 = .ok (.aload_n 0, 1) := by decide +kernel
theorem dX10_isSeated_23 : decode cX10_isSeated 23 = .ok (.getfield 54, 3) := by decide +kernel
theorem dX10_isSeated_26 : decode cX10_isSeated 26 = .ok (.iload 5, 2) := by decide +kernel
theorem dX10_isSeated_28 : decode cX10_isSeated 28 = .ok (.iaload, 1) := by decide +kernel
theorem dX10_isSeated_29 : decode cX10_isSeated 29 = .ok (.ifCond .lt 39, 3) := by decide +kernel
theorem dX10_isSeated_32 : decode cX10_isSeated 32 = .ok (.aload_n 0, 1) := by decide +kernel
theorem dX10_isSeated_33 : decode cX10_isSeated 33 = .ok (.getfield 54, 3) := by decide +kernel
theorem dX10_isSeated_36 : decode cX10_isSeated 36 = .ok (.iload 5, 2) := by decide +kernel
theorem dX10_isSeated_38 : decode cX10_isSeated 38 = .ok (.iaload, 1) := by decide +kernel
theorem dX10_isSeated_39 : decode cX10_isSeated 39 = .ok (.iload_n 1, 1) := by decide +kernel
theorem dX10_isSeated_40 : decode cX10_isSeated 40 = .ok (.ishr, 1) := by decide +kernel
theorem dX10_isSeated_41 : decode cX10_isSeated 41 = .ok (.iload_n 2, 1) := by decide +kernel
theorem dX10_isSeated_42 : decode cX10_isSeated 42 = .ok (.if_icmp .ne 7, 3) := by decide +kernel
theorem dX10_isSeated_45 : decode cX10_isSeated 45 = .ok (.iconst 1, 1) := by decide +kernel
theorem dX10_isSeated_46 : decode cX10_isSeated 46 = .ok (.goto 4, 3) := by decide +kernel
theorem dX10_isSeated_49 : decode cX10_isSeated 49 = .ok (.iconst 0, 1) := by decide +kernel
theorem dX10_isSeated_50 : decode cX10_isSeated 50 = .ok (.iload_n 3, 1) := by decide +kernel
theorem dX10_isSeated_51 : decode cX10_isSeated 51 = .ok (.iload 5, 2) := by decide +kernel
theorem dX10_isSeated_53 : decode cX10_isSeated 53 = .ok (.ishr, 1) := by decide +kernel
theorem dX10_isSeated_54 : decode cX10_isSeated 54 = .ok (.iconst 1, 1) := by decide +kernel
theorem dX10_isSeated_55 : decode cX10_isSeated 55 = .ok (.iand, 1) := by decide +kernel
theorem dX10_isSeated_56 : decode cX10_isSeated 56 = .ok (.iconst 1, 1) := by decide +kernel
theorem dX10_isSeated_57 : decode cX10_isSeated 57 = .ok (.if_icmp .ne 7, 3) := by decide +kernel
theorem dX10_isSeated_60 : decode cX10_isSeated 60 = .ok (.iconst 1, 1) := by decide +kernel
theorem dX10_isSeated_61 : decode cX10_isSeated 61 = .ok (.goto 4, 3) := by decide +kernel
theorem dX10_isSeated_64 : decode cX10_isSeated 64 = .ok (.iconst 0, 1) := by decide +kernel
theorem dX10_isSeated_65 : decode cX10_isSeated 65 = .ok (.if_icmp .ne 7, 3) := by decide +kernel
theorem dX10_isSeated_68 : decode cX10_isSeated 68 = .ok (.iconst 1, 1) := by decide +kernel
theorem dX10_isSeated_69 : decode cX10_isSeated 69 = .ok (.goto 4, 3) := by decide +kernel
theorem dX10_isSeated_72 : decode cX10_isSeated 72 = .ok (.iconst 0, 1) := by decide +kernel
theorem dX10_isSeated_73 : decode cX10_isSeated 73 = .ok (.istore 4, 2) := by decide +kernel
theorem dX10_isSeated_75 : decode cX10_isSeated 75 = .ok (.iinc 5 1, 3) := by decide +kernel
theorem dX10_isSeated_78 : decode cX10_isSeated 78 = .ok (.goto (-72), 3) := by decide +kernel
theorem dX10_isSeated_81 : decode cX10_isSeated 81 = .ok (.iload 4, 2) := by decide +kernel
theorem dX10_isSeated_83 : decode cX10_isSeated 83 = .ok (.ireturn, 1) := by decide +kernel
theorem dX10_isAllowed_0 : decode cX10_isAllowed 0 = .ok (.aload_n 0, 1) := by decide +kernel
theorem dX10_isAllowed_1 : decode cX10_isAllowed 1 = .ok (.getfield 51, 3) := by decide +kernel
theorem dX10_isAllowed_4 : decode cX10_isAllowed 4 = .ok (.iload_n 3, 1) := by decide +kernel
theorem dX10_isAllowed_5 : decode cX10_isAllowed 5 = .ok (.iaload, 1) := by decide +kernel
theorem dX10_isAllowed_6 : decode cX10_isAllowed 6 = .ok (.iconst 1, 1) := by decide +kernel
theorem dX10_isAllowed_7 : decode cX10_isAllowed 7 = .ok (.iload_n 1, 1) := by decide +kernel
theorem dX10_isAllowed_8 : decode cX10_isAllowed 8 = .ok (.ishl, 1) := by decide +kernel
theorem dX10_isAllowed_9 : decode cX10_isAllowed 9 = .ok (.if_icmp .gt 41, 3) := by decide +kernel
theorem dX10_isAllowed_12 : decode cX10_isAllowed 12 = .ok (.iload_n 1, 1) := by decide +kernel
theorem dX10_isAllowed_13 : decode cX10_isAllowed 13 = .ok (.iconst 1, 1) := by decide +kernel
theorem dX10_isAllowed_14 : decode cX10_isAllowed 14 = .ok (.if_icmp .ne 12, 3) := by decide +kernel
theorem dX10_isAllowed_17 : decode cX10_isAllowed 17 = .ok (.aload_n 0, 1) := by decide +kernel
theorem dX10_isAllowed_18 : decode cX10_isAllowed 18 = .ok (.getfield 51, 3) := by decide +kernel
theorem dX10_isAllowed_21 : decode cX10_isAllowed 21 = .ok (.iload_n 3, 1) := by decide +kernel
theorem dX10_isAllowed_22 : decode cX10_isAllowed 22 = .ok (.iaload, 1) := by decide +kernel
theorem dX10_isAllowed_23 : decode cX10_isAllowed 23 = .ok (.ifCond .eq 27, 3) := by decide +kernel
theorem dX10_isAllowed_26 : decode cX10_isAllowed 26 = .ok (.iload_n 1, 1) := by decide +kernel
theorem dX10_isAllowed_27 : decode cX10_isAllowed 27 = .ok (.iconst 1, 1) := by decide +kernel
theorem dX10_isAllowed_28 : decode cX10_isAllowed 28 = .ok (.if_icmp .ne 24, 3) := by decide +kernel
theorem dX10_isAllowed_31 : decode cX10_isAllowed 31 = .ok (.aload_n 0, 1) := by decide +kernel
theorem dX10_isAllowed_32 : decode cX10_isAllowed 32 = .ok (.getfield 51, 3) := by decide +kernel
theorem dX10_isAllowed_35 : decode cX10_isAllowed 35 = .ok (.iload_n 3, 1) := by decide +kernel
theorem dX10_isAllowed_36 : decode cX10_isAllowed 36 = .ok (.iaload, 1) := by decide +kernel
theorem dX10_isAllowed_37 : decode cX10_isAllowed 37 = .ok (.iconst 2, 1) := by decide +kernel
theorem dX10_isAllowed_38 : decode cX10_isAllowed 38 = .ok (.if_icmp .ne 14, 3) := by decide +kernel
theorem dX10_isAllowed_41 : decode cX10_isAllowed 41 = .ok (.iload_n 3, 1) := by decide +kernel
theorem dX10_isAllowed_42 : decode cX10_isAllowed 42 = .ok (.aload_n 0, 1) := by decide +kernel
theorem dX10_isAllowed_43 : decode cX10_isAllowed 43 = .ok (.getfield 171, 3) := by decide +kernel
theorem dX10_isAllowed_46 : decode cX10_isAllowed 46 = .ok (.iand, 1) := by decide +kernel
theorem dX10_isAllowed_47 : decode cX10_isAllowed 47 = .ok (.ifCond .eq 5, 3) := by decide +kernel
theorem dX10_isAllowed_50 : decode cX10_isAllowed 50 = .ok (.iconst 0, 1) := by decide +kernel
theorem dX10_isAllowed_51 : decode cX10_isAllowed 51 = .ok (.ireturn, 1) := by decide +kernel
theorem dX10_isAllowed_52 : decode cX10_isAllowed 52 = .ok (.iload_n 1, 1) := by decide +kernel
theorem dX10_isAllowed_53 : decode cX10_isAllowed 53 = .ok (.aload_n 0, 1) := by decide +kernel
theorem dX10_isAllowed_54 : decode cX10_isAllowed 54 = .ok (.getfield 9, 3) := by decide +kernel
theorem dX10_isAllowed_57 : decode cX10_isAllowed 57 = .ok (.iconst 1, 1) := by decide +kernel
theorem dX10_isAllowed_58 : decode cX10_isAllowed 58 = .ok (.iaload, 1) := by decide +kernel
theorem dX10_isAllowed_59 : decode cX10_isAllowed 59 = .ok (.if_icmp .gt 12, 3) := by decide +kernel
theorem dX10_isAllowed_62 : decode cX10_isAllowed 62 = .ok (.aload_n 0, 1) := by decide +kernel
theorem dX10_isAllowed_63 : decode cX10_isAllowed 63 = .ok (.getfield 44, 3) := by decide +kernel
theorem dX10_isAllowed_66 : decode cX10_isAllowed 66 = .ok (.iload_n 3, 1) := by decide +kernel
theorem dX10_isAllowed_67 : decode cX10_isAllowed 67 = .ok (.baload, 1) := by decide +kernel
theorem dX10_isAllowed_68 : decode cX10_isAllowed 68 = .ok (.ifCond .eq 36, 3) := by decide +kernel
theorem dX10_isAllowed_71 : decode cX10_isAllowed 71 = .ok (.iload_n 1, 1) := by decide +kernel
theorem dX10_isAllowed_72 : decode cX10_isAllowed 72 = .ok (.aload_n 0, 1) := by decide +kernel
theorem dX10_isAllowed_73 : decode cX10_isAllowed 73 = .ok (.getfield 9, 3) := by decide +kernel
theorem dX10_isAllowed_76 : decode cX10_isAllowed 76 = .ok (.iconst 2, 1) := by decide +kernel
theorem dX10_isAllowed_77 : decode cX10_isAllowed 77 = .ok (.iaload, 1) := by decide +kernel
theorem dX10_isAllowed_78 : decode cX10_isAllowed 78 = .ok (.if_icmp .gt 12, 3) := by decide +kernel
theorem dX10_isAllowed_81 : decode cX10_isAllowed 81 = .ok (.aload_n 0, 1) := by decide +kernel
theorem dX10_isAllowed_82 : decode cX10_isAllowed 82 = .ok (.getfield 48, 3) := by decide +kernel
theorem dX10_isAllowed_85 : decode cX10_isAllowed 85 = .ok (.iload_n 3, 1) := by decide +kernel
theorem dX10_isAllowed_86 : decode cX10_isAllowed 86 = .ok (.baload, 1) := by decide +kernel
theorem dX10_isAllowed_87 : decode cX10_isAllowed 87 = .ok (.ifCond .eq 17, 3) := by decide +kernel
theorem dX10_isAllowed_90 : decode cX10_isAllowed 90 = .ok (.aload_n 0, 1) := by decide +kernel
theorem dX10_isAllowed_91 : decode cX10_isAllowed 91 = .ok (.iload_n 1, 1) := by decide +kernel
theorem dX10_isAllowed_92 : decode cX10_isAllowed 92 = .ok (.iload_n 2, 1) := by decide +kernel
theorem dX10_isAllowed_93 : decode cX10_isAllowed 93 = .ok (.iload_n 3, 1) := by decide +kernel
theorem dX10_isAllowed_94 : decode cX10_isAllowed 94 = .ok (.invokevirtual 180, 3) := by decide +kernel
theorem dX10_isAllowed_97 : decode cX10_isAllowed 97 = .ok (.ifCond .eq 7, 3) := by decide +kernel
theorem dX10_isAllowed_100 : decode cX10_isAllowed 100 = .ok (.iconst 1, 1) := by decide +kernel
theorem dX10_isAllowed_101 : decode cX10_isAllowed 101 = .ok (.goto 4, 3) := by decide +kernel
theorem dX10_isAllowed_104 : decode cX10_isAllowed 104 = .ok (.iconst 0, 1) := by decide +kernel
theorem dX10_isAllowed_105 : decode cX10_isAllowed 105 = .ok (.ireturn, 1) := by decide +kernel
theorem dX10_isMore_0 : decode cX10_isMore 0 = .ok (.aload_n 0, 1) := by decide +kernel
theorem dX10_isMore_1 : decode cX10_isMore 1 = .ok (.getfield 184, 3) := by decide +kernel
theorem dX10_isMore_4 : decode cX10_isMore 4 = .ok (.ifCond .lt 29, 3) := by decide +kernel
theorem dX10_isMore_7 : decode cX10_isMore 7 = .ok (.iload_n 1, 1) := by decide +kernel
theorem dX10_isMore_8 : decode cX10_isMore 8 = .ok (.ifCond .gt 19, 3) := by decide +kernel
theorem dX10_isMore_11 : decode cX10_isMore 11 = .ok (.iload_n 2, 1) := by decide +kernel
theorem dX10_isMore_12 : decode cX10_isMore 12 = .ok (.aload_n 0, 1) := by decide +kernel
theorem dX10_isMore_13 : decode cX10_isMore 13 = .ok (.getfield 184, 3) := by decide +kernel
theorem dX10_isMore_16 : decode cX10_isMore 16 = .ok (.if_icmp .ne 11, 3) := by decide +kernel
theorem dX10_isMore_19 : decode cX10_isMore 19 = .ok (.iload_n 3, 1) := by decide +kernel
theorem dX10_isMore_20 : decode cX10_isMore 20 = .ok (.aload_n 0, 1) := by decide +kernel
theorem dX10_isMore_21 : decode cX10_isMore 21 = .ok (.getfield 187, 3) := by decide +kernel
theorem dX10_isMore_24 : decode cX10_isMore 24 = .ok (.if_icmp .ne 7, 3) := by decide +kernel
theorem dX10_isMore_27 : decode cX10_isMore 27 = .ok (.iconst 1, 1) := by decide +kernel
theorem dX10_isMore_28 : decode cX10_isMore 28 = .ok (.goto 4, 3) := by decide +kernel
theorem dX10_isMore_31 : decode cX10_isMore 31 = .ok (.iconst 0, 1) := by decide +kernel
theorem dX10_isMore_32 : decode cX10_isMore 32 = .ok (.ireturn, 1) := by decide +kernel
theorem dX10_isMore_33 : decode cX10_isMore 33 = .ok (.iload_n 1, 1) := by decide +kernel
theorem dX10_isMore_34 : decode cX10_isMore 34 = .ok (.aload_n 0, 1) := by decide +kernel
theorem dX10_isMore_35 : decode cX10_isMore 35 = .ok (.getfield 190, 3) := by decide +kernel
theorem dX10_isMore_38 : decode cX10_isMore 38 = .ok (.if_icmp .ne 18, 3) := by decide +kernel
theorem dX10_isMore_41 : decode cX10_isMore 41 = .ok (.aload_n 0, 1) := by decide +kernel
theorem dX10_isMore_42 : decode cX10_isMore 42 = .ok (.getfield 51, 3) := by decide +kernel
theorem dX10_isMore_45 : decode cX10_isMore 45 = .ok (.iload_n 3, 1) := by decide +kernel
theorem dX10_isMore_46 : decode cX10_isMore 46 = .ok (.aload_n 0, 1) := by decide +kernel
theorem dX10_isMore_47 : decode cX10_isMore 47 = .ok (.getfield 187, 3) := by decide +kernel
theorem dX10_isMore_50 : decode cX10_isMore 50 = .ok (.iand, 1) := by decide +kernel
theorem dX10_isMore_51 : decode cX10_isMore 51 = .ok (.iaload, 1) := by decide +kernel
theorem dX10_isMore_52 : decode cX10_isMore 52 = .ok (.iconst 2, 1) := by decide +kernel
theorem dX10_isMore_53 : decode cX10_isMore 53 = .ok (.if_icmp .ge 7, 3) := by decide +kernel
theorem dX10_isMore_56 : decode cX10_isMore 56 = .ok (.iconst 1, 1) := by decide +kernel
theorem dX10_isMore_57 : decode cX10_isMore 57 = .ok (.goto 4, 3) := by decide +kernel
theorem dX10_isMore_60 : decode cX10_isMore 60 = .ok (.iconst 0, 1) := by decide +kernel
theorem dX10_isMore_61 : decode cX10_isMore 61 = .ok (.ireturn, 1) := by decide +kernel
theorem dX10_sumOf_0 : decode cX10_sumOf 0 = .ok (.iload_n 2, 1) := by decide +kernel
theorem dX10_sumOf_1 : decode cX10_sumOf 1 = .ok (.iconst 1, 1) := by decide +kernel
theorem dX10_sumOf_2 : decode cX10_sumOf 2 = .ok (.isub, 1) := by decide +kernel
theorem dX10_sumOf_3 : decode cX10_sumOf 3 = .ok (.iconst 2, 1) := by decide +kernel
theorem dX10_sumOf_4 : decode cX10_sumOf 4 = .ok (.iload_n 3, 1) := by decide +kernel
theorem dX10_sumOf_5 : decode cX10_sumOf 5 = .ok (.imul, 1) := by decide +kernel
theorem dX10_sumOf_6 : decode cX10_sumOf 6 = .ok (.invokestatic 193, 3) := by decide +kernel
theorem dX10_sumOf_9 : decode cX10_sumOf 9 = .ok (.istore 5, 2) := by decide +kernel
theorem dX10_sumOf_11 : decode cX10_sumOf 11 = .ok (.iload_n 2, 1) := by decide +kernel
theorem dX10_sumOf_12 : decode cX10_sumOf 12 = .ok (.iconst 1, 1) := by decide +kernel
theorem dX10_sumOf_13 : decode cX10_sumOf 13 = .ok (.isub, 1) := by decide +kernel
theorem dX10_sumOf_14 : decode cX10_sumOf 14 = .ok (.iconst 2, 1) := by decide +kernel
theorem dX10_sumOf_15 : decode cX10_sumOf 15 = .ok (.iload_n 3, 1) := by decide +kernel
theorem dX10_sumOf_16 : decode cX10_sumOf 16 = .ok (.imul, 1) := by decide +kernel
theorem dX10_sumOf_17 : decode cX10_sumOf 17 = .ok (.iconst 1, 1) := by decide +kernel
theorem dX10_sumOf_18 : decode cX10_sumOf 18 = .ok (.iadd, 1) := by decide +kernel
theorem dX10_sumOf_19 : decode cX10_sumOf 19 = .ok (.invokestatic 193, 3) := by decide +kernel
theorem dX10_sumOf_22 : decode cX10_sumOf 22 = .ok (.istore 6, 2) := by decide +kernel
theorem dX10_sumOf_24 : decode cX10_sumOf 24 = .ok (.aload_n 1, 1) := by decide +kernel
theorem dX10_sumOf_25 : decode cX10_sumOf 25 = .ok (.iload 5, 2) := by decide +kernel
theorem dX10_sumOf_27 : decode cX10_sumOf 27 = .ok (.laload, 1) := by decide +kernel
theorem dX10_sumOf_28 : decode cX10_sumOf 28 = .ok (.aload_n 1, 1) := by decide +kernel
theorem dX10_sumOf_29 : decode cX10_sumOf 29 = .ok (.iload 6, 2) := by decide +kernel
theorem dX10_sumOf_31 : decode cX10_sumOf 31 = .ok (.iload 4, 2) := by decide +kernel
theorem dX10_sumOf_33 : decode cX10_sumOf 33 = .ok (.iadd, 1) := by decide +kernel
theorem dX10_sumOf_34 : decode cX10_sumOf 34 = .ok (.laload, 1) := by decide +kernel
theorem dX10_sumOf_35 : decode cX10_sumOf 35 = .ok (.lmul, 1) := by decide +kernel
theorem dX10_sumOf_36 : decode cX10_sumOf 36 = .ok (.lstore 7, 2) := by decide +kernel
theorem dX10_sumOf_38 : decode cX10_sumOf 38 = .ok (.iload 4, 2) := by decide +kernel
theorem dX10_sumOf_40 : decode cX10_sumOf 40 = .ok (.istore 9, 2) := by decide +kernel
theorem dX10_sumOf_42 : decode cX10_sumOf 42 = .ok (.iload 9, 2) := by decide +kernel
theorem dX10_sumOf_44 : decode cX10_sumOf 44 = .ok (.ifCond .le 56, 3) := by decide +kernel
theorem dX10_sumOf_47 : decode cX10_sumOf 47 = .ok (.lload 7, 2) := by decide +kernel
theorem dX10_sumOf_49 : decode cX10_sumOf 49 = .ok (.aload_n 1, 1) := by decide +kernel
theorem dX10_sumOf_50 : decode cX10_sumOf 50 = .ok (.iload 5, 2) := by decide +kernel
theorem dX10_sumOf_52 : decode cX10_sumOf 52 = .ok (.iload 9, 2) := by decide +kernel
theorem dX10_sumOf_54 : decode cX10_sumOf 54 = .ok (.iadd, 1) := by decide +kernel
theorem dX10_sumOf_55 : decode cX10_sumOf 55 = .ok (.laload, 1) := by decide +kernel
theorem dX10_sumOf_56 : decode cX10_sumOf 56 = .ok (.lconst 0, 1) := by decide +kernel
theorem dX10_sumOf_57 : decode cX10_sumOf 57 = .ok (.lcmp, 1) := by decide +kernel
theorem dX10_sumOf_58 : decode cX10_sumOf 58 = .ok (.ifCond .ne 7, 3) := by decide +kernel
theorem dX10_sumOf_61 : decode cX10_sumOf 61 = .ok (.lconst 0, 1) := by decide +kernel
theorem dX10_sumOf_62 : decode cX10_sumOf 62 = .ok (.goto 23, 3) := by decide +kernel
theorem dX10_sumOf_65 : decode cX10_sumOf 65 = .ok (.aload_n 1, 1) := by decide +kernel
theorem dX10_sumOf_66 : decode cX10_sumOf 66 = .ok (.iload 5, 2) := by decide +kernel
theorem dX10_sumOf_68 : decode cX10_sumOf 68 = .ok (.iload 9, 2) := by decide +kernel
theorem dX10_sumOf_70 : decode cX10_sumOf 70 = .ok (.iadd, 1) := by decide +kernel
theorem dX10_sumOf_71 : decode cX10_sumOf 71 = .ok (.laload, 1) := by decide +kernel
theorem dX10_sumOf_72 : decode cX10_sumOf 72 = .ok (.aload_n 1, 1) := by decide +kernel
theorem dX10_sumOf_73 : decode cX10_sumOf 73 = .ok (.iload 6, 2) := by decide +kernel
theorem dX10_sumOf_75 : decode cX10_sumOf 75 = .ok (.iload 4, 2) := by decide +kernel
theorem dX10_sumOf_77 : decode cX10_sumOf 77 = .ok (.iload 9, 2) := by decide +kernel
theorem dX10_sumOf_79 : decode cX10_sumOf 79 = .ok (.iconst (-1), 1) := by decide +kernel
theorem dX10_sumOf_80 : decode cX10_sumOf 80 = .ok (.ixor, 1) := by decide +kernel
theorem dX10_sumOf_81 : decode cX10_sumOf 81 = .ok (.iand, 1) := by decide +kernel
theorem dX10_sumOf_82 : decode cX10_sumOf 82 = .ok (.iadd, 1) := by decide +kernel
theorem dX10_sumOf_83 : decode cX10_sumOf 83 = .ok (.laload, 1) := by decide +kernel
theorem dX10_sumOf_84 : decode cX10_sumOf 84 = .ok (.lmul, 1) := by decide +kernel
theorem dX10_sumOf_85 : decode cX10_sumOf 85 = .ok (.ladd, 1) := by decide +kernel
theorem dX10_sumOf_86 : decode cX10_sumOf 86 = .ok (.lstore 7, 2) := by decide +kernel
theorem dX10_sumOf_88 : decode cX10_sumOf 88 = .ok (.iload 9, 2) := by decide +kernel
theorem dX10_sumOf_90 : decode cX10_sumOf 90 = .ok (.iconst 1, 1) := by decide +kernel
theorem dX10_sumOf_91 : decode cX10_sumOf 91 = .ok (.isub, 1) := by decide +kernel
theorem dX10_sumOf_92 : decode cX10_sumOf 92 = .ok (.iload 4, 2) := by decide +kernel
theorem dX10_sumOf_94 : decode cX10_sumOf 94 = .ok (.iand, 1) := by decide +kernel
theorem dX10_sumOf_95 : decode cX10_sumOf 95 = .ok (.istore 9, 2) := by decide +kernel
theorem dX10_sumOf_97 : decode cX10_sumOf 97 = .ok (.goto (-55), 3) := by decide +kernel
theorem dX10_sumOf_100 : decode cX10_sumOf 100 = .ok (.lload 7, 2) := by decide +kernel
theorem dX10_sumOf_102 : decode cX10_sumOf 102 = .ok (.lreturn, 1) := by decide +kernel
theorem dX10_reckons_0 : decode cX10_reckons 0 = .ok (.aload_n 0, 1) := by decide +kernel
theorem dX10_reckons_1 : decode cX10_reckons 1 = .ok (.invokevirtual 197, 3) := by decide +kernel
theorem dX10_reckons_4 : decode cX10_reckons 4 = .ok (.aload_n 0, 1) := by decide +kernel
theorem dX10_reckons_5 : decode cX10_reckons 5 = .ok (.invokevirtual 71, 3) := by decide +kernel
theorem dX10_reckons_8 : decode cX10_reckons 8 = .ok (.istore_n 2, 1) := by decide +kernel
theorem dX10_reckons_9 : decode cX10_reckons 9 = .ok (.iconst 0, 1) := by decide +kernel
theorem dX10_reckons_10 : decode cX10_reckons 10 = .ok (.istore_n 3, 1) := by decide +kernel
theorem dX10_reckons_11 : decode cX10_reckons 11 = .ok (.iload_n 3, 1) := by decide +kernel
theorem dX10_reckons_12 : decode cX10_reckons 12 = .ok (.iload_n 2, 1) := by decide +kernel
theorem dX10_reckons_13 : decode cX10_reckons 13 = .ok (.if_icmp .gt 119, 3) := by decide +kernel
theorem dX10_reckons_16 : decode cX10_reckons 16 = .ok (.iconst 0, 1) := by decide +kernel
theorem dX10_reckons_17 : decode cX10_reckons 17 = .ok (.istore 4, 2) := by decide +kernel
theorem dX10_reckons_19 : decode cX10_reckons 19 = .ok (.iload 4, 2) := by decide +kernel
theorem dX10_reckons_21 : decode cX10_reckons 21 = .ok (.iconst 1, 1) := by decide +kernel
theorem dX10_reckons_22 : decode cX10_reckons 22 = .ok (.iload_n 2, 1) := by decide +kernel
theorem dX10_reckons_23 : decode cX10_reckons 23 = .ok (.iload_n 3, 1) := by decide +kernel
theorem dX10_reckons_24 : decode cX10_reckons 24 = .ok (.isub, 1) := by decide +kernel
theorem dX10_reckons_25 : decode cX10_reckons 25 = .ok (.ishl, 1) := by decide +kernel
theorem dX10_reckons_26 : decode cX10_reckons 26 = .ok (.if_icmp .ge 100, 3) := by decide +kernel
theorem dX10_reckons_29 : decode cX10_reckons 29 = .ok (.iconst 0, 1) := by decide +kernel
theorem dX10_reckons_30 : decode cX10_reckons 30 = .ok (.istore 5, 2) := by decide +kernel
theorem dX10_reckons_32 : decode cX10_reckons 32 = .ok (.iload 5, 2) := by decide +kernel
theorem dX10_reckons_34 : decode cX10_reckons 34 = .ok (.iconst 1, 1) := by decide +kernel
theorem dX10_reckons_35 : decode cX10_reckons 35 = .ok (.aload_n 0, 1) := by decide +kernel
theorem dX10_reckons_36 : decode cX10_reckons 36 = .ok (.getfield 9, 3) := by decide +kernel
theorem dX10_reckons_39 : decode cX10_reckons 39 = .ok (.iconst 0, 1) := by decide +kernel
theorem dX10_reckons_40 : decode cX10_reckons 40 = .ok (.iaload, 1) := by decide +kernel
theorem dX10_reckons_41 : decode cX10_reckons 41 = .ok (.ishl, 1) := by decide +kernel
theorem dX10_reckons_42 : decode cX10_reckons 42 = .ok (.if_icmp .ge 78, 3) := by decide +kernel
theorem dX10_reckons_45 : decode cX10_reckons 45 = .ok (.aload_n 0, 1) := by decide +kernel
theorem dX10_reckons_46 : decode cX10_reckons 46 = .ok (.iload_n 3, 1) := by decide +kernel
theorem dX10_reckons_47 : decode cX10_reckons 47 = .ok (.iload 4, 2) := by decide +kernel
theorem dX10_reckons_49 : decode cX10_reckons 49 = .ok (.iload 5, 2) := by decide +kernel
theorem dX10_reckons_51 : decode cX10_reckons 51 = .ok (.invokevirtual 200, 3) := by decide +kernel
theorem dX10_reckons_54 : decode cX10_reckons 54 = .ok (.ifCond .eq 19, 3) := by decide +kernel
theorem dX10_reckons_57 : decode cX10_reckons 57 = .ok (.aload_n 0, 1) := by decide +kernel
theorem dX10_reckons_58 : decode cX10_reckons 58 = .ok (.iload_n 3, 1) := by decide +kernel
theorem dX10_reckons_59 : decode cX10_reckons 59 = .ok (.iload 4, 2) := by decide +kernel
theorem dX10_reckons_61 : decode cX10_reckons 61 = .ok (.iload 5, 2) := by decide +kernel
theorem dX10_reckons_63 : decode cX10_reckons 63 = .ok (.invokevirtual 203, 3) := by decide +kernel
theorem dX10_reckons_66 : decode cX10_reckons 66 = .ok (.ifCond .eq 7, 3) := by decide +kernel
theorem dX10_reckons_69 : decode cX10_reckons 69 = .ok (.iconst 1, 1) := by decide +kernel
theorem dX10_reckons_70 : decode cX10_reckons 70 = .ok (.goto 4, 3) := by decide +kernel
theorem dX10_reckons_73 : decode cX10_reckons 73 = .ok (.iconst 0, 1) := by decide +kernel
theorem dX10_reckons_74 : decode cX10_reckons 74 = .ok (.istore 6, 2) := by decide +kernel
theorem dX10_reckons_76 : decode cX10_reckons 76 = .ok (.aload_n 1, 1) := by decide +kernel
theorem dX10_reckons_77 : decode cX10_reckons 77 = .ok (.iload_n 3, 1) := by decide +kernel
theorem dX10_reckons_78 : decode cX10_reckons 78 = .ok (.iload 4, 2) := by decide +kernel
theorem dX10_reckons_80 : decode cX10_reckons 80 = .ok (.invokestatic 193, 3) := by decide +kernel
theorem dX10_reckons_83 : decode cX10_reckons 83 = .ok (.iload 5, 2) := by decide +kernel
theorem dX10_reckons_85 : decode cX10_reckons 85 = .ok (.iadd, 1) := by decide +kernel
theorem dX10_reckons_86 : decode cX10_reckons 86 = .ok (.iload 6, 2) := by decide +kernel
theorem dX10_reckons_88 : decode cX10_reckons 88 = .ok (.ifCond .ne 7, 3) := by decide +kernel
theorem dX10_reckons_91 : decode cX10_reckons 91 = .ok (.lconst 0, 1) := by decide +kernel
theorem dX10_reckons_92 : decode cX10_reckons 92 = .ok (.goto 21, 3) := by decide +kernel
theorem dX10_reckons_95 : decode cX10_reckons 95 = .ok (.iload_n 3, 1) := by decide +kernel
theorem dX10_reckons_96 : decode cX10_reckons 96 = .ok (.ifCond .ne 7, 3) := by decide +kernel
theorem dX10_reckons_99 : decode cX10_reckons 99 = .ok (.lconst 1, 1) := by decide +kernel
theorem dX10_reckons_100 : decode cX10_reckons 100 = .ok (.goto 13, 3) := by decide +kernel
theorem dX10_reckons_103 : decode cX10_reckons 103 = .ok (.aload_n 0, 1) := by decide +kernel
theorem dX10_reckons_104 : decode cX10_reckons 104 = .ok (.aload_n 1, 1) := by decide +kernel
theorem dX10_reckons_105 : decode cX10_reckons 105 = .ok (.iload_n 3, 1) := by decide +kernel
theorem dX10_reckons_106 : decode cX10_reckons 106 = .ok (.iload 4, 2) := by decide +kernel
theorem dX10_reckons_108 : decode cX10_reckons 108 = .ok (.iload 5, 2) := by decide +kernel
theorem dX10_reckons_110 : decode cX10_reckons 110 = .ok (.invokevirtual 206, 3) := by decide +kernel
theorem dX10_reckons_113 : decode cX10_reckons 113 = .ok (.lastore, 1) := by decide +kernel
theorem dX10_reckons_114 : decode cX10_reckons 114 = .ok (.iinc 5 1, 3) := by decide +kernel
theorem dX10_reckons_117 : decode cX10_reckons 117 = .ok (.goto (-85), 3) := by decide +kernel
theorem dX10_reckons_120 : decode cX10_reckons 120 = .ok (.iinc 4 1, 3) := by decide +kernel
theorem dX10_reckons_123 : decode cX10_reckons 123 = .ok (.goto (-104), 3) := by decide +kernel
theorem dX10_reckons_126 : decode cX10_reckons 126 = .ok (.iinc 3 1, 3) := by decide +kernel
theorem dX10_reckons_129 : decode cX10_reckons 129 = .ok (.goto (-118), 3) := by decide +kernel
theorem dX10_reckons_132 : decode cX10_reckons 132 = .ok (.aload_n 1, 1) := by decide +kernel
theorem dX10_reckons_133 : decode cX10_reckons 133 = .ok (.iload_n 2, 1) := by decide +kernel
theorem dX10_reckons_134 : decode cX10_reckons 134 = .ok (.iconst 0, 1) := by decide +kernel
theorem dX10_reckons_135 : decode cX10_reckons 135 = .ok (.invokestatic 193, 3) := by decide +kernel
theorem dX10_reckons_138 : decode cX10_reckons 138 = .ok (.iconst 1, 1) := by decide +kernel
theorem dX10_reckons_139 : decode cX10_reckons 139 = .ok (.aload_n 0, 1) := by decide +kernel
theorem dX10_reckons_140 : decode cX10_reckons 140 = .ok (.getfield 9, 3) := by decide +kernel
theorem dX10_reckons_143 : decode cX10_reckons 143 = .ok (.iconst 0, 1) := by decide +kernel
theorem dX10_reckons_144 : decode cX10_reckons 144 = .ok (.iaload, 1) := by decide +kernel
theorem dX10_reckons_145 : decode cX10_reckons 145 = .ok (.ishl, 1) := by decide +kernel
theorem dX10_reckons_146 : decode cX10_reckons 146 = .ok (.iadd, 1) := by decide +kernel
theorem dX10_reckons_147 : decode cX10_reckons 147 = .ok (.iconst 1, 1) := by decide +kernel
theorem dX10_reckons_148 : decode cX10_reckons 148 = .ok (.isub, 1) := by decide +kernel
theorem dX10_reckons_149 : decode cX10_reckons 149 = .ok (.laload, 1) := by decide +kernel
theorem dX10_reckons_150 : decode cX10_reckons 150 = .ok (.lreturn, 1) := by decide +kernel
theorem dX10_all_0 : decode cX10_all 0 = .ok (.aload_n 0, 1) := by decide +kernel
theorem dX10_all_1 : decode cX10_all 1 = .ok (.getfield 77, 3) := by decide +kernel
theorem dX10_all_4 : decode cX10_all 4 = .ok (.ifCond .ne 34, 3) := by decide +kernel
theorem dX10_all_7 : decode cX10_all 7 = .ok (.aload_n 0, 1) := by decide +kernel
theorem dX10_all_8 : decode cX10_all 8 = .ok (.bipush (-2), 2) := by decide +kernel
theorem dX10_all_10 : decode cX10_all 10 = .ok (.putfield 184, 3) := by decide +kernel
theorem dX10_all_13 : decode cX10_all 13 = .ok (.aload_n 0, 1) := by decide +kernel
theorem dX10_all_14 : decode cX10_all 14 = .ok (.iconst 0, 1) := by decide +kernel
theorem dX10_all_15 : decode cX10_all 15 = .ok (.putfield 187, 3) := by decide +kernel
theorem dX10_all_18 : decode cX10_all 18 = .ok (.aload_n 0, 1) := by decide +kernel
theorem dX10_all_19 : decode cX10_all 19 = .ok (.bipush (-2), 2) := by decide +kernel
theorem dX10_all_21 : decode cX10_all 21 = .ok (.putfield 190, 3) := by decide +kernel
theorem dX10_all_24 : decode cX10_all 24 = .ok (.aload_n 0, 1) := by decide +kernel
theorem dX10_all_25 : decode cX10_all 25 = .ok (.aload_n 0, 1) := by decide +kernel
theorem dX10_all_26 : decode cX10_all 26 = .ok (.getfield 37, 3) := by decide +kernel
theorem dX10_all_29 : decode cX10_all 29 = .ok (.invokevirtual 210, 3) := by decide +kernel
theorem dX10_all_32 : decode cX10_all 32 = .ok (.pop2, 1) := by decide +kernel
theorem dX10_all_33 : decode cX10_all 33 = .ok (.aload_n 0, 1) := by decide +kernel
theorem dX10_all_34 : decode cX10_all 34 = .ok (.iconst 1, 1) := by decide +kernel
theorem dX10_all_35 : decode cX10_all 35 = .ok (.putfield 77, 3) := by decide +kernel
theorem dX10_all_38 : decode cX10_all 38 = .ok (.aload_n 0, 1) := by decide +kernel
theorem dX10_all_39 : decode cX10_all 39 = .ok (.getfield 37, 3) := by decide +kernel
theorem dX10_all_42 : decode cX10_all 42 = .ok (.aload_n 0, 1) := by decide +kernel
theorem dX10_all_43 : decode cX10_all 43 = .ok (.invokevirtual 71, 3) := by decide +kernel
theorem dX10_all_46 : decode cX10_all 46 = .ok (.iconst 0, 1) := by decide +kernel
theorem dX10_all_47 : decode cX10_all 47 = .ok (.invokestatic 193, 3) := by decide +kernel
theorem dX10_all_50 : decode cX10_all 50 = .ok (.iconst 1, 1) := by decide +kernel
theorem dX10_all_51 : decode cX10_all 51 = .ok (.aload_n 0, 1) := by decide +kernel
theorem dX10_all_52 : decode cX10_all 52 = .ok (.getfield 9, 3) := by decide +kernel
theorem dX10_all_55 : decode cX10_all 55 = .ok (.iconst 0, 1) := by decide +kernel
theorem dX10_all_56 : decode cX10_all 56 = .ok (.iaload, 1) := by decide +kernel
theorem dX10_all_57 : decode cX10_all 57 = .ok (.ishl, 1) := by decide +kernel
theorem dX10_all_58 : decode cX10_all 58 = .ok (.iadd, 1) := by decide +kernel
theorem dX10_all_59 : decode cX10_all 59 = .ok (.iconst 1, 1) := by decide +kernel
theorem dX10_all_60 : decode cX10_all 60 = .ok (.isub, 1) := by decide +kernel
theorem dX10_all_61 : decode cX10_all 61 = .ok (.laload, 1) := by decide +kernel
theorem dX10_all_62 : decode cX10_all 62 = .ok (.lreturn, 1) := by decide +kernel
theorem dX10_howMany_0 : decode cX10_howMany 0 = .ok (.aload_n 0, 1) := by decide +kernel
theorem dX10_howMany_1 : decode cX10_howMany 1 = .ok (.invokevirtual 214, 3) := by decide +kernel
theorem dX10_howMany_4 : decode cX10_howMany 4 = .ok (.ifCond .eq 9, 3) := by decide +kernel
theorem dX10_howMany_7 : decode cX10_howMany 7 = .ok (.ldc2_w 217, 3) := by decide +kernel
theorem dX10_howMany_10 : decode cX10_howMany 10 = .ok (.goto 7, 3) := by decide +kernel
theorem dX10_howMany_13 : decode cX10_howMany 13 = .ok (.aload_n 0, 1) := by decide +kernel
theorem dX10_howMany_14 : decode cX10_howMany 14 = .ok (.invokevirtual 219, 3) := by decide +kernel
theorem dX10_howMany_17 : decode cX10_howMany 17 = .ok (.lreturn, 1) := by decide +kernel
theorem dX10_stands_0 : decode cX10_stands 0 = .ok (.aload_n 0, 1) := by decide +kernel
theorem dX10_stands_1 : decode cX10_stands 1 = .ok (.iload_n 1, 1) := by decide +kernel
theorem dX10_stands_2 : decode cX10_stands 2 = .ok (.invokevirtual 114, 3) := by decide +kernel
theorem dX10_stands_5 : decode cX10_stands 5 = .ok (.ifCond .eq 11, 3) := by decide +kernel
theorem dX10_stands_8 : decode cX10_stands 8 = .ok (.aload_n 0, 1) := by decide +kernel
theorem dX10_stands_9 : decode cX10_stands 9 = .ok (.iload_n 2, 1) := by decide +kernel
theorem dX10_stands_10 : decode cX10_stands 10 = .ok (.invokevirtual 223, 3) := by decide +kernel
theorem dX10_stands_13 : decode cX10_stands 13 = .ok (.ifCond .ne 7, 3) := by decide +kernel
theorem dX10_stands_16 : decode cX10_stands 16 = .ok (.ldc2_w 226, 3) := by decide +kernel
theorem dX10_stands_19 : decode cX10_stands 19 = .ok (.lreturn, 1) := by decide +kernel
theorem dX10_stands_20 : decode cX10_stands 20 = .ok (.aload_n 0, 1) := by decide +kernel
theorem dX10_stands_21 : decode cX10_stands 21 = .ok (.invokevirtual 214, 3) := by decide +kernel
theorem dX10_stands_24 : decode cX10_stands 24 = .ok (.ifCond .eq 7, 3) := by decide +kernel
theorem dX10_stands_27 : decode cX10_stands 27 = .ok (.ldc2_w 217, 3) := by decide +kernel
theorem dX10_stands_30 : decode cX10_stands 30 = .ok (.lreturn, 1) := by decide +kernel
theorem dX10_stands_31 : decode cX10_stands 31 = .ok (.aload_n 0, 1) := by decide +kernel
theorem dX10_stands_32 : decode cX10_stands 32 = .ok (.iload_n 2, 1) := by decide +kernel
theorem dX10_stands_33 : decode cX10_stands 33 = .ok (.putfield 184, 3) := by decide +kernel
theorem dX10_stands_36 : decode cX10_stands 36 = .ok (.aload_n 0, 1) := by decide +kernel
theorem dX10_stands_37 : decode cX10_stands 37 = .ok (.iconst 1, 1) := by decide +kernel
theorem dX10_stands_38 : decode cX10_stands 38 = .ok (.iload_n 1, 1) := by decide +kernel
theorem dX10_stands_39 : decode cX10_stands 39 = .ok (.ishl, 1) := by decide +kernel
theorem dX10_stands_40 : decode cX10_stands 40 = .ok (.putfield 187, 3) := by decide +kernel
theorem dX10_stands_43 : decode cX10_stands 43 = .ok (.aload_n 0, 1) := by decide +kernel
theorem dX10_stands_44 : decode cX10_stands 44 = .ok (.aload_n 0, 1) := by decide +kernel
theorem dX10_stands_45 : decode cX10_stands 45 = .ok (.getfield 41, 3) := by decide +kernel
theorem dX10_stands_48 : decode cX10_stands 48 = .ok (.invokevirtual 210, 3) := by decide +kernel
theorem dX10_stands_51 : decode cX10_stands 51 = .ok (.lreturn, 1) := by decide +kernel
theorem dX10_apartIn_0 : decode cX10_apartIn 0 = .ok (.aload_n 0, 1) := by decide +kernel
theorem dX10_apartIn_1 : decode cX10_apartIn 1 = .ok (.bipush (-2), 2) := by decide +kernel
theorem dX10_apartIn_3 : decode cX10_apartIn 3 = .ok (.putfield 184, 3) := by decide +kernel
theorem dX10_apartIn_6 : decode cX10_apartIn 6 = .ok (.aload_n 0, 1) := by decide +kernel
theorem dX10_apartIn_7 : decode cX10_apartIn 7 = .ok (.iload_n 1, 1) := by decide +kernel
theorem dX10_apartIn_8 : decode cX10_apartIn 8 = .ok (.putfield 187, 3) := by decide +kernel
theorem dX10_apartIn_11 : decode cX10_apartIn 11 = .ok (.aload_n 0, 1) := by decide +kernel
theorem dX10_apartIn_12 : decode cX10_apartIn 12 = .ok (.iload_n 2, 1) := by decide +kernel
theorem dX10_apartIn_13 : decode cX10_apartIn 13 = .ok (.putfield 190, 3) := by decide +kernel
theorem dX10_apartIn_16 : decode cX10_apartIn 16 = .ok (.aload_n 0, 1) := by decide +kernel
theorem dX10_apartIn_17 : decode cX10_apartIn 17 = .ok (.aload_n 0, 1) := by decide +kernel
theorem dX10_apartIn_18 : decode cX10_apartIn 18 = .ok (.getfield 41, 3) := by decide +kernel
theorem dX10_apartIn_21 : decode cX10_apartIn 21 = .ok (.invokevirtual 210, 3) := by decide +kernel
theorem dX10_apartIn_24 : decode cX10_apartIn 24 = .ok (.lreturn, 1) := by decide +kernel
theorem dX10_meets_0 : decode cX10_meets 0 = .ok (.aload_n 0, 1) := by decide +kernel
theorem dX10_meets_1 : decode cX10_meets 1 = .ok (.iload_n 1, 1) := by decide +kernel
theorem dX10_meets_2 : decode cX10_meets 2 = .ok (.invokevirtual 114, 3) := by decide +kernel
theorem dX10_meets_5 : decode cX10_meets 5 = .ok (.ifCond .eq 24, 3) := by decide +kernel
theorem dX10_meets_8 : decode cX10_meets 8 = .ok (.aload_n 0, 1) := by decide +kernel
theorem dX10_meets_9 : decode cX10_meets 9 = .ok (.iload_n 2, 1) := by decide +kernel
theorem dX10_meets_10 : decode cX10_meets 10 = .ok (.invokevirtual 114, 3) := by decide +kernel
theorem dX10_meets_13 : decode cX10_meets 13 = .ok (.ifCond .eq 16, 3) := by decide +kernel
theorem dX10_meets_16 : decode cX10_meets 16 = .ok (.iload_n 1, 1) := by decide +kernel
theorem dX10_meets_17 : decode cX10_meets 17 = .ok (.iload_n 2, 1) := by decide +kernel
theorem dX10_meets_18 : decode cX10_meets 18 = .ok (.if_icmp .eq 11, 3) := by decide +kernel
theorem dX10_meets_21 : decode cX10_meets 21 = .ok (.aload_n 0, 1) := by decide +kernel
theorem dX10_meets_22 : decode cX10_meets 22 = .ok (.iload_n 3, 1) := by decide +kernel
theorem dX10_meets_23 : decode cX10_meets 23 = .ok (.invokevirtual 228, 3) := by decide +kernel
theorem dX10_meets_26 : decode cX10_meets 26 = .ok (.ifCond .ne 7, 3) := by decide +kernel
theorem dX10_meets_29 : decode cX10_meets 29 = .ok (.ldc2_w 226, 3) := by decide +kernel
theorem dX10_meets_32 : decode cX10_meets 32 = .ok (.lreturn, 1) := by decide +kernel
theorem dX10_meets_33 : decode cX10_meets 33 = .ok (.aload_n 0, 1) := by decide +kernel
theorem dX10_meets_34 : decode cX10_meets 34 = .ok (.invokevirtual 214, 3) := by decide +kernel
theorem dX10_meets_37 : decode cX10_meets 37 = .ok (.ifCond .eq 7, 3) := by decide +kernel
theorem dX10_meets_40 : decode cX10_meets 40 = .ok (.ldc2_w 217, 3) := by decide +kernel
theorem dX10_meets_43 : decode cX10_meets 43 = .ok (.lreturn, 1) := by decide +kernel
theorem dX10_meets_44 : decode cX10_meets 44 = .ok (.iconst 1, 1) := by decide +kernel
theorem dX10_meets_45 : decode cX10_meets 45 = .ok (.iload_n 1, 1) := by decide +kernel
theorem dX10_meets_46 : decode cX10_meets 46 = .ok (.ishl, 1) := by decide +kernel
theorem dX10_meets_47 : decode cX10_meets 47 = .ok (.iconst 1, 1) := by decide +kernel
theorem dX10_meets_48 : decode cX10_meets 48 = .ok (.iload_n 2, 1) := by decide +kernel
theorem dX10_meets_49 : decode cX10_meets 49 = .ok (.ishl, 1) := by decide +kernel
theorem dX10_meets_50 : decode cX10_meets 50 = .ok (.ior, 1) := by decide +kernel
theorem dX10_meets_51 : decode cX10_meets 51 = .ok (.istore 4, 2) := by decide +kernel
theorem dX10_meets_53 : decode cX10_meets 53 = .ok (.aload_n 0, 1) := by decide +kernel
theorem dX10_meets_54 : decode cX10_meets 54 = .ok (.iload 4, 2) := by decide +kernel
theorem dX10_meets_56 : decode cX10_meets 56 = .ok (.iload_n 3, 1) := by decide +kernel
theorem dX10_meets_57 : decode cX10_meets 57 = .ok (.iconst 1, 1) := by decide +kernel
theorem dX10_meets_58 : decode cX10_meets 58 = .ok (.isub, 1) := by decide +kernel
theorem dX10_meets_59 : decode cX10_meets 59 = .ok (.invokevirtual 231, 3) := by decide +kernel
theorem dX10_meets_62 : decode cX10_meets 62 = .ok (.aload_n 0, 1) := by decide +kernel
theorem dX10_meets_63 : decode cX10_meets 63 = .ok (.iload 4, 2) := by decide +kernel
theorem dX10_meets_65 : decode cX10_meets 65 = .ok (.iload_n 3, 1) := by decide +kernel
theorem dX10_meets_66 : decode cX10_meets 66 = .ok (.invokevirtual 231, 3) := by decide +kernel
theorem dX10_meets_69 : decode cX10_meets 69 = .ok (.lsub, 1) := by decide +kernel
theorem dX10_meets_70 : decode cX10_meets 70 = .ok (.lreturn, 1) := by decide +kernel
theorem dX10_apart_0 : decode cX10_apart 0 = .ok (.iload_n 1, 1) := by decide +kernel
theorem dX10_apart_1 : decode cX10_apart 1 = .ok (.i2l, 1) := by decide +kernel
theorem dX10_apart_2 : decode cX10_apart 2 = .ok (.lconst 0, 1) := by decide +kernel
theorem dX10_apart_3 : decode cX10_apart 3 = .ok (.iconst 1, 1) := by decide +kernel
theorem dX10_apart_4 : decode cX10_apart 4 = .ok (.aload_n 0, 1) := by decide +kernel
theorem dX10_apart_5 : decode cX10_apart 5 = .ok (.getfield 9, 3) := by decide +kernel
theorem dX10_apart_8 : decode cX10_apart 8 = .ok (.iconst 0, 1) := by decide +kernel
theorem dX10_apart_9 : decode cX10_apart 9 = .ok (.iaload, 1) := by decide +kernel
theorem dX10_apart_10 : decode cX10_apart 10 = .ok (.ishl, 1) := by decide +kernel
theorem dX10_apart_11 : decode cX10_apart 11 = .ok (.iconst 1, 1) := by decide +kernel
theorem dX10_apart_12 : decode cX10_apart 12 = .ok (.isub, 1) := by decide +kernel
theorem dX10_apart_13 : decode cX10_apart 13 = .ok (.i2l, 1) := by decide +kernel
theorem dX10_apart_14 : decode cX10_apart 14 = .ok (.invokestatic 63, 3) := by decide +kernel
theorem dX10_apart_17 : decode cX10_apart 17 = .ok (.ifCond .eq 11, 3) := by decide +kernel
theorem dX10_apart_20 : decode cX10_apart 20 = .ok (.aload_n 0, 1) := by decide +kernel
theorem dX10_apart_21 : decode cX10_apart 21 = .ok (.iload_n 2, 1) := by decide +kernel
theorem dX10_apart_22 : decode cX10_apart 22 = .ok (.invokevirtual 228, 3) := by decide +kernel
theorem dX10_apart_25 : decode cX10_apart 25 = .ok (.ifCond .ne 7, 3) := by decide +kernel
theorem dX10_apart_28 : decode cX10_apart 28 = .ok (.ldc2_w 226, 3) := by decide +kernel
theorem dX10_apart_31 : decode cX10_apart 31 = .ok (.lreturn, 1) := by decide +kernel
theorem dX10_apart_32 : decode cX10_apart 32 = .ok (.aload_n 0, 1) := by decide +kernel
theorem dX10_apart_33 : decode cX10_apart 33 = .ok (.invokevirtual 214, 3) := by decide +kernel
theorem dX10_apart_36 : decode cX10_apart 36 = .ok (.ifCond .eq 9, 3) := by decide +kernel
theorem dX10_apart_39 : decode cX10_apart 39 = .ok (.ldc2_w 217, 3) := by decide +kernel
theorem dX10_apart_42 : decode cX10_apart 42 = .ok (.goto 9, 3) := by decide +kernel
theorem dX10_apart_45 : decode cX10_apart 45 = .ok (.aload_n 0, 1) := by decide +kernel
theorem dX10_apart_46 : decode cX10_apart 46 = .ok (.iload_n 1, 1) := by decide +kernel
theorem dX10_apart_47 : decode cX10_apart 47 = .ok (.iload_n 2, 1) := by decide +kernel
theorem dX10_apart_48 : decode cX10_apart 48 = .ok (.invokevirtual 231, 3) := by decide +kernel
theorem dX10_apart_51 : decode cX10_apart 51 = .ok (.lreturn, 1) := by decide +kernel
theorem dX10_lays_0 : decode cX10_lays 0 = .ok (.iload_n 1, 1) := by decide +kernel
theorem dX10_lays_1 : decode cX10_lays 1 = .ok (.ifCond .ne 40, 3) := by decide +kernel
theorem dX10_lays_4 : decode cX10_lays 4 = .ok (.iconst 0, 1) := by decide +kernel
theorem dX10_lays_5 : decode cX10_lays 5 = .ok (.istore 6, 2) := by decide +kernel
theorem dX10_lays_7 : decode cX10_lays 7 = .ok (.iload 6, 2) := by decide +kernel
theorem dX10_lays_9 : decode cX10_lays 9 = .ok (.bipush 10, 2) := by decide +kernel
theorem dX10_lays_11 : decode cX10_lays 11 = .ok (.if_icmp .ge 18, 3) := by decide +kernel
theorem dX10_lays_14 : decode cX10_lays 14 = .ok (.iload_n 3, 1) := by decide +kernel
theorem dX10_lays_15 : decode cX10_lays 15 = .ok (.iload 6, 2) := by decide +kernel
theorem dX10_lays_17 : decode cX10_lays 17 = .ok (.ishr, 1) := by decide +kernel
theorem dX10_lays_18 : decode cX10_lays 18 = .ok (.iconst 1, 1) := by decide +kernel
theorem dX10_lays_19 : decode cX10_lays 19 = .ok (.iand, 1) := by decide +kernel
theorem dX10_lays_20 : decode cX10_lays 20 = .ok (.ifCond .ne 9, 3) := by decide +kernel
theorem dX10_lays_23 : decode cX10_lays 23 = .ok (.iinc 6 1, 3) := by decide +kernel
theorem dX10_lays_26 : decode cX10_lays 26 = .ok (.goto (-19), 3) := by decide +kernel
theorem dX10_lays_29 : decode cX10_lays 29 = .ok (.aload_n 0, 1) := by decide +kernel
theorem dX10_lays_30 : decode cX10_lays 30 = .ok (.getfield 9, 3) := by decide +kernel
theorem dX10_lays_33 : decode cX10_lays 33 = .ok (.bipush 45, 2) := by decide +kernel
theorem dX10_lays_35 : decode cX10_lays 35 = .ok (.iload_n 2, 1) := by decide +kernel
theorem dX10_lays_36 : decode cX10_lays 36 = .ok (.iadd, 1) := by decide +kernel
theorem dX10_lays_37 : decode cX10_lays 37 = .ok (.iload 6, 2) := by decide +kernel
theorem dX10_lays_39 : decode cX10_lays 39 = .ok (.iastore, 1) := by decide +kernel
theorem dX10_lays_40 : decode cX10_lays 40 = .ok (.return_, 1) := by decide +kernel
theorem dX10_lays_41 : decode cX10_lays 41 = .ok (.lload 4, 2) := by decide +kernel
theorem dX10_lays_43 : decode cX10_lays 43 = .ok (.lstore 6, 2) := by decide +kernel
theorem dX10_lays_45 : decode cX10_lays 45 = .ok (.iconst 0, 1) := by decide +kernel
theorem dX10_lays_46 : decode cX10_lays 46 = .ok (.istore 8, 2) := by decide +kernel
theorem dX10_lays_48 : decode cX10_lays 48 = .ok (.lload 6, 2) := by decide +kernel
theorem dX10_lays_50 : decode cX10_lays 50 = .ok (.aload_n 0, 1) := by decide +kernel
theorem dX10_lays_51 : decode cX10_lays 51 = .ok (.iload_n 1, 1) := by decide +kernel
theorem dX10_lays_52 : decode cX10_lays 52 = .ok (.iload_n 2, 1) := by decide +kernel
theorem dX10_lays_53 : decode cX10_lays 53 = .ok (.iload_n 3, 1) := by decide +kernel
theorem dX10_lays_54 : decode cX10_lays 54 = .ok (.iload 8, 2) := by decide +kernel
theorem dX10_lays_56 : decode cX10_lays 56 = .ok (.invokevirtual 235, 3) := by decide +kernel
theorem dX10_lays_59 : decode cX10_lays 59 = .ok (.lcmp, 1) := by decide +kernel
theorem dX10_lays_60 : decode cX10_lays 60 = .ok (.ifCond .lt 23, 3) := by decide +kernel
theorem dX10_lays_63 : decode cX10_lays 63 = .ok (.lload 6, 2) := by decide +kernel
theorem dX10_lays_65 : decode cX10_lays 65 = .ok (.aload_n 0, 1) := by decide +kernel
theorem dX10_lays_66 : decode cX10_lays 66 = .ok (.iload_n 1, 1) := by decide +kernel
theorem dX10_lays_67 : decode cX10_lays 67 = .ok (.iload_n 2, 1) := by decide +kernel
theorem dX10_lays_68 : decode cX10_lays 68 = .ok (.iload_n 3, 1) := by decide +kernel
theorem dX10_lays_69 : decode cX10_lays 69 = .ok (.iload 8, 2) := by decide +kernel
theorem dX10_lays_71 : decode cX10_lays 71 = .ok (.invokevirtual 235, 3) := by decide +kernel
theorem dX10_lays_74 : decode cX10_lays 74 = .ok (.lsub, 1) := by decide +kernel
theorem dX10_lays_75 : decode cX10_lays 75 = .ok (.lstore 6, 2) := by decide +kernel
theorem dX10_lays_77 : decode cX10_lays 77 = .ok (.iinc 8 1, 3) := by decide +kernel
theorem dX10_lays_80 : decode cX10_lays 80 = .ok (.goto (-32), 3) := by decide +kernel
theorem dX10_lays_83 : decode cX10_lays 83 = .ok (.aload_n 0, 1) := by decide +kernel
theorem dX10_lays_84 : decode cX10_lays 84 = .ok (.getfield 37, 3) := by decide +kernel
theorem dX10_lays_87 : decode cX10_lays 87 = .ok (.iload_n 1, 1) := by decide +kernel
theorem dX10_lays_88 : decode cX10_lays 88 = .ok (.iconst 1, 1) := by decide +kernel
theorem dX10_lays_89 : decode cX10_lays 89 = .ok (.isub, 1) := by decide +kernel
theorem dX10_lays_90 : decode cX10_lays 90 = .ok (.iconst 2, 1) := by decide +kernel
theorem dX10_lays_91 : decode cX10_lays 91 = .ok (.iload_n 2, 1) := by decide +kernel
theorem dX10_lays_92 : decode cX10_lays 92 = .ok (.imul, 1) := by decide +kernel
theorem dX10_lays_93 : decode cX10_lays 93 = .ok (.iconst 1, 1) := by decide +kernel
theorem dX10_lays_94 : decode cX10_lays 94 = .ok (.iadd, 1) := by decide +kernel
theorem dX10_lays_95 : decode cX10_lays 95 = .ok (.invokestatic 193, 3) := by decide +kernel
theorem dX10_lays_98 : decode cX10_lays 98 = .ok (.iload_n 3, 1) := by decide +kernel
theorem dX10_lays_99 : decode cX10_lays 99 = .ok (.iload 8, 2) := by decide +kernel
theorem dX10_lays_101 : decode cX10_lays 101 = .ok (.iconst (-1), 1) := by decide +kernel
theorem dX10_lays_102 : decode cX10_lays 102 = .ok (.ixor, 1) := by decide +kernel
theorem dX10_lays_103 : decode cX10_lays 103 = .ok (.iand, 1) := by decide +kernel
theorem dX10_lays_104 : decode cX10_lays 104 = .ok (.iadd, 1) := by decide +kernel
theorem dX10_lays_105 : decode cX10_lays 105 = .ok (.laload, 1) := by decide +kernel
theorem dX10_lays_106 : decode cX10_lays 106 = .ok (.lstore 9, 2) := by decide +kernel
theorem dX10_lays_108 : decode cX10_lays 108 = .ok (.aload_n 0, 1) := by decide +kernel
theorem dX10_lays_109 : decode cX10_lays 109 = .ok (.iload_n 1, 1) := by decide +kernel
theorem dX10_lays_110 : decode cX10_lays 110 = .ok (.iconst 1, 1) := by decide +kernel
theorem dX10_lays_111 : decode cX10_lays 111 = .ok (.isub, 1) := by decide +kernel
theorem dX10_lays_112 : decode cX10_lays 112 = .ok (.iconst 2, 1) := by decide +kernel
theorem dX10_lays_113 : decode cX10_lays 113 = .ok (.iload_n 2, 1) := by decide +kernel
theorem dX10_lays_114 : decode cX10_lays 114 = .ok (.imul, 1) := by decide +kernel
theorem dX10_lays_115 : decode cX10_lays 115 = .ok (.iload 8, 2) := by decide +kernel
theorem dX10_lays_117 : decode cX10_lays 117 = .ok (.lload 6, 2) := by decide +kernel
theorem dX10_lays_119 : decode cX10_lays 119 = .ok (.lload 9, 2) := by decide +kernel
theorem dX10_lays_121 : decode cX10_lays 121 = .ok (.ldiv, 1) := by decide +kernel
theorem dX10_lays_122 : decode cX10_lays 122 = .ok (.invokevirtual 239, 3) := by decide +kernel
theorem dX10_lays_125 : decode cX10_lays 125 = .ok (.aload_n 0, 1) := by decide +kernel
theorem dX10_lays_126 : decode cX10_lays 126 = .ok (.iload_n 1, 1) := by decide +kernel
theorem dX10_lays_127 : decode cX10_lays 127 = .ok (.iconst 1, 1) := by decide +kernel
theorem dX10_lays_128 : decode cX10_lays 128 = .ok (.isub, 1) := by decide +kernel
theorem dX10_lays_129 : decode cX10_lays 129 = .ok (.iconst 2, 1) := by decide +kernel
theorem dX10_lays_130 : decode cX10_lays 130 = .ok (.iload_n 2, 1) := by decide +kernel
theorem dX10_lays_131 : decode cX10_lays 131 = .ok (.imul, 1) := by decide +kernel
theorem dX10_lays_132 : decode cX10_lays 132 = .ok (.iconst 1, 1) := by decide +kernel
theorem dX10_lays_133 : decode cX10_lays 133 = .ok (.iadd, 1) := by decide +kernel
theorem dX10_lays_134 : decode cX10_lays 134 = .ok (.iload_n 3, 1) := by decide +kernel
theorem dX10_lays_135 : decode cX10_lays 135 = .ok (.iload 8, 2) := by decide +kernel
theorem dX10_lays_137 : decode cX10_lays 137 = .ok (.iconst (-1), 1) := by decide +kernel
theorem dX10_lays_138 : decode cX10_lays 138 = .ok (.ixor, 1) := by decide +kernel
theorem dX10_lays_139 : decode cX10_lays 139 = .ok (.iand, 1) := by decide +kernel
theorem dX10_lays_140 : decode cX10_lays 140 = .ok (.lload 6, 2) := by decide +kernel
theorem dX10_lays_142 : decode cX10_lays 142 = .ok (.lload 9, 2) := by decide +kernel
theorem dX10_lays_144 : decode cX10_lays 144 = .ok (.lrem, 1) := by decide +kernel
theorem dX10_lays_145 : decode cX10_lays 145 = .ok (.invokevirtual 239, 3) := by decide +kernel
theorem dX10_lays_148 : decode cX10_lays 148 = .ok (.return_, 1) := by decide +kernel
theorem dX10_waysBy_0 : decode cX10_waysBy 0 = .ok (.iload 4, 2) := by decide +kernel
theorem dX10_waysBy_2 : decode cX10_waysBy 2 = .ok (.iload_n 3, 1) := by decide +kernel
theorem dX10_waysBy_3 : decode cX10_waysBy 3 = .ok (.iconst (-1), 1) := by decide +kernel
theorem dX10_waysBy_4 : decode cX10_waysBy 4 = .ok (.ixor, 1) := by decide +kernel
theorem dX10_waysBy_5 : decode cX10_waysBy 5 = .ok (.iand, 1) := by decide +kernel
theorem dX10_waysBy_6 : decode cX10_waysBy 6 = .ok (.ifCond .eq 7, 3) := by decide +kernel
theorem dX10_waysBy_9 : decode cX10_waysBy 9 = .ok (.lconst 0, 1) := by decide +kernel
theorem dX10_waysBy_10 : decode cX10_waysBy 10 = .ok (.goto 44, 3) := by decide +kernel
theorem dX10_waysBy_13 : decode cX10_waysBy 13 = .ok (.aload_n 0, 1) := by decide +kernel
theorem dX10_waysBy_14 : decode cX10_waysBy 14 = .ok (.getfield 37, 3) := by decide +kernel
theorem dX10_waysBy_17 : decode cX10_waysBy 17 = .ok (.iload_n 1, 1) := by decide +kernel
theorem dX10_waysBy_18 : decode cX10_waysBy 18 = .ok (.iconst 1, 1) := by decide +kernel
theorem dX10_waysBy_19 : decode cX10_waysBy 19 = .ok (.isub, 1) := by decide +kernel
theorem dX10_waysBy_20 : decode cX10_waysBy 20 = .ok (.iconst 2, 1) := by decide +kernel
theorem dX10_waysBy_21 : decode cX10_waysBy 21 = .ok (.iload_n 2, 1) := by decide +kernel
theorem dX10_waysBy_22 : decode cX10_waysBy 22 = .ok (.imul, 1) := by decide +kernel
theorem dX10_waysBy_23 : decode cX10_waysBy 23 = .ok (.invokestatic 193, 3) := by decide +kernel
theorem dX10_waysBy_26 : decode cX10_waysBy 26 = .ok (.iload 4, 2) := by decide +kernel
theorem dX10_waysBy_28 : decode cX10_waysBy 28 = .ok (.iadd, 1) := by decide +kernel
theorem dX10_waysBy_29 : decode cX10_waysBy 29 = .ok (.laload, 1) := by decide +kernel
theorem dX10_waysBy_30 : decode cX10_waysBy 30 = .ok (.aload_n 0, 1) := by decide +kernel
theorem dX10_waysBy_31 : decode cX10_waysBy 31 = .ok (.getfield 37, 3) := by decide +kernel
theorem dX10_waysBy_34 : decode cX10_waysBy 34 = .ok (.iload_n 1, 1) := by decide +kernel
theorem dX10_waysBy_35 : decode cX10_waysBy 35 = .ok (.iconst 1, 1) := by decide +kernel
theorem dX10_waysBy_36 : decode cX10_waysBy 36 = .ok (.isub, 1) := by decide +kernel
theorem dX10_waysBy_37 : decode cX10_waysBy 37 = .ok (.iconst 2, 1) := by decide +kernel
theorem dX10_waysBy_38 : decode cX10_waysBy 38 = .ok (.iload_n 2, 1) := by decide +kernel
theorem dX10_waysBy_39 : decode cX10_waysBy 39 = .ok (.imul, 1) := by decide +kernel
theorem dX10_waysBy_40 : decode cX10_waysBy 40 = .ok (.iconst 1, 1) := by decide +kernel
theorem dX10_waysBy_41 : decode cX10_waysBy 41 = .ok (.iadd, 1) := by decide +kernel
theorem dX10_waysBy_42 : decode cX10_waysBy 42 = .ok (.invokestatic 193, 3) := by decide +kernel
theorem dX10_waysBy_45 : decode cX10_waysBy 45 = .ok (.iload_n 3, 1) := by decide +kernel
theorem dX10_waysBy_46 : decode cX10_waysBy 46 = .ok (.iload 4, 2) := by decide +kernel
theorem dX10_waysBy_48 : decode cX10_waysBy 48 = .ok (.iconst (-1), 1) := by decide +kernel
theorem dX10_waysBy_49 : decode cX10_waysBy 49 = .ok (.ixor, 1) := by decide +kernel
theorem dX10_waysBy_50 : decode cX10_waysBy 50 = .ok (.iand, 1) := by decide +kernel
theorem dX10_waysBy_51 : decode cX10_waysBy 51 = .ok (.iadd, 1) := by decide +kernel
theorem dX10_waysBy_52 : decode cX10_waysBy 52 = .ok (.laload, 1) := by decide +kernel
theorem dX10_waysBy_53 : decode cX10_waysBy 53 = .ok (.lmul, 1) := by decide +kernel
theorem dX10_waysBy_54 : decode cX10_waysBy 54 = .ok (.lreturn, 1) := by decide +kernel
theorem dX10_takes_0 : decode cX10_takes 0 = .ok (.aload_n 0, 1) := by decide +kernel
theorem dX10_takes_1 : decode cX10_takes 1 = .ok (.invokevirtual 122, 3) := by decide +kernel
theorem dX10_takes_4 : decode cX10_takes 4 = .ok (.aload_n 0, 1) := by decide +kernel
theorem dX10_takes_5 : decode cX10_takes 5 = .ok (.invokevirtual 74, 3) := by decide +kernel
theorem dX10_takes_8 : decode cX10_takes 8 = .ok (.aload_n 0, 1) := by decide +kernel
theorem dX10_takes_9 : decode cX10_takes 9 = .ok (.getfield 9, 3) := by decide +kernel
theorem dX10_takes_12 : decode cX10_takes 12 = .ok (.iconst 3, 1) := by decide +kernel
theorem dX10_takes_13 : decode cX10_takes 13 = .ok (.iconst 1, 1) := by decide +kernel
theorem dX10_takes_14 : decode cX10_takes 14 = .ok (.iastore, 1) := by decide +kernel
theorem dX10_takes_15 : decode cX10_takes 15 = .ok (.aload_n 0, 1) := by decide +kernel
theorem dX10_takes_16 : decode cX10_takes 16 = .ok (.aload_n 0, 1) := by decide +kernel
theorem dX10_takes_17 : decode cX10_takes 17 = .ok (.invokevirtual 71, 3) := by decide +kernel
theorem dX10_takes_20 : decode cX10_takes 20 = .ok (.iconst 0, 1) := by decide +kernel
theorem dX10_takes_21 : decode cX10_takes 21 = .ok (.iconst 1, 1) := by decide +kernel
theorem dX10_takes_22 : decode cX10_takes 22 = .ok (.aload_n 0, 1) := by decide +kernel
theorem dX10_takes_23 : decode cX10_takes 23 = .ok (.getfield 9, 3) := by decide +kernel
theorem dX10_takes_26 : decode cX10_takes 26 = .ok (.iconst 0, 1) := by decide +kernel
theorem dX10_takes_27 : decode cX10_takes 27 = .ok (.iaload, 1) := by decide +kernel
theorem dX10_takes_28 : decode cX10_takes 28 = .ok (.ishl, 1) := by decide +kernel
theorem dX10_takes_29 : decode cX10_takes 29 = .ok (.iconst 1, 1) := by decide +kernel
theorem dX10_takes_30 : decode cX10_takes 30 = .ok (.isub, 1) := by decide +kernel
theorem dX10_takes_31 : decode cX10_takes 31 = .ok (.lload_n 1, 1) := by decide +kernel
theorem dX10_takes_32 : decode cX10_takes 32 = .ok (.invokevirtual 239, 3) := by decide +kernel
theorem dX10_takes_35 : decode cX10_takes 35 = .ok (.iconst 0, 1) := by decide +kernel
theorem dX10_takes_36 : decode cX10_takes 36 = .ok (.istore_n 3, 1) := by decide +kernel
theorem dX10_takes_37 : decode cX10_takes 37 = .ok (.iload_n 3, 1) := by decide +kernel
theorem dX10_takes_38 : decode cX10_takes 38 = .ok (.bipush 8, 2) := by decide +kernel
theorem dX10_takes_40 : decode cX10_takes 40 = .ok (.if_icmp .ge 20, 3) := by decide +kernel
theorem dX10_takes_43 : decode cX10_takes 43 = .ok (.aload_n 0, 1) := by decide +kernel
theorem dX10_takes_44 : decode cX10_takes 44 = .ok (.getfield 9, 3) := by decide +kernel
theorem dX10_takes_47 : decode cX10_takes 47 = .ok (.bipush 76, 2) := by decide +kernel
theorem dX10_takes_49 : decode cX10_takes 49 = .ok (.iload_n 3, 1) := by decide +kernel
theorem dX10_takes_50 : decode cX10_takes 50 = .ok (.iadd, 1) := by decide +kernel
theorem dX10_takes_51 : decode cX10_takes 51 = .ok (.bipush (-2), 2) := by decide +kernel
theorem dX10_takes_53 : decode cX10_takes 53 = .ok (.iastore, 1) := by decide +kernel
theorem dX10_takes_54 : decode cX10_takes 54 = .ok (.iinc 3 1, 3) := by decide +kernel
theorem dX10_takes_57 : decode cX10_takes 57 = .ok (.goto (-20), 3) := by decide +kernel
theorem dX10_takes_60 : decode cX10_takes 60 = .ok (.return_, 1) := by decide +kernel
theorem dX10_take_0 : decode cX10_take 0 = .ok (.aload_n 0, 1) := by decide +kernel
theorem dX10_take_1 : decode cX10_take 1 = .ok (.invokevirtual 214, 3) := by decide +kernel
theorem dX10_take_4 : decode cX10_take 4 = .ok (.ifCond .eq 6, 3) := by decide +kernel
theorem dX10_take_7 : decode cX10_take 7 = .ok (.bipush (-5), 2) := by decide +kernel
theorem dX10_take_9 : decode cX10_take 9 = .ok (.ireturn, 1) := by decide +kernel
theorem dX10_take_10 : decode cX10_take 10 = .ok (.lload_n 1, 1) := by decide +kernel
theorem dX10_take_11 : decode cX10_take 11 = .ok (.lconst 0, 1) := by decide +kernel
theorem dX10_take_12 : decode cX10_take 12 = .ok (.aload_n 0, 1) := by decide +kernel
theorem dX10_take_13 : decode cX10_take 13 = .ok (.invokevirtual 219, 3) := by decide +kernel
theorem dX10_take_16 : decode cX10_take 16 = .ok (.lconst 1, 1) := by decide +kernel
theorem dX10_take_17 : decode cX10_take 17 = .ok (.lsub, 1) := by decide +kernel
theorem dX10_take_18 : decode cX10_take 18 = .ok (.invokestatic 63, 3) := by decide +kernel
theorem dX10_take_21 : decode cX10_take 21 = .ok (.ifCond .ne 6, 3) := by decide +kernel
theorem dX10_take_24 : decode cX10_take 24 = .ok (.bipush (-2), 2) := by decide +kernel
theorem dX10_take_26 : decode cX10_take 26 = .ok (.ireturn, 1) := by decide +kernel
theorem dX10_take_27 : decode cX10_take 27 = .ok (.aload_n 0, 1) := by decide +kernel
theorem dX10_take_28 : decode cX10_take 28 = .ok (.lload_n 1, 1) := by decide +kernel
theorem dX10_take_29 : decode cX10_take 29 = .ok (.invokevirtual 243, 3) := by decide +kernel
theorem dX10_take_32 : decode cX10_take 32 = .ok (.aload_n 0, 1) := by decide +kernel
theorem dX10_take_33 : decode cX10_take 33 = .ok (.invokevirtual 174, 3) := by decide +kernel
theorem dX10_take_36 : decode cX10_take 36 = .ok (.ireturn, 1) := by decide +kernel
theorem dX10_drawn_0 : decode cX10_drawn 0 = .ok (.aload_n 0, 1) := by decide +kernel
theorem dX10_drawn_1 : decode cX10_drawn 1 = .ok (.invokevirtual 214, 3) := by decide +kernel
theorem dX10_drawn_4 : decode cX10_drawn 4 = .ok (.ifCond .eq 7, 3) := by decide +kernel
theorem dX10_drawn_7 : decode cX10_drawn 7 = .ok (.ldc2_w 217, 3) := by decide +kernel
theorem dX10_drawn_10 : decode cX10_drawn 10 = .ok (.lreturn, 1) := by decide +kernel
theorem dX10_drawn_11 : decode cX10_drawn 11 = .ok (.aload_n 0, 1) := by decide +kernel
theorem dX10_drawn_12 : decode cX10_drawn 12 = .ok (.invokevirtual 219, 3) := by decide +kernel
theorem dX10_drawn_15 : decode cX10_drawn 15 = .ok (.lconst 0, 1) := by decide +kernel
theorem dX10_drawn_16 : decode cX10_drawn 16 = .ok (.lcmp, 1) := by decide +kernel
theorem dX10_drawn_17 : decode cX10_drawn 17 = .ok (.ifCond .ne 7, 3) := by decide +kernel
theorem dX10_drawn_20 : decode cX10_drawn 20 = .ok (.ldc2_w 247, 3) := by decide +kernel
theorem dX10_drawn_23 : decode cX10_drawn 23 = .ok (.lreturn, 1) := by decide +kernel
theorem dX10_drawn_24 : decode cX10_drawn 24 = .ok (.iload_n 1, 1) := by decide +kernel
theorem dX10_drawn_25 : decode cX10_drawn 25 = .ok (.ldc 249, 2) := by decide +kernel
theorem dX10_drawn_27 : decode cX10_drawn 27 = .ok (.imul, 1) := by decide +kernel
theorem dX10_drawn_28 : decode cX10_drawn 28 = .ok (.sipush 12345, 3) := by decide +kernel
theorem dX10_drawn_31 : decode cX10_drawn 31 = .ok (.iadd, 1) := by decide +kernel
theorem dX10_drawn_32 : decode cX10_drawn 32 = .ok (.istore_n 2, 1) := by decide +kernel
theorem dX10_drawn_33 : decode cX10_drawn 33 = .ok (.iload_n 2, 1) := by decide +kernel
theorem dX10_drawn_34 : decode cX10_drawn 34 = .ok (.ldc 250, 2) := by decide +kernel
theorem dX10_drawn_36 : decode cX10_drawn 36 = .ok (.iand, 1) := by decide +kernel
theorem dX10_drawn_37 : decode cX10_drawn 37 = .ok (.sipush 256, 3) := by decide +kernel
theorem dX10_drawn_40 : decode cX10_drawn 40 = .ok (.idiv, 1) := by decide +kernel
theorem dX10_drawn_41 : decode cX10_drawn 41 = .ok (.i2l, 1) := by decide +kernel
theorem dX10_drawn_42 : decode cX10_drawn 42 = .ok (.aload_n 0, 1) := by decide +kernel
theorem dX10_drawn_43 : decode cX10_drawn 43 = .ok (.invokevirtual 219, 3) := by decide +kernel
theorem dX10_drawn_46 : decode cX10_drawn 46 = .ok (.lrem, 1) := by decide +kernel
theorem dX10_drawn_47 : decode cX10_drawn 47 = .ok (.lstore_n 3, 1) := by decide +kernel
theorem dX10_drawn_48 : decode cX10_drawn 48 = .ok (.aload_n 0, 1) := by decide +kernel
theorem dX10_drawn_49 : decode cX10_drawn 49 = .ok (.lload_n 3, 1) := by decide +kernel
theorem dX10_drawn_50 : decode cX10_drawn 50 = .ok (.invokevirtual 243, 3) := by decide +kernel
theorem dX10_drawn_53 : decode cX10_drawn 53 = .ok (.lload_n 3, 1) := by decide +kernel
theorem dX10_drawn_54 : decode cX10_drawn 54 = .ok (.lreturn, 1) := by decide +kernel
theorem dX10_sits_0 : decode cX10_sits 0 = .ok (.iconst 0, 1) := by decide +kernel
theorem dX10_sits_1 : decode cX10_sits 1 = .ok (.istore_n 1, 1) := by decide +kernel
theorem dX10_sits_2 : decode cX10_sits 2 = .ok (.iload_n 1, 1) := by decide +kernel
theorem dX10_sits_3 : decode cX10_sits 3 = .ok (.bipush 16, 2) := by decide +kernel
theorem dX10_sits_5 : decode cX10_sits 5 = .ok (.if_icmp .ge 24, 3) := by decide +kernel
theorem dX10_sits_8 : decode cX10_sits 8 = .ok (.aload_n 0, 1) := by decide +kernel
theorem dX10_sits_9 : decode cX10_sits 9 = .ok (.getfield 57, 3) := by decide +kernel
theorem dX10_sits_12 : decode cX10_sits 12 = .ok (.iload_n 1, 1) := by decide +kernel
theorem dX10_sits_13 : decode cX10_sits 13 = .ok (.aload_n 0, 1) := by decide +kernel
theorem dX10_sits_14 : decode cX10_sits 14 = .ok (.getfield 9, 3) := by decide +kernel
theorem dX10_sits_17 : decode cX10_sits 17 = .ok (.bipush 45, 2) := by decide +kernel
theorem dX10_sits_19 : decode cX10_sits 19 = .ok (.iload_n 1, 1) := by decide +kernel
theorem dX10_sits_20 : decode cX10_sits 20 = .ok (.iadd, 1) := by decide +kernel
theorem dX10_sits_21 : decode cX10_sits 21 = .ok (.iaload, 1) := by decide +kernel
theorem dX10_sits_22 : decode cX10_sits 22 = .ok (.iastore, 1) := by decide +kernel
theorem dX10_sits_23 : decode cX10_sits 23 = .ok (.iinc 1 1, 3) := by decide +kernel
theorem dX10_sits_26 : decode cX10_sits 26 = .ok (.goto (-24), 3) := by decide +kernel
theorem dX10_sits_29 : decode cX10_sits 29 = .ok (.return_, 1) := by decide +kernel
theorem dX10_setOf_0 : decode cX10_setOf 0 = .ok (.iconst 0, 1) := by decide +kernel
theorem dX10_setOf_1 : decode cX10_setOf 1 = .ok (.istore_n 3, 1) := by decide +kernel
theorem dX10_setOf_2 : decode cX10_setOf 2 = .ok (.iload_n 2, 1) := by decide +kernel
theorem dX10_setOf_3 : decode cX10_setOf 3 = .ok (.iload_n 1, 1) := by decide +kernel
theorem dX10_setOf_4 : decode cX10_setOf 4 = .ok (.ishl, 1) := by decide +kernel
theorem dX10_setOf_5 : decode cX10_setOf 5 = .ok (.istore 4, 2) := by decide +kernel
theorem dX10_setOf_7 : decode cX10_setOf 7 = .ok (.iload 4, 2) := by decide +kernel
theorem dX10_setOf_9 : decode cX10_setOf 9 = .ok (.iload_n 2, 1) := by decide +kernel
theorem dX10_setOf_10 : decode cX10_setOf 10 = .ok (.iconst 1, 1) := by decide +kernel
theorem dX10_setOf_11 : decode cX10_setOf 11 = .ok (.iadd, 1) := by decide +kernel
theorem dX10_setOf_12 : decode cX10_setOf 12 = .ok (.iload_n 1, 1) := by decide +kernel
theorem dX10_setOf_13 : decode cX10_setOf 13 = .ok (.ishl, 1) := by decide +kernel
theorem dX10_setOf_14 : decode cX10_setOf 14 = .ok (.if_icmp .ge 37, 3) := by decide +kernel
theorem dX10_setOf_17 : decode cX10_setOf 17 = .ok (.iload_n 3, 1) := by decide +kernel
theorem dX10_setOf_18 : decode cX10_setOf 18 = .ok (.aload_n 0, 1) := by decide +kernel
theorem dX10_setOf_19 : decode cX10_setOf 19 = .ok (.getfield 57, 3) := by decide +kernel
theorem dX10_setOf_22 : decode cX10_setOf 22 = .ok (.iload 4, 2) := by decide +kernel
theorem dX10_setOf_24 : decode cX10_setOf 24 = .ok (.iaload, 1) := by decide +kernel
theorem dX10_setOf_25 : decode cX10_setOf 25 = .ok (.bipush 10, 2) := by decide +kernel
theorem dX10_setOf_27 : decode cX10_setOf 27 = .ok (.if_icmp .ne 7, 3) := by decide +kernel
theorem dX10_setOf_30 : decode cX10_setOf 30 = .ok (.iconst 0, 1) := by decide +kernel
theorem dX10_setOf_31 : decode cX10_setOf 31 = .ok (.goto 12, 3) := by decide +kernel
theorem dX10_setOf_34 : decode cX10_setOf 34 = .ok (.iconst 1, 1) := by decide +kernel
theorem dX10_setOf_35 : decode cX10_setOf 35 = .ok (.aload_n 0, 1) := by decide +kernel
theorem dX10_setOf_36 : decode cX10_setOf 36 = .ok (.getfield 57, 3) := by decide +kernel
theorem dX10_setOf_39 : decode cX10_setOf 39 = .ok (.iload 4, 2) := by decide +kernel
theorem dX10_setOf_41 : decode cX10_setOf 41 = .ok (.iaload, 1) := by decide +kernel
theorem dX10_setOf_42 : decode cX10_setOf 42 = .ok (.ishl, 1) := by decide +kernel
theorem dX10_setOf_43 : decode cX10_setOf 43 = .ok (.ior, 1) := by decide +kernel
theorem dX10_setOf_44 : decode cX10_setOf 44 = .ok (.istore_n 3, 1) := by decide +kernel
theorem dX10_setOf_45 : decode cX10_setOf 45 = .ok (.iinc 4 1, 3) := by decide +kernel
theorem dX10_setOf_48 : decode cX10_setOf 48 = .ok (.goto (-41), 3) := by decide +kernel
theorem dX10_setOf_51 : decode cX10_setOf 51 = .ok (.iload_n 3, 1) := by decide +kernel
theorem dX10_setOf_52 : decode cX10_setOf 52 = .ok (.ireturn, 1) := by decide +kernel
theorem dX10_rank_0 : decode cX10_rank 0 = .ok (.iload_n 1, 1) := by decide +kernel
theorem dX10_rank_1 : decode cX10_rank 1 = .ok (.ifCond .ne 5, 3) := by decide +kernel
theorem dX10_rank_4 : decode cX10_rank 4 = .ok (.lconst 0, 1) := by decide +kernel
theorem dX10_rank_5 : decode cX10_rank 5 = .ok (.lreturn, 1) := by decide +kernel
theorem dX10_rank_6 : decode cX10_rank 6 = .ok (.aload_n 0, 1) := by decide +kernel
theorem dX10_rank_7 : decode cX10_rank 7 = .ok (.iload_n 1, 1) := by decide +kernel
theorem dX10_rank_8 : decode cX10_rank 8 = .ok (.iload_n 2, 1) := by decide +kernel
theorem dX10_rank_9 : decode cX10_rank 9 = .ok (.invokevirtual 251, 3) := by decide +kernel
theorem dX10_rank_12 : decode cX10_rank 12 = .ok (.istore_n 3, 1) := by decide +kernel
theorem dX10_rank_13 : decode cX10_rank 13 = .ok (.aload_n 0, 1) := by decide +kernel
theorem dX10_rank_14 : decode cX10_rank 14 = .ok (.iload_n 1, 1) := by decide +kernel
theorem dX10_rank_15 : decode cX10_rank 15 = .ok (.iconst 1, 1) := by decide +kernel
theorem dX10_rank_16 : decode cX10_rank 16 = .ok (.isub, 1) := by decide +kernel
theorem dX10_rank_17 : decode cX10_rank 17 = .ok (.iconst 2, 1) := by decide +kernel
theorem dX10_rank_18 : decode cX10_rank 18 = .ok (.iload_n 2, 1) := by decide +kernel
theorem dX10_rank_19 : decode cX10_rank 19 = .ok (.imul, 1) := by decide +kernel
theorem dX10_rank_20 : decode cX10_rank 20 = .ok (.invokevirtual 251, 3) := by decide +kernel
theorem dX10_rank_23 : decode cX10_rank 23 = .ok (.istore 4, 2) := by decide +kernel
theorem dX10_rank_25 : decode cX10_rank 25 = .ok (.lconst 0, 1) := by decide +kernel
theorem dX10_rank_26 : decode cX10_rank 26 = .ok (.lstore 5, 2) := by decide +kernel
theorem dX10_rank_28 : decode cX10_rank 28 = .ok (.iconst 0, 1) := by decide +kernel
theorem dX10_rank_29 : decode cX10_rank 29 = .ok (.istore 7, 2) := by decide +kernel
theorem dX10_rank_31 : decode cX10_rank 31 = .ok (.iload 7, 2) := by decide +kernel
theorem dX10_rank_33 : decode cX10_rank 33 = .ok (.iload 4, 2) := by decide +kernel
theorem dX10_rank_35 : decode cX10_rank 35 = .ok (.if_icmp .ge 23, 3) := by decide +kernel
theorem dX10_rank_38 : decode cX10_rank 38 = .ok (.lload 5, 2) := by decide +kernel
theorem dX10_rank_40 : decode cX10_rank 40 = .ok (.aload_n 0, 1) := by decide +kernel
theorem dX10_rank_41 : decode cX10_rank 41 = .ok (.iload_n 1, 1) := by decide +kernel
theorem dX10_rank_42 : decode cX10_rank 42 = .ok (.iload_n 2, 1) := by decide +kernel
theorem dX10_rank_43 : decode cX10_rank 43 = .ok (.iload_n 3, 1) := by decide +kernel
theorem dX10_rank_44 : decode cX10_rank 44 = .ok (.iload 7, 2) := by decide +kernel
theorem dX10_rank_46 : decode cX10_rank 46 = .ok (.invokevirtual 235, 3) := by decide +kernel
theorem dX10_rank_49 : decode cX10_rank 49 = .ok (.ladd, 1) := by decide +kernel
theorem dX10_rank_50 : decode cX10_rank 50 = .ok (.lstore 5, 2) := by decide +kernel
theorem dX10_rank_52 : decode cX10_rank 52 = .ok (.iinc 7 1, 3) := by decide +kernel
theorem dX10_rank_55 : decode cX10_rank 55 = .ok (.goto (-24), 3) := by decide +kernel
theorem dX10_rank_58 : decode cX10_rank 58 = .ok (.lload 5, 2) := by decide +kernel
theorem dX10_rank_60 : decode cX10_rank 60 = .ok (.aload_n 0, 1) := by decide +kernel
theorem dX10_rank_61 : decode cX10_rank 61 = .ok (.iload_n 1, 1) := by decide +kernel
theorem dX10_rank_62 : decode cX10_rank 62 = .ok (.iconst 1, 1) := by decide +kernel
theorem dX10_rank_63 : decode cX10_rank 63 = .ok (.isub, 1) := by decide +kernel
theorem dX10_rank_64 : decode cX10_rank 64 = .ok (.iconst 2, 1) := by decide +kernel
theorem dX10_rank_65 : decode cX10_rank 65 = .ok (.iload_n 2, 1) := by decide +kernel
theorem dX10_rank_66 : decode cX10_rank 66 = .ok (.imul, 1) := by decide +kernel
theorem dX10_rank_67 : decode cX10_rank 67 = .ok (.invokevirtual 254, 3) := by decide +kernel
theorem dX10_rank_70 : decode cX10_rank 70 = .ok (.aload_n 0, 1) := by decide +kernel
theorem dX10_rank_71 : decode cX10_rank 71 = .ok (.getfield 37, 3) := by decide +kernel
theorem dX10_rank_74 : decode cX10_rank 74 = .ok (.iload_n 1, 1) := by decide +kernel
theorem dX10_rank_75 : decode cX10_rank 75 = .ok (.iconst 1, 1) := by decide +kernel
theorem dX10_rank_76 : decode cX10_rank 76 = .ok (.isub, 1) := by decide +kernel
theorem dX10_rank_77 : decode cX10_rank 77 = .ok (.iconst 2, 1) := by decide +kernel
theorem dX10_rank_78 : decode cX10_rank 78 = .ok (.iload_n 2, 1) := by decide +kernel
theorem dX10_rank_79 : decode cX10_rank 79 = .ok (.imul, 1) := by decide +kernel
theorem dX10_rank_80 : decode cX10_rank 80 = .ok (.iconst 1, 1) := by decide +kernel
theorem dX10_rank_81 : decode cX10_rank 81 = .ok (.iadd, 1) := by decide +kernel
theorem dX10_rank_82 : decode cX10_rank 82 = .ok (.invokestatic 193, 3) := by decide +kernel
theorem dX10_rank_85 : decode cX10_rank 85 = .ok (.iload_n 3, 1) := by decide +kernel
theorem dX10_rank_86 : decode cX10_rank 86 = .ok (.iload 4, 2) := by decide +kernel
theorem dX10_rank_88 : decode cX10_rank 88 = .ok (.iconst (-1), 1) := by decide +kernel
theorem dX10_rank_89 : decode cX10_rank 89 = .ok (.ixor, 1) := by decide +kernel
theorem dX10_rank_90 : decode cX10_rank 90 = .ok (.iand, 1) := by decide +kernel
theorem dX10_rank_91 : decode cX10_rank 91 = .ok (.iadd, 1) := by decide +kernel
theorem dX10_rank_92 : decode cX10_rank 92 = .ok (.laload, 1) := by decide +kernel
theorem dX10_rank_93 : decode cX10_rank 93 = .ok (.lmul, 1) := by decide +kernel
theorem dX10_rank_94 : decode cX10_rank 94 = .ok (.ladd, 1) := by decide +kernel
theorem dX10_rank_95 : decode cX10_rank 95 = .ok (.aload_n 0, 1) := by decide +kernel
theorem dX10_rank_96 : decode cX10_rank 96 = .ok (.iload_n 1, 1) := by decide +kernel
theorem dX10_rank_97 : decode cX10_rank 97 = .ok (.iconst 1, 1) := by decide +kernel
theorem dX10_rank_98 : decode cX10_rank 98 = .ok (.isub, 1) := by decide +kernel
theorem dX10_rank_99 : decode cX10_rank 99 = .ok (.iconst 2, 1) := by decide +kernel
theorem dX10_rank_100 : decode cX10_rank 100 = .ok (.iload_n 2, 1) := by decide +kernel
theorem dX10_rank_101 : decode cX10_rank 101 = .ok (.imul, 1) := by decide +kernel
theorem dX10_rank_102 : decode cX10_rank 102 = .ok (.iconst 1, 1) := by decide +kernel
theorem dX10_rank_103 : decode cX10_rank 103 = .ok (.iadd, 1) := by decide +kernel
theorem dX10_rank_104 : decode cX10_rank 104 = .ok (.invokevirtual 254, 3) := by decide +kernel
theorem dX10_rank_107 : decode cX10_rank 107 = .ok (.ladd, 1) := by decide +kernel
theorem dX10_rank_108 : decode cX10_rank 108 = .ok (.lreturn, 1) := by decide +kernel
theorem dX10_isDraw_0 : decode cX10_isDraw 0 = .ok (.iconst 1, 1) := by decide +kernel
theorem dX10_isDraw_1 : decode cX10_isDraw 1 = .ok (.istore_n 1, 1) := by decide +kernel
theorem dX10_isDraw_2 : decode cX10_isDraw 2 = .ok (.aload_n 0, 1) := by decide +kernel
theorem dX10_isDraw_3 : decode cX10_isDraw 3 = .ok (.invokevirtual 71, 3) := by decide +kernel
theorem dX10_isDraw_6 : decode cX10_isDraw 6 = .ok (.istore_n 2, 1) := by decide +kernel
theorem dX10_isDraw_7 : decode cX10_isDraw 7 = .ok (.iconst 0, 1) := by decide +kernel
theorem dX10_isDraw_8 : decode cX10_isDraw 8 = .ok (.istore_n 3, 1) := by decide +kernel
theorem dX10_isDraw_9 : decode cX10_isDraw 9 = .ok (.iload_n 3, 1) := by decide +kernel
theorem dX10_isDraw_10 : decode cX10_isDraw 10 = .ok (.iload_n 2, 1) := by decide +kernel
theorem dX10_isDraw_11 : decode cX10_isDraw 11 = .ok (.if_icmp .gt 55, 3) := by decide +kernel
theorem dX10_isDraw_14 : decode cX10_isDraw 14 = .ok (.iconst 0, 1) := by decide +kernel
theorem dX10_isDraw_15 : decode cX10_isDraw 15 = .ok (.istore 4, 2) := by decide +kernel
theorem dX10_isDraw_17 : decode cX10_isDraw 17 = .ok (.iload 4, 2) := by decide +kernel
theorem dX10_isDraw_19 : decode cX10_isDraw 19 = .ok (.iconst 1, 1) := by decide +kernel
theorem dX10_isDraw_20 : decode cX10_isDraw 20 = .ok (.iload_n 2, 1) := by decide +kernel
theorem dX10_isDraw_21 : decode cX10_isDraw 21 = .ok (.iload_n 3, 1) := by decide +kernel
theorem dX10_isDraw_22 : decode cX10_isDraw 22 = .ok (.isub, 1) := by decide +kernel
theorem dX10_isDraw_23 : decode cX10_isDraw 23 = .ok (.ishl, 1) := by decide +kernel
theorem dX10_isDraw_24 : decode cX10_isDraw 24 = .ok (.if_icmp .ge 36, 3) := by decide +kernel
theorem dX10_isDraw_27 : decode cX10_isDraw 27 = .ok (.iload_n 1, 1) := by decide +kernel
theorem dX10_isDraw_28 : decode cX10_isDraw 28 = .ok (.ifCond .eq 24, 3) := by decide +kernel
theorem dX10_isDraw_31 : decode cX10_isDraw 31 = .ok (.aload_n 0, 1) := by decide +kernel
theorem dX10_isDraw_32 : decode cX10_isDraw 32 = .ok (.iload_n 3, 1) := by decide +kernel
theorem dX10_isDraw_33 : decode cX10_isDraw 33 = .ok (.iload 4, 2) := by decide +kernel
theorem dX10_isDraw_35 : decode cX10_isDraw 35 = .ok (.aload_n 0, 1) := by decide +kernel
theorem dX10_isDraw_36 : decode cX10_isDraw 36 = .ok (.iload_n 3, 1) := by decide +kernel
theorem dX10_isDraw_37 : decode cX10_isDraw 37 = .ok (.iload 4, 2) := by decide +kernel
theorem dX10_isDraw_39 : decode cX10_isDraw 39 = .ok (.invokevirtual 251, 3) := by decide +kernel
theorem dX10_isDraw_42 : decode cX10_isDraw 42 = .ok (.invokevirtual 200, 3) := by decide +kernel
theorem dX10_isDraw_45 : decode cX10_isDraw 45 = .ok (.ifCond .eq 7, 3) := by decide +kernel
theorem dX10_isDraw_48 : decode cX10_isDraw 48 = .ok (.iconst 1, 1) := by decide +kernel
theorem dX10_isDraw_49 : decode cX10_isDraw 49 = .ok (.goto 4, 3) := by decide +kernel
theorem dX10_isDraw_52 : decode cX10_isDraw 52 = .ok (.iconst 0, 1) := by decide +kernel
theorem dX10_isDraw_53 : decode cX10_isDraw 53 = .ok (.istore_n 1, 1) := by decide +kernel
theorem dX10_isDraw_54 : decode cX10_isDraw 54 = .ok (.iinc 4 1, 3) := by decide +kernel
theorem dX10_isDraw_57 : decode cX10_isDraw 57 = .ok (.goto (-40), 3) := by decide +kernel
theorem dX10_isDraw_60 : decode cX10_isDraw 60 = .ok (.iinc 3 1, 3) := by decide +kernel
theorem dX10_isDraw_63 : decode cX10_isDraw 63 = .ok (.goto (-54), 3) := by decide +kernel
theorem dX10_isDraw_66 : decode cX10_isDraw 66 = .ok (.iload_n 1, 1) := by decide +kernel
theorem dX10_isDraw_67 : decode cX10_isDraw 67 = .ok (.ireturn, 1) := by decide +kernel
theorem dX10_hasDraw_0 : decode cX10_hasDraw 0 = .ok (.aload_n 0, 1) := by decide +kernel
theorem dX10_hasDraw_1 : decode cX10_hasDraw 1 = .ok (.getfield 9, 3) := by decide +kernel
theorem dX10_hasDraw_4 : decode cX10_hasDraw 4 = .ok (.iconst 3, 1) := by decide +kernel
theorem dX10_hasDraw_5 : decode cX10_hasDraw 5 = .ok (.iaload, 1) := by decide +kernel
theorem dX10_hasDraw_6 : decode cX10_hasDraw 6 = .ok (.iconst 1, 1) := by decide +kernel
theorem dX10_hasDraw_7 : decode cX10_hasDraw 7 = .ok (.if_icmp .ne 7, 3) := by decide +kernel
theorem dX10_hasDraw_10 : decode cX10_hasDraw 10 = .ok (.iconst 1, 1) := by decide +kernel
theorem dX10_hasDraw_11 : decode cX10_hasDraw 11 = .ok (.goto 4, 3) := by decide +kernel
theorem dX10_hasDraw_14 : decode cX10_hasDraw 14 = .ok (.iconst 0, 1) := by decide +kernel
theorem dX10_hasDraw_15 : decode cX10_hasDraw 15 = .ok (.ireturn, 1) := by decide +kernel
theorem dX10_slotOf_0 : decode cX10_slotOf 0 = .ok (.iconst 0, 1) := by decide +kernel
theorem dX10_slotOf_1 : decode cX10_slotOf 1 = .ok (.istore_n 2, 1) := by decide +kernel
theorem dX10_slotOf_2 : decode cX10_slotOf 2 = .ok (.aload_n 0, 1) := by decide +kernel
theorem dX10_slotOf_3 : decode cX10_slotOf 3 = .ok (.getfield 9, 3) := by decide +kernel
theorem dX10_slotOf_6 : decode cX10_slotOf 6 = .ok (.bipush 45, 2) := by decide +kernel
theorem dX10_slotOf_8 : decode cX10_slotOf 8 = .ok (.iload_n 2, 1) := by decide +kernel
theorem dX10_slotOf_9 : decode cX10_slotOf 9 = .ok (.iadd, 1) := by decide +kernel
theorem dX10_slotOf_10 : decode cX10_slotOf 10 = .ok (.iaload, 1) := by decide +kernel
theorem dX10_slotOf_11 : decode cX10_slotOf 11 = .ok (.iload_n 1, 1) := by decide +kernel
theorem dX10_slotOf_12 : decode cX10_slotOf 12 = .ok (.if_icmp .eq 9, 3) := by decide +kernel
theorem dX10_slotOf_15 : decode cX10_slotOf 15 = .ok (.iinc 2 1, 3) := by decide +kernel
theorem dX10_slotOf_18 : decode cX10_slotOf 18 = .ok (.goto (-16), 3) := by decide +kernel
theorem dX10_slotOf_21 : decode cX10_slotOf 21 = .ok (.iload_n 2, 1) := by decide +kernel
theorem dX10_slotOf_22 : decode cX10_slotOf 22 = .ok (.ireturn, 1) := by decide +kernel
theorem dX10_slot_0 : decode cX10_slot 0 = .ok (.aload_n 0, 1) := by decide +kernel
theorem dX10_slot_1 : decode cX10_slot 1 = .ok (.iload_n 1, 1) := by decide +kernel
theorem dX10_slot_2 : decode cX10_slot 2 = .ok (.invokevirtual 223, 3) := by decide +kernel
theorem dX10_slot_5 : decode cX10_slot 5 = .ok (.ifCond .ne 7, 3) := by decide +kernel
theorem dX10_slot_8 : decode cX10_slot 8 = .ok (.iconst (-1), 1) := by decide +kernel
theorem dX10_slot_9 : decode cX10_slot 9 = .ok (.goto 24, 3) := by decide +kernel
theorem dX10_slot_12 : decode cX10_slot 12 = .ok (.aload_n 0, 1) := by decide +kernel
theorem dX10_slot_13 : decode cX10_slot 13 = .ok (.invokevirtual 257, 3) := by decide +kernel
theorem dX10_slot_16 : decode cX10_slot 16 = .ok (.ifCond .eq 15, 3) := by decide +kernel
theorem dX10_slot_19 : decode cX10_slot 19 = .ok (.aload_n 0, 1) := by decide +kernel
theorem dX10_slot_20 : decode cX10_slot 20 = .ok (.getfield 9, 3) := by decide +kernel
theorem dX10_slot_23 : decode cX10_slot 23 = .ok (.bipush 45, 2) := by decide +kernel
theorem dX10_slot_25 : decode cX10_slot 25 = .ok (.iload_n 1, 1) := by decide +kernel
theorem dX10_slot_26 : decode cX10_slot 26 = .ok (.iadd, 1) := by decide +kernel
theorem dX10_slot_27 : decode cX10_slot 27 = .ok (.iaload, 1) := by decide +kernel
theorem dX10_slot_28 : decode cX10_slot 28 = .ok (.goto 5, 3) := by decide +kernel
theorem dX10_slot_31 : decode cX10_slot 31 = .ok (.bipush (-5), 2) := by decide +kernel
theorem dX10_slot_33 : decode cX10_slot 33 = .ok (.ireturn, 1) := by decide +kernel
theorem dX10_where_0 : decode cX10_where 0 = .ok (.aload_n 0, 1) := by decide +kernel
theorem dX10_where_1 : decode cX10_where 1 = .ok (.iload_n 1, 1) := by decide +kernel
theorem dX10_where_2 : decode cX10_where 2 = .ok (.invokevirtual 114, 3) := by decide +kernel
theorem dX10_where_5 : decode cX10_where 5 = .ok (.ifCond .ne 7, 3) := by decide +kernel
theorem dX10_where_8 : decode cX10_where 8 = .ok (.iconst (-1), 1) := by decide +kernel
theorem dX10_where_9 : decode cX10_where 9 = .ok (.goto 20, 3) := by decide +kernel
theorem dX10_where_12 : decode cX10_where 12 = .ok (.aload_n 0, 1) := by decide +kernel
theorem dX10_where_13 : decode cX10_where 13 = .ok (.invokevirtual 257, 3) := by decide +kernel
theorem dX10_where_16 : decode cX10_where 16 = .ok (.ifCond .eq 11, 3) := by decide +kernel
theorem dX10_where_19 : decode cX10_where 19 = .ok (.aload_n 0, 1) := by decide +kernel
theorem dX10_where_20 : decode cX10_where 20 = .ok (.iload_n 1, 1) := by decide +kernel
theorem dX10_where_21 : decode cX10_where 21 = .ok (.invokevirtual 260, 3) := by decide +kernel
theorem dX10_where_24 : decode cX10_where 24 = .ok (.goto 5, 3) := by decide +kernel
theorem dX10_where_27 : decode cX10_where 27 = .ok (.bipush (-5), 2) := by decide +kernel
theorem dX10_where_29 : decode cX10_where 29 = .ok (.ireturn, 1) := by decide +kernel
theorem dX10_number_0 : decode cX10_number 0 = .ok (.aload_n 0, 1) := by decide +kernel
theorem dX10_number_1 : decode cX10_number 1 = .ok (.invokevirtual 257, 3) := by decide +kernel
theorem dX10_number_4 : decode cX10_number 4 = .ok (.ifCond .ne 7, 3) := by decide +kernel
theorem dX10_number_7 : decode cX10_number 7 = .ok (.ldc2_w 217, 3) := by decide +kernel
theorem dX10_number_10 : decode cX10_number 10 = .ok (.lreturn, 1) := by decide +kernel
theorem dX10_number_11 : decode cX10_number 11 = .ok (.aload_n 0, 1) := by decide +kernel
theorem dX10_number_12 : decode cX10_number 12 = .ok (.invokevirtual 219, 3) := by decide +kernel
theorem dX10_number_15 : decode cX10_number 15 = .ok (.lstore_n 1, 1) := by decide +kernel
theorem dX10_number_16 : decode cX10_number 16 = .ok (.aload_n 0, 1) := by decide +kernel
theorem dX10_number_17 : decode cX10_number 17 = .ok (.invokevirtual 263, 3) := by decide +kernel
theorem dX10_number_20 : decode cX10_number 20 = .ok (.lload_n 1, 1) := by decide +kernel
theorem dX10_number_21 : decode cX10_number 21 = .ok (.lconst 0, 1) := by decide +kernel
theorem dX10_number_22 : decode cX10_number 22 = .ok (.lcmp, 1) := by decide +kernel
theorem dX10_number_23 : decode cX10_number 23 = .ok (.ifCond .ge 9, 3) := by decide +kernel
theorem dX10_number_26 : decode cX10_number 26 = .ok (.ldc2_w 217, 3) := by decide +kernel
theorem dX10_number_29 : decode cX10_number 29 = .ok (.goto 12, 3) := by decide +kernel
theorem dX10_number_32 : decode cX10_number 32 = .ok (.aload_n 0, 1) := by decide +kernel
theorem dX10_number_33 : decode cX10_number 33 = .ok (.aload_n 0, 1) := by decide +kernel
theorem dX10_number_34 : decode cX10_number 34 = .ok (.invokevirtual 71, 3) := by decide +kernel
theorem dX10_number_37 : decode cX10_number 37 = .ok (.iconst 0, 1) := by decide +kernel
theorem dX10_number_38 : decode cX10_number 38 = .ok (.invokevirtual 254, 3) := by decide +kernel
theorem dX10_number_41 : decode cX10_number 41 = .ok (.lreturn, 1) := by decide +kernel
theorem dX10_swapped_0 : decode cX10_swapped 0 = .ok (.aload_n 0, 1) := by decide +kernel
theorem dX10_swapped_1 : decode cX10_swapped 1 = .ok (.iload_n 1, 1) := by decide +kernel
theorem dX10_swapped_2 : decode cX10_swapped 2 = .ok (.invokevirtual 114, 3) := by decide +kernel
theorem dX10_swapped_5 : decode cX10_swapped 5 = .ok (.ifCond .eq 16, 3) := by decide +kernel
theorem dX10_swapped_8 : decode cX10_swapped 8 = .ok (.aload_n 0, 1) := by decide +kernel
theorem dX10_swapped_9 : decode cX10_swapped 9 = .ok (.iload_n 2, 1) := by decide +kernel
theorem dX10_swapped_10 : decode cX10_swapped 10 = .ok (.invokevirtual 114, 3) := by decide +kernel
theorem dX10_swapped_13 : decode cX10_swapped 13 = .ok (.ifCond .eq 8, 3) := by decide +kernel
theorem dX10_swapped_16 : decode cX10_swapped 16 = .ok (.iload_n 1, 1) := by decide +kernel
theorem dX10_swapped_17 : decode cX10_swapped 17 = .ok (.iload_n 2, 1) := by decide +kernel
theorem dX10_swapped_18 : decode cX10_swapped 18 = .ok (.if_icmp .ne 7, 3) := by decide +kernel
theorem dX10_swapped_21 : decode cX10_swapped 21 = .ok (.ldc2_w 226, 3) := by decide +kernel
theorem dX10_swapped_24 : decode cX10_swapped 24 = .ok (.lreturn, 1) := by decide +kernel
theorem dX10_swapped_25 : decode cX10_swapped 25 = .ok (.aload_n 0, 1) := by decide +kernel
theorem dX10_swapped_26 : decode cX10_swapped 26 = .ok (.invokevirtual 257, 3) := by decide +kernel
theorem dX10_swapped_29 : decode cX10_swapped 29 = .ok (.ifCond .ne 7, 3) := by decide +kernel
theorem dX10_swapped_32 : decode cX10_swapped 32 = .ok (.ldc2_w 217, 3) := by decide +kernel
theorem dX10_swapped_35 : decode cX10_swapped 35 = .ok (.lreturn, 1) := by decide +kernel
theorem dX10_swapped_36 : decode cX10_swapped 36 = .ok (.aload_n 0, 1) := by decide +kernel
theorem dX10_swapped_37 : decode cX10_swapped 37 = .ok (.invokevirtual 219, 3) := by decide +kernel
theorem dX10_swapped_40 : decode cX10_swapped 40 = .ok (.lstore_n 3, 1) := by decide +kernel
theorem dX10_swapped_41 : decode cX10_swapped 41 = .ok (.aload_n 0, 1) := by decide +kernel
theorem dX10_swapped_42 : decode cX10_swapped 42 = .ok (.invokevirtual 197, 3) := by decide +kernel
theorem dX10_swapped_45 : decode cX10_swapped 45 = .ok (.aload_n 0, 1) := by decide +kernel
theorem dX10_swapped_46 : decode cX10_swapped 46 = .ok (.invokevirtual 263, 3) := by decide +kernel
theorem dX10_swapped_49 : decode cX10_swapped 49 = .ok (.aload_n 0, 1) := by decide +kernel
theorem dX10_swapped_50 : decode cX10_swapped 50 = .ok (.getfield 57, 3) := by decide +kernel
theorem dX10_swapped_53 : decode cX10_swapped 53 = .ok (.aload_n 0, 1) := by decide +kernel
theorem dX10_swapped_54 : decode cX10_swapped 54 = .ok (.iload_n 1, 1) := by decide +kernel
theorem dX10_swapped_55 : decode cX10_swapped 55 = .ok (.invokevirtual 260, 3) := by decide +kernel
theorem dX10_swapped_58 : decode cX10_swapped 58 = .ok (.iload_n 2, 1) := by decide +kernel
theorem dX10_swapped_59 : decode cX10_swapped 59 = .ok (.iastore, 1) := by decide +kernel
theorem dX10_swapped_60 : decode cX10_swapped 60 = .ok (.aload_n 0, 1) := by decide +kernel
theorem dX10_swapped_61 : decode cX10_swapped 61 = .ok (.getfield 57, 3) := by decide +kernel
theorem dX10_swapped_64 : decode cX10_swapped 64 = .ok (.aload_n 0, 1) := by decide +kernel
theorem dX10_swapped_65 : decode cX10_swapped 65 = .ok (.iload_n 2, 1) := by decide +kernel
theorem dX10_swapped_66 : decode cX10_swapped 66 = .ok (.invokevirtual 260, 3) := by decide +kernel
theorem dX10_swapped_69 : decode cX10_swapped 69 = .ok (.iload_n 1, 1) := by decide +kernel
theorem dX10_swapped_70 : decode cX10_swapped 70 = .ok (.iastore, 1) := by decide +kernel
theorem dX10_swapped_71 : decode cX10_swapped 71 = .ok (.lload_n 3, 1) := by decide +kernel
theorem dX10_swapped_72 : decode cX10_swapped 72 = .ok (.lconst 0, 1) := by decide +kernel
theorem dX10_swapped_73 : decode cX10_swapped 73 = .ok (.lcmp, 1) := by decide +kernel
theorem dX10_swapped_74 : decode cX10_swapped 74 = .ok (.ifCond .le 22, 3) := by decide +kernel
theorem dX10_swapped_77 : decode cX10_swapped 77 = .ok (.aload_n 0, 1) := by decide +kernel
theorem dX10_swapped_78 : decode cX10_swapped 78 = .ok (.invokevirtual 266, 3) := by decide +kernel
theorem dX10_swapped_81 : decode cX10_swapped 81 = .ok (.ifCond .eq 15, 3) := by decide +kernel
theorem dX10_swapped_84 : decode cX10_swapped 84 = .ok (.aload_n 0, 1) := by decide +kernel
theorem dX10_swapped_85 : decode cX10_swapped 85 = .ok (.aload_n 0, 1) := by decide +kernel
theorem dX10_swapped_86 : decode cX10_swapped 86 = .ok (.invokevirtual 71, 3) := by decide +kernel
theorem dX10_swapped_89 : decode cX10_swapped 89 = .ok (.iconst 0, 1) := by decide +kernel
theorem dX10_swapped_90 : decode cX10_swapped 90 = .ok (.invokevirtual 254, 3) := by decide +kernel
theorem dX10_swapped_93 : decode cX10_swapped 93 = .ok (.goto 6, 3) := by decide +kernel
theorem dX10_swapped_96 : decode cX10_swapped 96 = .ok (.ldc2_w 247, 3) := by decide +kernel
theorem dX10_swapped_99 : decode cX10_swapped 99 = .ok (.lreturn, 1) := by decide +kernel
theorem dX10_soonest_0 : decode cX10_soonest 0 = .ok (.aload_n 0, 1) := by decide +kernel
theorem dX10_soonest_1 : decode cX10_soonest 1 = .ok (.iload_n 1, 1) := by decide +kernel
theorem dX10_soonest_2 : decode cX10_soonest 2 = .ok (.invokevirtual 114, 3) := by decide +kernel
theorem dX10_soonest_5 : decode cX10_soonest 5 = .ok (.ifCond .eq 16, 3) := by decide +kernel
theorem dX10_soonest_8 : decode cX10_soonest 8 = .ok (.aload_n 0, 1) := by decide +kernel
theorem dX10_soonest_9 : decode cX10_soonest 9 = .ok (.iload_n 2, 1) := by decide +kernel
theorem dX10_soonest_10 : decode cX10_soonest 10 = .ok (.invokevirtual 114, 3) := by decide +kernel
theorem dX10_soonest_13 : decode cX10_soonest 13 = .ok (.ifCond .eq 8, 3) := by decide +kernel
theorem dX10_soonest_16 : decode cX10_soonest 16 = .ok (.iload_n 1, 1) := by decide +kernel
theorem dX10_soonest_17 : decode cX10_soonest 17 = .ok (.iload_n 2, 1) := by decide +kernel
theorem dX10_soonest_18 : decode cX10_soonest 18 = .ok (.if_icmp .ne 5, 3) := by decide +kernel
theorem dX10_soonest_21 : decode cX10_soonest 21 = .ok (.iconst (-1), 1) := by decide +kernel
theorem dX10_soonest_22 : decode cX10_soonest 22 = .ok (.ireturn, 1) := by decide +kernel
theorem dX10_soonest_23 : decode cX10_soonest 23 = .ok (.aload_n 0, 1) := by decide +kernel
theorem dX10_soonest_24 : decode cX10_soonest 24 = .ok (.invokevirtual 257, 3) := by decide +kernel
theorem dX10_soonest_27 : decode cX10_soonest 27 = .ok (.ifCond .ne 6, 3) := by decide +kernel
theorem dX10_soonest_30 : decode cX10_soonest 30 = .ok (.bipush (-5), 2) := by decide +kernel
theorem dX10_soonest_32 : decode cX10_soonest 32 = .ok (.ireturn, 1) := by decide +kernel
theorem dX10_soonest_33 : decode cX10_soonest 33 = .ok (.iconst 0, 1) := by decide +kernel
theorem dX10_soonest_34 : decode cX10_soonest 34 = .ok (.istore_n 3, 1) := by decide +kernel
theorem dX10_soonest_35 : decode cX10_soonest 35 = .ok (.aload_n 0, 1) := by decide +kernel
theorem dX10_soonest_36 : decode cX10_soonest 36 = .ok (.iload_n 1, 1) := by decide +kernel
theorem dX10_soonest_37 : decode cX10_soonest 37 = .ok (.invokevirtual 260, 3) := by decide +kernel
theorem dX10_soonest_40 : decode cX10_soonest 40 = .ok (.iload_n 3, 1) := by decide +kernel
theorem dX10_soonest_41 : decode cX10_soonest 41 = .ok (.ishr, 1) := by decide +kernel
theorem dX10_soonest_42 : decode cX10_soonest 42 = .ok (.aload_n 0, 1) := by decide +kernel
theorem dX10_soonest_43 : decode cX10_soonest 43 = .ok (.iload_n 2, 1) := by decide +kernel
theorem dX10_soonest_44 : decode cX10_soonest 44 = .ok (.invokevirtual 260, 3) := by decide +kernel
theorem dX10_soonest_47 : decode cX10_soonest 47 = .ok (.iload_n 3, 1) := by decide +kernel
theorem dX10_soonest_48 : decode cX10_soonest 48 = .ok (.ishr, 1) := by decide +kernel
theorem dX10_soonest_49 : decode cX10_soonest 49 = .ok (.if_icmp .eq 9, 3) := by decide +kernel
theorem dX10_soonest_52 : decode cX10_soonest 52 = .ok (.iinc 3 1, 3) := by decide +kernel
theorem dX10_soonest_55 : decode cX10_soonest 55 = .ok (.goto (-20), 3) := by decide +kernel
theorem dX10_soonest_58 : decode cX10_soonest 58 = .ok (.iload_n 3, 1) := by decide +kernel
theorem dX10_soonest_59 : decode cX10_soonest 59 = .ok (.ireturn, 1) := by decide +kernel
theorem dX10_relaxed_0 : decode cX10_relaxed 0 = .ok (.iload_n 1, 1) := by decide +kernel
theorem dX10_relaxed_1 : decode cX10_relaxed 1 = .ok (.i2l, 1) := by decide +kernel
theorem dX10_relaxed_2 : decode cX10_relaxed 2 = .ok (.lconst 0, 1) := by decide +kernel
theorem dX10_relaxed_3 : decode cX10_relaxed 3 = .ok (.lconst 1, 1) := by decide +kernel
theorem dX10_relaxed_4 : decode cX10_relaxed 4 = .ok (.invokestatic 63, 3) := by decide +kernel
theorem dX10_relaxed_7 : decode cX10_relaxed 7 = .ok (.ifCond .ne 5, 3) := by decide +kernel
theorem dX10_relaxed_10 : decode cX10_relaxed 10 = .ok (.iconst (-1), 1) := by decide +kernel
theorem dX10_relaxed_11 : decode cX10_relaxed 11 = .ok (.ireturn, 1) := by decide +kernel
theorem dX10_relaxed_12 : decode cX10_relaxed 12 = .ok (.aload_n 0, 1) := by decide +kernel
theorem dX10_relaxed_13 : decode cX10_relaxed 13 = .ok (.invokevirtual 214, 3) := by decide +kernel
theorem dX10_relaxed_16 : decode cX10_relaxed 16 = .ok (.ifCond .eq 6, 3) := by decide +kernel
theorem dX10_relaxed_19 : decode cX10_relaxed 19 = .ok (.bipush (-5), 2) := by decide +kernel
theorem dX10_relaxed_21 : decode cX10_relaxed 21 = .ok (.ireturn, 1) := by decide +kernel
theorem dX10_relaxed_22 : decode cX10_relaxed 22 = .ok (.aload_n 0, 1) := by decide +kernel
theorem dX10_relaxed_23 : decode cX10_relaxed 23 = .ok (.getfield 9, 3) := by decide +kernel
theorem dX10_relaxed_26 : decode cX10_relaxed 26 = .ok (.iconst 1, 1) := by decide +kernel
theorem dX10_relaxed_27 : decode cX10_relaxed 27 = .ok (.iaload, 1) := by decide +kernel
theorem dX10_relaxed_28 : decode cX10_relaxed 28 = .ok (.istore_n 2, 1) := by decide +kernel
theorem dX10_relaxed_29 : decode cX10_relaxed 29 = .ok (.aload_n 0, 1) := by decide +kernel
theorem dX10_relaxed_30 : decode cX10_relaxed 30 = .ok (.getfield 9, 3) := by decide +kernel
theorem dX10_relaxed_33 : decode cX10_relaxed 33 = .ok (.iconst 2, 1) := by decide +kernel
theorem dX10_relaxed_34 : decode cX10_relaxed 34 = .ok (.iaload, 1) := by decide +kernel
theorem dX10_relaxed_35 : decode cX10_relaxed 35 = .ok (.istore_n 3, 1) := by decide +kernel
theorem dX10_relaxed_36 : decode cX10_relaxed 36 = .ok (.iconst 1, 1) := by decide +kernel
theorem dX10_relaxed_37 : decode cX10_relaxed 37 = .ok (.istore 4, 2) := by decide +kernel
theorem dX10_relaxed_39 : decode cX10_relaxed 39 = .ok (.iload 4, 2) := by decide +kernel
theorem dX10_relaxed_41 : decode cX10_relaxed 41 = .ok (.ifCond .eq 73, 3) := by decide +kernel
theorem dX10_relaxed_44 : decode cX10_relaxed 44 = .ok (.aload_n 0, 1) := by decide +kernel
theorem dX10_relaxed_45 : decode cX10_relaxed 45 = .ok (.invokevirtual 219, 3) := by decide +kernel
theorem dX10_relaxed_48 : decode cX10_relaxed 48 = .ok (.lconst 0, 1) := by decide +kernel
theorem dX10_relaxed_49 : decode cX10_relaxed 49 = .ok (.lcmp, 1) := by decide +kernel
theorem dX10_relaxed_50 : decode cX10_relaxed 50 = .ok (.ifCond .ne 64, 3) := by decide +kernel
theorem dX10_relaxed_53 : decode cX10_relaxed 53 = .ok (.aload_n 0, 1) := by decide +kernel
theorem dX10_relaxed_54 : decode cX10_relaxed 54 = .ok (.getfield 9, 3) := by decide +kernel
theorem dX10_relaxed_57 : decode cX10_relaxed 57 = .ok (.iconst 2, 1) := by decide +kernel
theorem dX10_relaxed_58 : decode cX10_relaxed 58 = .ok (.iaload, 1) := by decide +kernel
theorem dX10_relaxed_59 : decode cX10_relaxed 59 = .ok (.ifCond .le 7, 3) := by decide +kernel
theorem dX10_relaxed_62 : decode cX10_relaxed 62 = .ok (.iconst 2, 1) := by decide +kernel
theorem dX10_relaxed_63 : decode cX10_relaxed 63 = .ok (.goto 4, 3) := by decide +kernel
theorem dX10_relaxed_66 : decode cX10_relaxed 66 = .ok (.iconst 1, 1) := by decide +kernel
theorem dX10_relaxed_67 : decode cX10_relaxed 67 = .ok (.istore 5, 2) := by decide +kernel
theorem dX10_relaxed_69 : decode cX10_relaxed 69 = .ok (.aload_n 0, 1) := by decide +kernel
theorem dX10_relaxed_70 : decode cX10_relaxed 70 = .ok (.getfield 9, 3) := by decide +kernel
theorem dX10_relaxed_73 : decode cX10_relaxed 73 = .ok (.iload 5, 2) := by decide +kernel
theorem dX10_relaxed_75 : decode cX10_relaxed 75 = .ok (.iaload, 1) := by decide +kernel
theorem dX10_relaxed_76 : decode cX10_relaxed 76 = .ok (.ifCond .le 7, 3) := by decide +kernel
theorem dX10_relaxed_79 : decode cX10_relaxed 79 = .ok (.iconst 1, 1) := by decide +kernel
theorem dX10_relaxed_80 : decode cX10_relaxed 80 = .ok (.goto 4, 3) := by decide +kernel
theorem dX10_relaxed_83 : decode cX10_relaxed 83 = .ok (.iconst 0, 1) := by decide +kernel
theorem dX10_relaxed_84 : decode cX10_relaxed 84 = .ok (.istore 4, 2) := by decide +kernel
theorem dX10_relaxed_86 : decode cX10_relaxed 86 = .ok (.aload_n 0, 1) := by decide +kernel
theorem dX10_relaxed_87 : decode cX10_relaxed 87 = .ok (.getfield 9, 3) := by decide +kernel
theorem dX10_relaxed_90 : decode cX10_relaxed 90 = .ok (.iload 5, 2) := by decide +kernel
theorem dX10_relaxed_92 : decode cX10_relaxed 92 = .ok (.dup2, 1) := by decide +kernel
theorem dX10_relaxed_93 : decode cX10_relaxed 93 = .ok (.iaload, 1) := by decide +kernel
theorem dX10_relaxed_94 : decode cX10_relaxed 94 = .ok (.iload 4, 2) := by decide +kernel
theorem dX10_relaxed_96 : decode cX10_relaxed 96 = .ok (.ifCond .eq 7, 3) := by decide +kernel
theorem dX10_relaxed_99 : decode cX10_relaxed 99 = .ok (.iconst 1, 1) := by decide +kernel
theorem dX10_relaxed_100 : decode cX10_relaxed 100 = .ok (.goto 4, 3) := by decide +kernel
theorem dX10_relaxed_103 : decode cX10_relaxed 103 = .ok (.iconst 0, 1) := by decide +kernel
theorem dX10_relaxed_104 : decode cX10_relaxed 104 = .ok (.isub, 1) := by decide +kernel
theorem dX10_relaxed_105 : decode cX10_relaxed 105 = .ok (.iastore, 1) := by decide +kernel
theorem dX10_relaxed_106 : decode cX10_relaxed 106 = .ok (.aload_n 0, 1) := by decide +kernel
theorem dX10_relaxed_107 : decode cX10_relaxed 107 = .ok (.iconst 0, 1) := by decide +kernel
theorem dX10_relaxed_108 : decode cX10_relaxed 108 = .ok (.putfield 77, 3) := by decide +kernel
theorem dX10_relaxed_111 : decode cX10_relaxed 111 = .ok (.goto (-72), 3) := by decide +kernel
theorem dX10_relaxed_114 : decode cX10_relaxed 114 = .ok (.aload_n 0, 1) := by decide +kernel
theorem dX10_relaxed_115 : decode cX10_relaxed 115 = .ok (.getfield 9, 3) := by decide +kernel
theorem dX10_relaxed_118 : decode cX10_relaxed 118 = .ok (.iconst 1, 1) := by decide +kernel
theorem dX10_relaxed_119 : decode cX10_relaxed 119 = .ok (.iaload, 1) := by decide +kernel
theorem dX10_relaxed_120 : decode cX10_relaxed 120 = .ok (.istore 5, 2) := by decide +kernel
theorem dX10_relaxed_122 : decode cX10_relaxed 122 = .ok (.aload_n 0, 1) := by decide +kernel
theorem dX10_relaxed_123 : decode cX10_relaxed 123 = .ok (.getfield 9, 3) := by decide +kernel
theorem dX10_relaxed_126 : decode cX10_relaxed 126 = .ok (.iconst 2, 1) := by decide +kernel
theorem dX10_relaxed_127 : decode cX10_relaxed 127 = .ok (.iaload, 1) := by decide +kernel
theorem dX10_relaxed_128 : decode cX10_relaxed 128 = .ok (.istore 6, 2) := by decide +kernel
theorem dX10_relaxed_130 : decode cX10_relaxed 130 = .ok (.aload_n 0, 1) := by decide +kernel
theorem dX10_relaxed_131 : decode cX10_relaxed 131 = .ok (.getfield 9, 3) := by decide +kernel
theorem dX10_relaxed_134 : decode cX10_relaxed 134 = .ok (.iconst 1, 1) := by decide +kernel
theorem dX10_relaxed_135 : decode cX10_relaxed 135 = .ok (.iload_n 2, 1) := by decide +kernel
theorem dX10_relaxed_136 : decode cX10_relaxed 136 = .ok (.iastore, 1) := by decide +kernel
theorem dX10_relaxed_137 : decode cX10_relaxed 137 = .ok (.aload_n 0, 1) := by decide +kernel
theorem dX10_relaxed_138 : decode cX10_relaxed 138 = .ok (.getfield 9, 3) := by decide +kernel
theorem dX10_relaxed_141 : decode cX10_relaxed 141 = .ok (.iconst 2, 1) := by decide +kernel
theorem dX10_relaxed_142 : decode cX10_relaxed 142 = .ok (.iload_n 3, 1) := by decide +kernel
theorem dX10_relaxed_143 : decode cX10_relaxed 143 = .ok (.iastore, 1) := by decide +kernel
theorem dX10_relaxed_144 : decode cX10_relaxed 144 = .ok (.aload_n 0, 1) := by decide +kernel
theorem dX10_relaxed_145 : decode cX10_relaxed 145 = .ok (.iconst 0, 1) := by decide +kernel
theorem dX10_relaxed_146 : decode cX10_relaxed 146 = .ok (.putfield 77, 3) := by decide +kernel
theorem dX10_relaxed_149 : decode cX10_relaxed 149 = .ok (.iload 4, 2) := by decide +kernel
theorem dX10_relaxed_151 : decode cX10_relaxed 151 = .ok (.ifCond .eq 32, 3) := by decide +kernel
theorem dX10_relaxed_154 : decode cX10_relaxed 154 = .ok (.iload_n 1, 1) := by decide +kernel
theorem dX10_relaxed_155 : decode cX10_relaxed 155 = .ok (.iconst 1, 1) := by decide +kernel
theorem dX10_relaxed_156 : decode cX10_relaxed 156 = .ok (.if_icmp .ne 27, 3) := by decide +kernel
theorem dX10_relaxed_159 : decode cX10_relaxed 159 = .ok (.aload_n 0, 1) := by decide +kernel
theorem dX10_relaxed_160 : decode cX10_relaxed 160 = .ok (.invokevirtual 122, 3) := by decide +kernel
theorem dX10_relaxed_163 : decode cX10_relaxed 163 = .ok (.aload_n 0, 1) := by decide +kernel
theorem dX10_relaxed_164 : decode cX10_relaxed 164 = .ok (.getfield 9, 3) := by decide +kernel
theorem dX10_relaxed_167 : decode cX10_relaxed 167 = .ok (.iconst 1, 1) := by decide +kernel
theorem dX10_relaxed_168 : decode cX10_relaxed 168 = .ok (.iload 5, 2) := by decide +kernel
theorem dX10_relaxed_170 : decode cX10_relaxed 170 = .ok (.iastore, 1) := by decide +kernel
theorem dX10_relaxed_171 : decode cX10_relaxed 171 = .ok (.aload_n 0, 1) := by decide +kernel
theorem dX10_relaxed_172 : decode cX10_relaxed 172 = .ok (.getfield 9, 3) := by decide +kernel
theorem dX10_relaxed_175 : decode cX10_relaxed 175 = .ok (.iconst 2, 1) := by decide +kernel
theorem dX10_relaxed_176 : decode cX10_relaxed 176 = .ok (.iload 6, 2) := by decide +kernel
theorem dX10_relaxed_178 : decode cX10_relaxed 178 = .ok (.iastore, 1) := by decide +kernel
theorem dX10_relaxed_179 : decode cX10_relaxed 179 = .ok (.aload_n 0, 1) := by decide +kernel
theorem dX10_relaxed_180 : decode cX10_relaxed 180 = .ok (.invokevirtual 95, 3) := by decide +kernel
theorem dX10_relaxed_183 : decode cX10_relaxed 183 = .ok (.iload 4, 2) := by decide +kernel
theorem dX10_relaxed_185 : decode cX10_relaxed 185 = .ok (.ifCond .eq 14, 3) := by decide +kernel
theorem dX10_relaxed_188 : decode cX10_relaxed 188 = .ok (.bipush 10, 2) := by decide +kernel
theorem dX10_relaxed_190 : decode cX10_relaxed 190 = .ok (.iload 5, 2) := by decide +kernel
theorem dX10_relaxed_192 : decode cX10_relaxed 192 = .ok (.imul, 1) := by decide +kernel
theorem dX10_relaxed_193 : decode cX10_relaxed 193 = .ok (.iload 6, 2) := by decide +kernel
theorem dX10_relaxed_195 : decode cX10_relaxed 195 = .ok (.iadd, 1) := by decide +kernel
theorem dX10_relaxed_196 : decode cX10_relaxed 196 = .ok (.goto 5, 3) := by decide +kernel
theorem dX10_relaxed_199 : decode cX10_relaxed 199 = .ok (.bipush (-2), 2) := by decide +kernel
theorem dX10_relaxed_201 : decode cX10_relaxed 201 = .ok (.ireturn, 1) := by decide +kernel
theorem dX10_throughAt_0 : decode cX10_throughAt 0 = .ok (.bipush 61, 2) := by decide +kernel
theorem dX10_throughAt_2 : decode cX10_throughAt 2 = .ok (.iload_n 0, 1) := by decide +kernel
theorem dX10_throughAt_3 : decode cX10_throughAt 3 = .ok (.iconst 1, 1) := by decide +kernel
theorem dX10_throughAt_4 : decode cX10_throughAt 4 = .ok (.if_icmp .ne 7, 3) := by decide +kernel
theorem dX10_throughAt_7 : decode cX10_throughAt 7 = .ok (.iconst 0, 1) := by decide +kernel
theorem dX10_throughAt_8 : decode cX10_throughAt 8 = .ok (.goto 25, 3) := by decide +kernel
theorem dX10_throughAt_11 : decode cX10_throughAt 11 = .ok (.iload_n 0, 1) := by decide +kernel
theorem dX10_throughAt_12 : decode cX10_throughAt 12 = .ok (.iconst 2, 1) := by decide +kernel
theorem dX10_throughAt_13 : decode cX10_throughAt 13 = .ok (.if_icmp .ne 8, 3) := by decide +kernel
theorem dX10_throughAt_16 : decode cX10_throughAt 16 = .ok (.bipush 8, 2) := by decide +kernel
theorem dX10_throughAt_18 : decode cX10_throughAt 18 = .ok (.goto 15, 3) := by decide +kernel
theorem dX10_throughAt_21 : decode cX10_throughAt 21 = .ok (.iload_n 0, 1) := by decide +kernel
theorem dX10_throughAt_22 : decode cX10_throughAt 22 = .ok (.iconst 3, 1) := by decide +kernel
theorem dX10_throughAt_23 : decode cX10_throughAt 23 = .ok (.if_icmp .ne 8, 3) := by decide +kernel
theorem dX10_throughAt_26 : decode cX10_throughAt 26 = .ok (.bipush 12, 2) := by decide +kernel
theorem dX10_throughAt_28 : decode cX10_throughAt 28 = .ok (.goto 5, 3) := by decide +kernel
theorem dX10_throughAt_31 : decode cX10_throughAt 31 = .ok (.bipush 14, 2) := by decide +kernel
theorem dX10_throughAt_33 : decode cX10_throughAt 33 = .ok (.iadd, 1) := by decide +kernel
theorem dX10_throughAt_34 : decode cX10_throughAt 34 = .ok (.iload_n 1, 1) := by decide +kernel
theorem dX10_throughAt_35 : decode cX10_throughAt 35 = .ok (.iadd, 1) := by decide +kernel
theorem dX10_throughAt_36 : decode cX10_throughAt 36 = .ok (.ireturn, 1) := by decide +kernel
theorem dX10_cameTo_0 : decode cX10_cameTo 0 = .ok (.iload_n 1, 1) := by decide +kernel
theorem dX10_cameTo_1 : decode cX10_cameTo 1 = .ok (.ifCond .ne 15, 3) := by decide +kernel
theorem dX10_cameTo_4 : decode cX10_cameTo 4 = .ok (.aload_n 0, 1) := by decide +kernel
theorem dX10_cameTo_5 : decode cX10_cameTo 5 = .ok (.getfield 9, 3) := by decide +kernel
theorem dX10_cameTo_8 : decode cX10_cameTo 8 = .ok (.bipush 45, 2) := by decide +kernel
theorem dX10_cameTo_10 : decode cX10_cameTo 10 = .ok (.iload_n 2, 1) := by decide +kernel
theorem dX10_cameTo_11 : decode cX10_cameTo 11 = .ok (.iadd, 1) := by decide +kernel
theorem dX10_cameTo_12 : decode cX10_cameTo 12 = .ok (.iaload, 1) := by decide +kernel
theorem dX10_cameTo_13 : decode cX10_cameTo 13 = .ok (.goto 13, 3) := by decide +kernel
theorem dX10_cameTo_16 : decode cX10_cameTo 16 = .ok (.aload_n 0, 1) := by decide +kernel
theorem dX10_cameTo_17 : decode cX10_cameTo 17 = .ok (.getfield 9, 3) := by decide +kernel
theorem dX10_cameTo_20 : decode cX10_cameTo 20 = .ok (.iload_n 1, 1) := by decide +kernel
theorem dX10_cameTo_21 : decode cX10_cameTo 21 = .ok (.iload_n 2, 1) := by decide +kernel
theorem dX10_cameTo_22 : decode cX10_cameTo 22 = .ok (.invokestatic 269, 3) := by decide +kernel
theorem dX10_cameTo_25 : decode cX10_cameTo 25 = .ok (.iaload, 1) := by decide +kernel
theorem dX10_cameTo_26 : decode cX10_cameTo 26 = .ok (.ireturn, 1) := by decide +kernel
theorem dX10_better_0 : decode cX10_better 0 = .ok (.iload_n 1, 1) := by decide +kernel
theorem dX10_better_1 : decode cX10_better 1 = .ok (.bipush 10, 2) := by decide +kernel
theorem dX10_better_3 : decode cX10_better 3 = .ok (.if_icmp .eq 9, 3) := by decide +kernel
theorem dX10_better_6 : decode cX10_better 6 = .ok (.iload_n 2, 1) := by decide +kernel
theorem dX10_better_7 : decode cX10_better 7 = .ok (.bipush 10, 2) := by decide +kernel
theorem dX10_better_9 : decode cX10_better 9 = .ok (.if_icmp .ne 15, 3) := by decide +kernel
theorem dX10_better_12 : decode cX10_better 12 = .ok (.iload_n 1, 1) := by decide +kernel
theorem dX10_better_13 : decode cX10_better 13 = .ok (.bipush 10, 2) := by decide +kernel
theorem dX10_better_15 : decode cX10_better 15 = .ok (.if_icmp .ne 7, 3) := by decide +kernel
theorem dX10_better_18 : decode cX10_better 18 = .ok (.iload_n 2, 1) := by decide +kernel
theorem dX10_better_19 : decode cX10_better 19 = .ok (.goto 4, 3) := by decide +kernel
theorem dX10_better_22 : decode cX10_better 22 = .ok (.iload_n 1, 1) := by decide +kernel
theorem dX10_better_23 : decode cX10_better 23 = .ok (.ireturn, 1) := by decide +kernel
theorem dX10_better_24 : decode cX10_better 24 = .ok (.aload_n 0, 1) := by decide +kernel
theorem dX10_better_25 : decode cX10_better 25 = .ok (.getfield 9, 3) := by decide +kernel
theorem dX10_better_28 : decode cX10_better 28 = .ok (.bipush 35, 2) := by decide +kernel
theorem dX10_better_30 : decode cX10_better 30 = .ok (.iload_n 1, 1) := by decide +kernel
theorem dX10_better_31 : decode cX10_better 31 = .ok (.iadd, 1) := by decide +kernel
theorem dX10_better_32 : decode cX10_better 32 = .ok (.iaload, 1) := by decide +kernel
theorem dX10_better_33 : decode cX10_better 33 = .ok (.aload_n 0, 1) := by decide +kernel
theorem dX10_better_34 : decode cX10_better 34 = .ok (.getfield 9, 3) := by decide +kernel
theorem dX10_better_37 : decode cX10_better 37 = .ok (.bipush 35, 2) := by decide +kernel
theorem dX10_better_39 : decode cX10_better 39 = .ok (.iload_n 2, 1) := by decide +kernel
theorem dX10_better_40 : decode cX10_better 40 = .ok (.iadd, 1) := by decide +kernel
theorem dX10_better_41 : decode cX10_better 41 = .ok (.iaload, 1) := by decide +kernel
theorem dX10_better_42 : decode cX10_better 42 = .ok (.isub, 1) := by decide +kernel
theorem dX10_better_43 : decode cX10_better 43 = .ok (.istore_n 3, 1) := by decide +kernel
theorem dX10_better_44 : decode cX10_better 44 = .ok (.iload_n 3, 1) := by decide +kernel
theorem dX10_better_45 : decode cX10_better 45 = .ok (.ifCond .gt 12, 3) := by decide +kernel
theorem dX10_better_48 : decode cX10_better 48 = .ok (.iload_n 3, 1) := by decide +kernel
theorem dX10_better_49 : decode cX10_better 49 = .ok (.ifCond .ne 12, 3) := by decide +kernel
theorem dX10_better_52 : decode cX10_better 52 = .ok (.iload_n 1, 1) := by decide +kernel
theorem dX10_better_53 : decode cX10_better 53 = .ok (.iload_n 2, 1) := by decide +kernel
theorem dX10_better_54 : decode cX10_better 54 = .ok (.if_icmp .ge 7, 3) := by decide +kernel
theorem dX10_better_57 : decode cX10_better 57 = .ok (.iload_n 1, 1) := by decide +kernel
theorem dX10_better_58 : decode cX10_better 58 = .ok (.goto 4, 3) := by decide +kernel
theorem dX10_better_61 : decode cX10_better 61 = .ok (.iload_n 2, 1) := by decide +kernel
theorem dX10_better_62 : decode cX10_better 62 = .ok (.ireturn, 1) := by decide +kernel
theorem dX10_plays_0 : decode cX10_plays 0 = .ok (.aload_n 0, 1) := by decide +kernel
theorem dX10_plays_1 : decode cX10_plays 1 = .ok (.getfield 9, 3) := by decide +kernel
theorem dX10_plays_4 : decode cX10_plays 4 = .ok (.iconst 4, 1) := by decide +kernel
theorem dX10_plays_5 : decode cX10_plays 5 = .ok (.iaload, 1) := by decide +kernel
theorem dX10_plays_6 : decode cX10_plays 6 = .ok (.iconst 1, 1) := by decide +kernel
theorem dX10_plays_7 : decode cX10_plays 7 = .ok (.iadd, 1) := by decide +kernel
theorem dX10_plays_8 : decode cX10_plays 8 = .ok (.istore_n 1, 1) := by decide +kernel
theorem dX10_plays_9 : decode cX10_plays 9 = .ok (.iconst 0, 1) := by decide +kernel
theorem dX10_plays_10 : decode cX10_plays 10 = .ok (.istore_n 2, 1) := by decide +kernel
theorem dX10_plays_11 : decode cX10_plays 11 = .ok (.iload_n 2, 1) := by decide +kernel
theorem dX10_plays_12 : decode cX10_plays 12 = .ok (.iconst 1, 1) := by decide +kernel
theorem dX10_plays_13 : decode cX10_plays 13 = .ok (.aload_n 0, 1) := by decide +kernel
theorem dX10_plays_14 : decode cX10_plays 14 = .ok (.invokevirtual 71, 3) := by decide +kernel
theorem dX10_plays_17 : decode cX10_plays 17 = .ok (.iload_n 1, 1) := by decide +kernel
theorem dX10_plays_18 : decode cX10_plays 18 = .ok (.isub, 1) := by decide +kernel
theorem dX10_plays_19 : decode cX10_plays 19 = .ok (.ishl, 1) := by decide +kernel
theorem dX10_plays_20 : decode cX10_plays 20 = .ok (.if_icmp .ge 85, 3) := by decide +kernel
theorem dX10_plays_23 : decode cX10_plays 23 = .ok (.aload_n 0, 1) := by decide +kernel
theorem dX10_plays_24 : decode cX10_plays 24 = .ok (.iload_n 1, 1) := by decide +kernel
theorem dX10_plays_25 : decode cX10_plays 25 = .ok (.iconst 1, 1) := by decide +kernel
theorem dX10_plays_26 : decode cX10_plays 26 = .ok (.isub, 1) := by decide +kernel
theorem dX10_plays_27 : decode cX10_plays 27 = .ok (.iconst 2, 1) := by decide +kernel
theorem dX10_plays_28 : decode cX10_plays 28 = .ok (.iload_n 2, 1) := by decide +kernel
theorem dX10_plays_29 : decode cX10_plays 29 = .ok (.imul, 1) := by decide +kernel
theorem dX10_plays_30 : decode cX10_plays 30 = .ok (.invokevirtual 272, 3) := by decide +kernel
theorem dX10_plays_33 : decode cX10_plays 33 = .ok (.istore_n 3, 1) := by decide +kernel
theorem dX10_plays_34 : decode cX10_plays 34 = .ok (.aload_n 0, 1) := by decide +kernel
theorem dX10_plays_35 : decode cX10_plays 35 = .ok (.iload_n 1, 1) := by decide +kernel
theorem dX10_plays_36 : decode cX10_plays 36 = .ok (.iconst 1, 1) := by decide +kernel
theorem dX10_plays_37 : decode cX10_plays 37 = .ok (.isub, 1) := by decide +kernel
theorem dX10_plays_38 : decode cX10_plays 38 = .ok (.iconst 2, 1) := by decide +kernel
theorem dX10_plays_39 : decode cX10_plays 39 = .ok (.iload_n 2, 1) := by decide +kernel
theorem dX10_plays_40 : decode cX10_plays 40 = .ok (.imul, 1) := by decide +kernel
theorem dX10_plays_41 : decode cX10_plays 41 = .ok (.iconst 1, 1) := by decide +kernel
theorem dX10_plays_42 : decode cX10_plays 42 = .ok (.iadd, 1) := by decide +kernel
theorem dX10_plays_43 : decode cX10_plays 43 = .ok (.invokevirtual 272, 3) := by decide +kernel
theorem dX10_plays_46 : decode cX10_plays 46 = .ok (.istore 4, 2) := by decide +kernel
theorem dX10_plays_48 : decode cX10_plays 48 = .ok (.aload_n 0, 1) := by decide +kernel
theorem dX10_plays_49 : decode cX10_plays 49 = .ok (.getfield 9, 3) := by decide +kernel
theorem dX10_plays_52 : decode cX10_plays 52 = .ok (.bipush 76, 2) := by decide +kernel
theorem dX10_plays_54 : decode cX10_plays 54 = .ok (.iload_n 2, 1) := by decide +kernel
theorem dX10_plays_55 : decode cX10_plays 55 = .ok (.iadd, 1) := by decide +kernel
theorem dX10_plays_56 : decode cX10_plays 56 = .ok (.iaload, 1) := by decide +kernel
theorem dX10_plays_57 : decode cX10_plays 57 = .ok (.istore 5, 2) := by decide +kernel
theorem dX10_plays_59 : decode cX10_plays 59 = .ok (.aload_n 0, 1) := by decide +kernel
theorem dX10_plays_60 : decode cX10_plays 60 = .ok (.getfield 9, 3) := by decide +kernel
theorem dX10_plays_63 : decode cX10_plays 63 = .ok (.iload_n 1, 1) := by decide +kernel
theorem dX10_plays_64 : decode cX10_plays 64 = .ok (.iload_n 2, 1) := by decide +kernel
theorem dX10_plays_65 : decode cX10_plays 65 = .ok (.invokestatic 269, 3) := by decide +kernel
theorem dX10_plays_68 : decode cX10_plays 68 = .ok (.iload_n 3, 1) := by decide +kernel
theorem dX10_plays_69 : decode cX10_plays 69 = .ok (.bipush 10, 2) := by decide +kernel
theorem dX10_plays_71 : decode cX10_plays 71 = .ok (.if_icmp .eq 20, 3) := by decide +kernel
theorem dX10_plays_74 : decode cX10_plays 74 = .ok (.iload 4, 2) := by decide +kernel
theorem dX10_plays_76 : decode cX10_plays 76 = .ok (.bipush 10, 2) := by decide +kernel
theorem dX10_plays_78 : decode cX10_plays 78 = .ok (.if_icmp .eq 13, 3) := by decide +kernel
theorem dX10_plays_81 : decode cX10_plays 81 = .ok (.iload 5, 2) := by decide +kernel
theorem dX10_plays_83 : decode cX10_plays 83 = .ok (.ifCond .lt 8, 3) := by decide +kernel
theorem dX10_plays_86 : decode cX10_plays 86 = .ok (.iload 5, 2) := by decide +kernel
theorem dX10_plays_88 : decode cX10_plays 88 = .ok (.goto 10, 3) := by decide +kernel
theorem dX10_plays_91 : decode cX10_plays 91 = .ok (.aload_n 0, 1) := by decide +kernel
theorem dX10_plays_92 : decode cX10_plays 92 = .ok (.iload_n 3, 1) := by decide +kernel
theorem dX10_plays_93 : decode cX10_plays 93 = .ok (.iload 4, 2) := by decide +kernel
theorem dX10_plays_95 : decode cX10_plays 95 = .ok (.invokevirtual 275, 3) := by decide +kernel
theorem dX10_plays_98 : decode cX10_plays 98 = .ok (.iastore, 1) := by decide +kernel
theorem dX10_plays_99 : decode cX10_plays 99 = .ok (.iinc 2 1, 3) := by decide +kernel
theorem dX10_plays_102 : decode cX10_plays 102 = .ok (.goto (-91), 3) := by decide +kernel
theorem dX10_plays_105 : decode cX10_plays 105 = .ok (.iconst 0, 1) := by decide +kernel
theorem dX10_plays_106 : decode cX10_plays 106 = .ok (.istore_n 2, 1) := by decide +kernel
theorem dX10_plays_107 : decode cX10_plays 107 = .ok (.iload_n 2, 1) := by decide +kernel
theorem dX10_plays_108 : decode cX10_plays 108 = .ok (.bipush 8, 2) := by decide +kernel
theorem dX10_plays_110 : decode cX10_plays 110 = .ok (.if_icmp .ge 20, 3) := by decide +kernel
theorem dX10_plays_113 : decode cX10_plays 113 = .ok (.aload_n 0, 1) := by decide +kernel
theorem dX10_plays_114 : decode cX10_plays 114 = .ok (.getfield 9, 3) := by decide +kernel
theorem dX10_plays_117 : decode cX10_plays 117 = .ok (.bipush 76, 2) := by decide +kernel
theorem dX10_plays_119 : decode cX10_plays 119 = .ok (.iload_n 2, 1) := by decide +kernel
theorem dX10_plays_120 : decode cX10_plays 120 = .ok (.iadd, 1) := by decide +kernel
theorem dX10_plays_121 : decode cX10_plays 121 = .ok (.bipush (-2), 2) := by decide +kernel
theorem dX10_plays_123 : decode cX10_plays 123 = .ok (.iastore, 1) := by decide +kernel
theorem dX10_plays_124 : decode cX10_plays 124 = .ok (.iinc 2 1, 3) := by decide +kernel
theorem dX10_plays_127 : decode cX10_plays 127 = .ok (.goto (-20), 3) := by decide +kernel
theorem dX10_plays_130 : decode cX10_plays 130 = .ok (.aload_n 0, 1) := by decide +kernel
theorem dX10_plays_131 : decode cX10_plays 131 = .ok (.getfield 9, 3) := by decide +kernel
theorem dX10_plays_134 : decode cX10_plays 134 = .ok (.iconst 4, 1) := by decide +kernel
theorem dX10_plays_135 : decode cX10_plays 135 = .ok (.iload_n 1, 1) := by decide +kernel
theorem dX10_plays_136 : decode cX10_plays 136 = .ok (.iastore, 1) := by decide +kernel
theorem dX10_plays_137 : decode cX10_plays 137 = .ok (.return_, 1) := by decide +kernel
theorem dX10_isOver_0 : decode cX10_isOver 0 = .ok (.aload_n 0, 1) := by decide +kernel
theorem dX10_isOver_1 : decode cX10_isOver 1 = .ok (.invokevirtual 257, 3) := by decide +kernel
theorem dX10_isOver_4 : decode cX10_isOver 4 = .ok (.ifCond .eq 16, 3) := by decide +kernel
theorem dX10_isOver_7 : decode cX10_isOver 7 = .ok (.aload_n 0, 1) := by decide +kernel
theorem dX10_isOver_8 : decode cX10_isOver 8 = .ok (.getfield 9, 3) := by decide +kernel
theorem dX10_isOver_11 : decode cX10_isOver 11 = .ok (.iconst 4, 1) := by decide +kernel
theorem dX10_isOver_12 : decode cX10_isOver 12 = .ok (.iaload, 1) := by decide +kernel
theorem dX10_isOver_13 : decode cX10_isOver 13 = .ok (.aload_n 0, 1) := by decide +kernel
theorem dX10_isOver_14 : decode cX10_isOver 14 = .ok (.invokevirtual 71, 3) := by decide +kernel
theorem dX10_isOver_17 : decode cX10_isOver 17 = .ok (.if_icmp .ne 7, 3) := by decide +kernel
theorem dX10_isOver_20 : decode cX10_isOver 20 = .ok (.iconst 1, 1) := by decide +kernel
theorem dX10_isOver_21 : decode cX10_isOver 21 = .ok (.goto 4, 3) := by decide +kernel
theorem dX10_isOver_24 : decode cX10_isOver 24 = .ok (.iconst 0, 1) := by decide +kernel
theorem dX10_isOver_25 : decode cX10_isOver 25 = .ok (.ireturn, 1) := by decide +kernel
theorem dX10_play_0 : decode cX10_play 0 = .ok (.aload_n 0, 1) := by decide +kernel
theorem dX10_play_1 : decode cX10_play 1 = .ok (.invokevirtual 278, 3) := by decide +kernel
theorem dX10_play_4 : decode cX10_play 4 = .ok (.ifCond .eq 6, 3) := by decide +kernel
theorem dX10_play_7 : decode cX10_play 7 = .ok (.bipush (-5), 2) := by decide +kernel
theorem dX10_play_9 : decode cX10_play 9 = .ok (.ireturn, 1) := by decide +kernel
theorem dX10_play_10 : decode cX10_play 10 = .ok (.aload_n 0, 1) := by decide +kernel
theorem dX10_play_11 : decode cX10_play 11 = .ok (.invokevirtual 122, 3) := by decide +kernel
theorem dX10_play_14 : decode cX10_play 14 = .ok (.aload_n 0, 1) := by decide +kernel
theorem dX10_play_15 : decode cX10_play 15 = .ok (.invokevirtual 281, 3) := by decide +kernel
theorem dX10_play_18 : decode cX10_play 18 = .ok (.aload_n 0, 1) := by decide +kernel
theorem dX10_play_19 : decode cX10_play 19 = .ok (.getfield 9, 3) := by decide +kernel
theorem dX10_play_22 : decode cX10_play 22 = .ok (.iconst 4, 1) := by decide +kernel
theorem dX10_play_23 : decode cX10_play 23 = .ok (.iaload, 1) := by decide +kernel
theorem dX10_play_24 : decode cX10_play 24 = .ok (.ireturn, 1) := by decide +kernel
theorem dX10_isThrough_0 : decode cX10_isThrough 0 = .ok (.aload_n 0, 1) := by decide +kernel
theorem dX10_isThrough_1 : decode cX10_isThrough 1 = .ok (.iload_n 2, 1) := by decide +kernel
theorem dX10_isThrough_2 : decode cX10_isThrough 2 = .ok (.aload_n 0, 1) := by decide +kernel
theorem dX10_isThrough_3 : decode cX10_isThrough 3 = .ok (.iload_n 1, 1) := by decide +kernel
theorem dX10_isThrough_4 : decode cX10_isThrough 4 = .ok (.invokevirtual 260, 3) := by decide +kernel
theorem dX10_isThrough_7 : decode cX10_isThrough 7 = .ok (.iload_n 2, 1) := by decide +kernel
theorem dX10_isThrough_8 : decode cX10_isThrough 8 = .ok (.ishr, 1) := by decide +kernel
theorem dX10_isThrough_9 : decode cX10_isThrough 9 = .ok (.invokevirtual 272, 3) := by decide +kernel
theorem dX10_isThrough_12 : decode cX10_isThrough 12 = .ok (.iload_n 1, 1) := by decide +kernel
theorem dX10_isThrough_13 : decode cX10_isThrough 13 = .ok (.if_icmp .ne 7, 3) := by decide +kernel
theorem dX10_isThrough_16 : decode cX10_isThrough 16 = .ok (.iconst 1, 1) := by decide +kernel
theorem dX10_isThrough_17 : decode cX10_isThrough 17 = .ok (.goto 4, 3) := by decide +kernel
theorem dX10_isThrough_20 : decode cX10_isThrough 20 = .ok (.iconst 0, 1) := by decide +kernel
theorem dX10_isThrough_21 : decode cX10_isThrough 21 = .ok (.ireturn, 1) := by decide +kernel
theorem dX10_byHand_0 : decode cX10_byHand 0 = .ok (.aload_n 0, 1) := by decide +kernel
theorem dX10_byHand_1 : decode cX10_byHand 1 = .ok (.iload_n 1, 1) := by decide +kernel
theorem dX10_byHand_2 : decode cX10_byHand 2 = .ok (.invokevirtual 114, 3) := by decide +kernel
theorem dX10_byHand_5 : decode cX10_byHand 5 = .ok (.ifCond .ne 5, 3) := by decide +kernel
theorem dX10_byHand_8 : decode cX10_byHand 8 = .ok (.iconst (-1), 1) := by decide +kernel
theorem dX10_byHand_9 : decode cX10_byHand 9 = .ok (.ireturn, 1) := by decide +kernel
theorem dX10_byHand_10 : decode cX10_byHand 10 = .ok (.aload_n 0, 1) := by decide +kernel
theorem dX10_byHand_11 : decode cX10_byHand 11 = .ok (.invokevirtual 278, 3) := by decide +kernel
theorem dX10_byHand_14 : decode cX10_byHand 14 = .ok (.ifCond .ne 17, 3) := by decide +kernel
theorem dX10_byHand_17 : decode cX10_byHand 17 = .ok (.aload_n 0, 1) := by decide +kernel
theorem dX10_byHand_18 : decode cX10_byHand 18 = .ok (.iload_n 1, 1) := by decide +kernel
theorem dX10_byHand_19 : decode cX10_byHand 19 = .ok (.aload_n 0, 1) := by decide +kernel
theorem dX10_byHand_20 : decode cX10_byHand 20 = .ok (.getfield 9, 3) := by decide +kernel
theorem dX10_byHand_23 : decode cX10_byHand 23 = .ok (.iconst 4, 1) := by decide +kernel
theorem dX10_byHand_24 : decode cX10_byHand 24 = .ok (.iaload, 1) := by decide +kernel
theorem dX10_byHand_25 : decode cX10_byHand 25 = .ok (.invokevirtual 284, 3) := by decide +kernel
theorem dX10_byHand_28 : decode cX10_byHand 28 = .ok (.ifCond .ne 6, 3) := by decide +kernel
theorem dX10_byHand_31 : decode cX10_byHand 31 = .ok (.bipush (-5), 2) := by decide +kernel
theorem dX10_byHand_33 : decode cX10_byHand 33 = .ok (.ireturn, 1) := by decide +kernel
theorem dX10_byHand_34 : decode cX10_byHand 34 = .ok (.aload_n 0, 1) := by decide +kernel
theorem dX10_byHand_35 : decode cX10_byHand 35 = .ok (.invokevirtual 122, 3) := by decide +kernel
theorem dX10_byHand_38 : decode cX10_byHand 38 = .ok (.aload_n 0, 1) := by decide +kernel
theorem dX10_byHand_39 : decode cX10_byHand 39 = .ok (.iload_n 1, 1) := by decide +kernel
theorem dX10_byHand_40 : decode cX10_byHand 40 = .ok (.invokevirtual 260, 3) := by decide +kernel
theorem dX10_byHand_43 : decode cX10_byHand 43 = .ok (.aload_n 0, 1) := by decide +kernel
theorem dX10_byHand_44 : decode cX10_byHand 44 = .ok (.getfield 9, 3) := by decide +kernel
theorem dX10_byHand_47 : decode cX10_byHand 47 = .ok (.iconst 4, 1) := by decide +kernel
theorem dX10_byHand_48 : decode cX10_byHand 48 = .ok (.iaload, 1) := by decide +kernel
theorem dX10_byHand_49 : decode cX10_byHand 49 = .ok (.ishr, 1) := by decide +kernel
theorem dX10_byHand_50 : decode cX10_byHand 50 = .ok (.istore_n 2, 1) := by decide +kernel
theorem dX10_byHand_51 : decode cX10_byHand 51 = .ok (.aload_n 0, 1) := by decide +kernel
theorem dX10_byHand_52 : decode cX10_byHand 52 = .ok (.getfield 9, 3) := by decide +kernel
theorem dX10_byHand_55 : decode cX10_byHand 55 = .ok (.bipush 76, 2) := by decide +kernel
theorem dX10_byHand_57 : decode cX10_byHand 57 = .ok (.iload_n 2, 1) := by decide +kernel
theorem dX10_byHand_58 : decode cX10_byHand 58 = .ok (.iconst 2, 1) := by decide +kernel
theorem dX10_byHand_59 : decode cX10_byHand 59 = .ok (.idiv, 1) := by decide +kernel
theorem dX10_byHand_60 : decode cX10_byHand 60 = .ok (.iadd, 1) := by decide +kernel
theorem dX10_byHand_61 : decode cX10_byHand 61 = .ok (.iload_n 1, 1) := by decide +kernel
theorem dX10_byHand_62 : decode cX10_byHand 62 = .ok (.iastore, 1) := by decide +kernel
theorem dX10_byHand_63 : decode cX10_byHand 63 = .ok (.aload_n 0, 1) := by decide +kernel
theorem dX10_byHand_64 : decode cX10_byHand 64 = .ok (.aload_n 0, 1) := by decide +kernel
theorem dX10_byHand_65 : decode cX10_byHand 65 = .ok (.getfield 9, 3) := by decide +kernel
theorem dX10_byHand_68 : decode cX10_byHand 68 = .ok (.iconst 4, 1) := by decide +kernel
theorem dX10_byHand_69 : decode cX10_byHand 69 = .ok (.iaload, 1) := by decide +kernel
theorem dX10_byHand_70 : decode cX10_byHand 70 = .ok (.iload_n 2, 1) := by decide +kernel
theorem dX10_byHand_71 : decode cX10_byHand 71 = .ok (.iconst 1, 1) := by decide +kernel
theorem dX10_byHand_72 : decode cX10_byHand 72 = .ok (.ixor, 1) := by decide +kernel
theorem dX10_byHand_73 : decode cX10_byHand 73 = .ok (.invokevirtual 272, 3) := by decide +kernel
theorem dX10_byHand_76 : decode cX10_byHand 76 = .ok (.ireturn, 1) := by decide +kernel
theorem dX10_through_0 : decode cX10_through 0 = .ok (.aload_n 0, 1) := by decide +kernel
theorem dX10_through_1 : decode cX10_through 1 = .ok (.iload_n 1, 1) := by decide +kernel
theorem dX10_through_2 : decode cX10_through 2 = .ok (.invokevirtual 228, 3) := by decide +kernel
theorem dX10_through_5 : decode cX10_through 5 = .ok (.ifCond .eq 23, 3) := by decide +kernel
theorem dX10_through_8 : decode cX10_through 8 = .ok (.iload_n 2, 1) := by decide +kernel
theorem dX10_through_9 : decode cX10_through 9 = .ok (.i2l, 1) := by decide +kernel
theorem dX10_through_10 : decode cX10_through 10 = .ok (.lconst 0, 1) := by decide +kernel
theorem dX10_through_11 : decode cX10_through 11 = .ok (.iconst 1, 1) := by decide +kernel
theorem dX10_through_12 : decode cX10_through 12 = .ok (.aload_n 0, 1) := by decide +kernel
theorem dX10_through_13 : decode cX10_through 13 = .ok (.invokevirtual 71, 3) := by decide +kernel
theorem dX10_through_16 : decode cX10_through 16 = .ok (.iload_n 1, 1) := by decide +kernel
theorem dX10_through_17 : decode cX10_through 17 = .ok (.isub, 1) := by decide +kernel
theorem dX10_through_18 : decode cX10_through 18 = .ok (.ishl, 1) := by decide +kernel
theorem dX10_through_19 : decode cX10_through 19 = .ok (.iconst 1, 1) := by decide +kernel
theorem dX10_through_20 : decode cX10_through 20 = .ok (.isub, 1) := by decide +kernel
theorem dX10_through_21 : decode cX10_through 21 = .ok (.i2l, 1) := by decide +kernel
theorem dX10_through_22 : decode cX10_through 22 = .ok (.invokestatic 63, 3) := by decide +kernel
theorem dX10_through_25 : decode cX10_through 25 = .ok (.ifCond .ne 5, 3) := by decide +kernel
theorem dX10_through_28 : decode cX10_through 28 = .ok (.iconst (-1), 1) := by decide +kernel
theorem dX10_through_29 : decode cX10_through 29 = .ok (.ireturn, 1) := by decide +kernel
theorem dX10_through_30 : decode cX10_through 30 = .ok (.aload_n 0, 1) := by decide +kernel
theorem dX10_through_31 : decode cX10_through 31 = .ok (.invokevirtual 257, 3) := by decide +kernel
theorem dX10_through_34 : decode cX10_through 34 = .ok (.ifCond .ne 8, 3) := by decide +kernel
theorem dX10_through_37 : decode cX10_through 37 = .ok (.bipush (-5), 2) := by decide +kernel
theorem dX10_through_39 : decode cX10_through 39 = .ok (.goto 24, 3) := by decide +kernel
theorem dX10_through_42 : decode cX10_through 42 = .ok (.iload_n 1, 1) := by decide +kernel
theorem dX10_through_43 : decode cX10_through 43 = .ok (.aload_n 0, 1) := by decide +kernel
theorem dX10_through_44 : decode cX10_through 44 = .ok (.getfield 9, 3) := by decide +kernel
theorem dX10_through_47 : decode cX10_through 47 = .ok (.iconst 4, 1) := by decide +kernel
theorem dX10_through_48 : decode cX10_through 48 = .ok (.iaload, 1) := by decide +kernel
theorem dX10_through_49 : decode cX10_through 49 = .ok (.if_icmp .le 8, 3) := by decide +kernel
theorem dX10_through_52 : decode cX10_through 52 = .ok (.bipush (-2), 2) := by decide +kernel
theorem dX10_through_54 : decode cX10_through 54 = .ok (.goto 9, 3) := by decide +kernel
theorem dX10_through_57 : decode cX10_through 57 = .ok (.aload_n 0, 1) := by decide +kernel
theorem dX10_through_58 : decode cX10_through 58 = .ok (.iload_n 1, 1) := by decide +kernel
theorem dX10_through_59 : decode cX10_through 59 = .ok (.iload_n 2, 1) := by decide +kernel
theorem dX10_through_60 : decode cX10_through 60 = .ok (.invokevirtual 272, 3) := by decide +kernel
theorem dX10_through_63 : decode cX10_through 63 = .ok (.ireturn, 1) := by decide +kernel
theorem dX10_met_0 : decode cX10_met 0 = .ok (.aload_n 0, 1) := by decide +kernel
theorem dX10_met_1 : decode cX10_met 1 = .ok (.iload_n 1, 1) := by decide +kernel
theorem dX10_met_2 : decode cX10_met 2 = .ok (.invokevirtual 114, 3) := by decide +kernel
theorem dX10_met_5 : decode cX10_met 5 = .ok (.ifCond .eq 11, 3) := by decide +kernel
theorem dX10_met_8 : decode cX10_met 8 = .ok (.aload_n 0, 1) := by decide +kernel
theorem dX10_met_9 : decode cX10_met 9 = .ok (.iload_n 2, 1) := by decide +kernel
theorem dX10_met_10 : decode cX10_met 10 = .ok (.invokevirtual 228, 3) := by decide +kernel
theorem dX10_met_13 : decode cX10_met 13 = .ok (.ifCond .ne 5, 3) := by decide +kernel
theorem dX10_met_16 : decode cX10_met 16 = .ok (.iconst (-1), 1) := by decide +kernel
theorem dX10_met_17 : decode cX10_met 17 = .ok (.ireturn, 1) := by decide +kernel
theorem dX10_met_18 : decode cX10_met 18 = .ok (.aload_n 0, 1) := by decide +kernel
theorem dX10_met_19 : decode cX10_met 19 = .ok (.invokevirtual 257, 3) := by decide +kernel
theorem dX10_met_22 : decode cX10_met 22 = .ok (.ifCond .ne 6, 3) := by decide +kernel
theorem dX10_met_25 : decode cX10_met 25 = .ok (.bipush (-5), 2) := by decide +kernel
theorem dX10_met_27 : decode cX10_met 27 = .ok (.ireturn, 1) := by decide +kernel
theorem dX10_met_28 : decode cX10_met 28 = .ok (.iload_n 2, 1) := by decide +kernel
theorem dX10_met_29 : decode cX10_met 29 = .ok (.aload_n 0, 1) := by decide +kernel
theorem dX10_met_30 : decode cX10_met 30 = .ok (.getfield 9, 3) := by decide +kernel
theorem dX10_met_33 : decode cX10_met 33 = .ok (.iconst 4, 1) := by decide +kernel
theorem dX10_met_34 : decode cX10_met 34 = .ok (.iaload, 1) := by decide +kernel
theorem dX10_met_35 : decode cX10_met 35 = .ok (.if_icmp .gt 14, 3) := by decide +kernel
theorem dX10_met_38 : decode cX10_met 38 = .ok (.aload_n 0, 1) := by decide +kernel
theorem dX10_met_39 : decode cX10_met 39 = .ok (.iload_n 1, 1) := by decide +kernel
theorem dX10_met_40 : decode cX10_met 40 = .ok (.iload_n 2, 1) := by decide +kernel
theorem dX10_met_41 : decode cX10_met 41 = .ok (.iconst 1, 1) := by decide +kernel
theorem dX10_met_42 : decode cX10_met 42 = .ok (.isub, 1) := by decide +kernel
theorem dX10_met_43 : decode cX10_met 43 = .ok (.invokevirtual 284, 3) := by decide +kernel
theorem dX10_met_46 : decode cX10_met 46 = .ok (.ifCond .ne 8, 3) := by decide +kernel
theorem dX10_met_49 : decode cX10_met 49 = .ok (.bipush (-2), 2) := by decide +kernel
theorem dX10_met_51 : decode cX10_met 51 = .ok (.goto 21, 3) := by decide +kernel
theorem dX10_met_54 : decode cX10_met 54 = .ok (.aload_n 0, 1) := by decide +kernel
theorem dX10_met_55 : decode cX10_met 55 = .ok (.iload_n 2, 1) := by decide +kernel
theorem dX10_met_56 : decode cX10_met 56 = .ok (.iconst 1, 1) := by decide +kernel
theorem dX10_met_57 : decode cX10_met 57 = .ok (.isub, 1) := by decide +kernel
theorem dX10_met_58 : decode cX10_met 58 = .ok (.aload_n 0, 1) := by decide +kernel
theorem dX10_met_59 : decode cX10_met 59 = .ok (.iload_n 1, 1) := by decide +kernel
theorem dX10_met_60 : decode cX10_met 60 = .ok (.invokevirtual 260, 3) := by decide +kernel
theorem dX10_met_63 : decode cX10_met 63 = .ok (.iload_n 2, 1) := by decide +kernel
theorem dX10_met_64 : decode cX10_met 64 = .ok (.iconst 1, 1) := by decide +kernel
theorem dX10_met_65 : decode cX10_met 65 = .ok (.isub, 1) := by decide +kernel
theorem dX10_met_66 : decode cX10_met 66 = .ok (.ishr, 1) := by decide +kernel
theorem dX10_met_67 : decode cX10_met 67 = .ok (.iconst 1, 1) := by decide +kernel
theorem dX10_met_68 : decode cX10_met 68 = .ok (.ixor, 1) := by decide +kernel
theorem dX10_met_69 : decode cX10_met 69 = .ok (.invokevirtual 272, 3) := by decide +kernel
theorem dX10_met_72 : decode cX10_met 72 = .ok (.ireturn, 1) := by decide +kernel
theorem dX10_winner_0 : decode cX10_winner 0 = .ok (.aload_n 0, 1) := by decide +kernel
theorem dX10_winner_1 : decode cX10_winner 1 = .ok (.invokevirtual 257, 3) := by decide +kernel
theorem dX10_winner_4 : decode cX10_winner 4 = .ok (.ifCond .ne 6, 3) := by decide +kernel
theorem dX10_winner_7 : decode cX10_winner 7 = .ok (.bipush (-5), 2) := by decide +kernel
theorem dX10_winner_9 : decode cX10_winner 9 = .ok (.ireturn, 1) := by decide +kernel
theorem dX10_winner_10 : decode cX10_winner 10 = .ok (.aload_n 0, 1) := by decide +kernel
theorem dX10_winner_11 : decode cX10_winner 11 = .ok (.getfield 9, 3) := by decide +kernel
theorem dX10_winner_14 : decode cX10_winner 14 = .ok (.iconst 0, 1) := by decide +kernel
theorem dX10_winner_15 : decode cX10_winner 15 = .ok (.aload_n 0, 1) := by decide +kernel
theorem dX10_winner_16 : decode cX10_winner 16 = .ok (.getfield 60, 3) := by decide +kernel
theorem dX10_winner_19 : decode cX10_winner 19 = .ok (.iconst 0, 1) := by decide +kernel
theorem dX10_winner_20 : decode cX10_winner 20 = .ok (.invokestatic 85, 3) := by decide +kernel
theorem dX10_winner_23 : decode cX10_winner 23 = .ok (.aload_n 0, 1) := by decide +kernel
theorem dX10_winner_24 : decode cX10_winner 24 = .ok (.getfield 9, 3) := by decide +kernel
theorem dX10_winner_27 : decode cX10_winner 27 = .ok (.iconst 4, 1) := by decide +kernel
theorem dX10_winner_28 : decode cX10_winner 28 = .ok (.iaload, 1) := by decide +kernel
theorem dX10_winner_29 : decode cX10_winner 29 = .ok (.aload_n 0, 1) := by decide +kernel
theorem dX10_winner_30 : decode cX10_winner 30 = .ok (.invokevirtual 71, 3) := by decide +kernel
theorem dX10_winner_33 : decode cX10_winner 33 = .ok (.if_icmp .ge 10, 3) := by decide +kernel
theorem dX10_winner_36 : decode cX10_winner 36 = .ok (.aload_n 0, 1) := by decide +kernel
theorem dX10_winner_37 : decode cX10_winner 37 = .ok (.invokevirtual 281, 3) := by decide +kernel
theorem dX10_winner_40 : decode cX10_winner 40 = .ok (.goto (-17), 3) := by decide +kernel
theorem dX10_winner_43 : decode cX10_winner 43 = .ok (.aload_n 0, 1) := by decide +kernel
theorem dX10_winner_44 : decode cX10_winner 44 = .ok (.aload_n 0, 1) := by decide +kernel
theorem dX10_winner_45 : decode cX10_winner 45 = .ok (.invokevirtual 71, 3) := by decide +kernel
theorem dX10_winner_48 : decode cX10_winner 48 = .ok (.iconst 0, 1) := by decide +kernel
theorem dX10_winner_49 : decode cX10_winner 49 = .ok (.invokevirtual 272, 3) := by decide +kernel
theorem dX10_winner_52 : decode cX10_winner 52 = .ok (.istore_n 1, 1) := by decide +kernel
theorem dX10_winner_53 : decode cX10_winner 53 = .ok (.aload_n 0, 1) := by decide +kernel
theorem dX10_winner_54 : decode cX10_winner 54 = .ok (.getfield 60, 3) := by decide +kernel
theorem dX10_winner_57 : decode cX10_winner 57 = .ok (.iconst 0, 1) := by decide +kernel
theorem dX10_winner_58 : decode cX10_winner 58 = .ok (.aload_n 0, 1) := by decide +kernel
theorem dX10_winner_59 : decode cX10_winner 59 = .ok (.getfield 9, 3) := by decide +kernel
theorem dX10_winner_62 : decode cX10_winner 62 = .ok (.iconst 0, 1) := by decide +kernel
theorem dX10_winner_63 : decode cX10_winner 63 = .ok (.invokestatic 85, 3) := by decide +kernel
theorem dX10_winner_66 : decode cX10_winner 66 = .ok (.iload_n 1, 1) := by decide +kernel
theorem dX10_winner_67 : decode cX10_winner 67 = .ok (.ireturn, 1) := by decide +kernel
theorem dX10_wins_0 : decode cX10_wins 0 = .ok (.aload_n 0, 1) := by decide +kernel
theorem dX10_wins_1 : decode cX10_wins 1 = .ok (.iload_n 1, 1) := by decide +kernel
theorem dX10_wins_2 : decode cX10_wins 2 = .ok (.invokevirtual 114, 3) := by decide +kernel
theorem dX10_wins_5 : decode cX10_wins 5 = .ok (.ifCond .ne 7, 3) := by decide +kernel
theorem dX10_wins_8 : decode cX10_wins 8 = .ok (.ldc2_w 226, 3) := by decide +kernel
theorem dX10_wins_11 : decode cX10_wins 11 = .ok (.lreturn, 1) := by decide +kernel
theorem dX10_wins_12 : decode cX10_wins 12 = .ok (.aload_n 0, 1) := by decide +kernel
theorem dX10_wins_13 : decode cX10_wins 13 = .ok (.invokevirtual 214, 3) := by decide +kernel
theorem dX10_wins_16 : decode cX10_wins 16 = .ok (.ifCond .ne 14, 3) := by decide +kernel
theorem dX10_wins_19 : decode cX10_wins 19 = .ok (.aload_n 0, 1) := by decide +kernel
theorem dX10_wins_20 : decode cX10_wins 20 = .ok (.getfield 9, 3) := by decide +kernel
theorem dX10_wins_23 : decode cX10_wins 23 = .ok (.iconst 0, 1) := by decide +kernel
theorem dX10_wins_24 : decode cX10_wins 24 = .ok (.iaload, 1) := by decide +kernel
theorem dX10_wins_25 : decode cX10_wins 25 = .ok (.bipush 8, 2) := by decide +kernel
theorem dX10_wins_27 : decode cX10_wins 27 = .ok (.if_icmp .le 7, 3) := by decide +kernel
theorem dX10_wins_30 : decode cX10_wins 30 = .ok (.ldc2_w 217, 3) := by decide +kernel
theorem dX10_wins_33 : decode cX10_wins 33 = .ok (.lreturn, 1) := by decide +kernel
theorem dX10_wins_34 : decode cX10_wins 34 = .ok (.iconst 1, 1) := by decide +kernel
theorem dX10_wins_35 : decode cX10_wins 35 = .ok (.istore_n 2, 1) := by decide +kernel
theorem dX10_wins_36 : decode cX10_wins 36 = .ok (.iconst 0, 1) := by decide +kernel
theorem dX10_wins_37 : decode cX10_wins 37 = .ok (.istore_n 3, 1) := by decide +kernel
theorem dX10_wins_38 : decode cX10_wins 38 = .ok (.iload_n 3, 1) := by decide +kernel
theorem dX10_wins_39 : decode cX10_wins 39 = .ok (.aload_n 0, 1) := by decide +kernel
theorem dX10_wins_40 : decode cX10_wins 40 = .ok (.getfield 9, 3) := by decide +kernel
theorem dX10_wins_43 : decode cX10_wins 43 = .ok (.iconst 0, 1) := by decide +kernel
theorem dX10_wins_44 : decode cX10_wins 44 = .ok (.iaload, 1) := by decide +kernel
theorem dX10_wins_45 : decode cX10_wins 45 = .ok (.if_icmp .ge 29, 3) := by decide +kernel
theorem dX10_wins_48 : decode cX10_wins 48 = .ok (.iload_n 2, 1) := by decide +kernel
theorem dX10_wins_49 : decode cX10_wins 49 = .ok (.ifCond .eq 17, 3) := by decide +kernel
theorem dX10_wins_52 : decode cX10_wins 52 = .ok (.aload_n 0, 1) := by decide +kernel
theorem dX10_wins_53 : decode cX10_wins 53 = .ok (.iload_n 1, 1) := by decide +kernel
theorem dX10_wins_54 : decode cX10_wins 54 = .ok (.iload_n 3, 1) := by decide +kernel
theorem dX10_wins_55 : decode cX10_wins 55 = .ok (.invokevirtual 275, 3) := by decide +kernel
theorem dX10_wins_58 : decode cX10_wins 58 = .ok (.iload_n 1, 1) := by decide +kernel
theorem dX10_wins_59 : decode cX10_wins 59 = .ok (.if_icmp .ne 7, 3) := by decide +kernel
theorem dX10_wins_62 : decode cX10_wins 62 = .ok (.iconst 1, 1) := by decide +kernel
theorem dX10_wins_63 : decode cX10_wins 63 = .ok (.goto 4, 3) := by decide +kernel
theorem dX10_wins_66 : decode cX10_wins 66 = .ok (.iconst 0, 1) := by decide +kernel
theorem dX10_wins_67 : decode cX10_wins 67 = .ok (.istore_n 2, 1) := by decide +kernel
theorem dX10_wins_68 : decode cX10_wins 68 = .ok (.iinc 3 1, 3) := by decide +kernel
theorem dX10_wins_71 : decode cX10_wins 71 = .ok (.goto (-33), 3) := by decide +kernel
theorem dX10_wins_74 : decode cX10_wins 74 = .ok (.iload_n 2, 1) := by decide +kernel
theorem dX10_wins_75 : decode cX10_wins 75 = .ok (.ifCond .eq 10, 3) := by decide +kernel
theorem dX10_wins_78 : decode cX10_wins 78 = .ok (.aload_n 0, 1) := by decide +kernel
theorem dX10_wins_79 : decode cX10_wins 79 = .ok (.invokevirtual 219, 3) := by decide +kernel
theorem dX10_wins_82 : decode cX10_wins 82 = .ok (.goto 4, 3) := by decide +kernel
theorem dX10_wins_85 : decode cX10_wins 85 = .ok (.lconst 0, 1) := by decide +kernel
theorem dX10_wins_86 : decode cX10_wins 86 = .ok (.lreturn, 1) := by decide +kernel
theorem dX10_letterOf_0 : decode cX10_letterOf 0 = .ok (.iload_n 0, 1) := by decide +kernel
theorem dX10_letterOf_1 : decode cX10_letterOf 1 = .ok (.bipush 10, 2) := by decide +kernel
theorem dX10_letterOf_3 : decode cX10_letterOf 3 = .ok (.if_icmp .ne 8, 3) := by decide +kernel
theorem dX10_letterOf_6 : decode cX10_letterOf 6 = .ok (.bipush 45, 2) := by decide +kernel
theorem dX10_letterOf_8 : decode cX10_letterOf 8 = .ok (.goto 7, 3) := by decide +kernel
theorem dX10_letterOf_11 : decode cX10_letterOf 11 = .ok (.bipush 48, 2) := by decide +kernel
theorem dX10_letterOf_13 : decode cX10_letterOf 13 = .ok (.iload_n 0, 1) := by decide +kernel
theorem dX10_letterOf_14 : decode cX10_letterOf 14 = .ok (.iadd, 1) := by decide +kernel
theorem dX10_letterOf_15 : decode cX10_letterOf 15 = .ok (.ireturn, 1) := by decide +kernel
theorem dX10_print_0 : decode cX10_print 0 = .ok (.iload_n 1, 1) := by decide +kernel
theorem dX10_print_1 : decode cX10_print 1 = .ok (.iconst (-1), 1) := by decide +kernel
theorem dX10_print_2 : decode cX10_print 2 = .ok (.if_icmp .ge 5, 3) := by decide +kernel
theorem dX10_print_5 : decode cX10_print 5 = .ok (.iconst (-1), 1) := by decide +kernel
theorem dX10_print_6 : decode cX10_print 6 = .ok (.ireturn, 1) := by decide +kernel
theorem dX10_print_7 : decode cX10_print 7 = .ok (.aload_n 0, 1) := by decide +kernel
theorem dX10_print_8 : decode cX10_print 8 = .ok (.invokevirtual 257, 3) := by decide +kernel
theorem dX10_print_11 : decode cX10_print 11 = .ok (.ifCond .ne 6, 3) := by decide +kernel
theorem dX10_print_14 : decode cX10_print 14 = .ok (.bipush (-5), 2) := by decide +kernel
theorem dX10_print_16 : decode cX10_print 16 = .ok (.ireturn, 1) := by decide +kernel
theorem dX10_print_17 : decode cX10_print 17 = .ok (.iconst 2, 1) := by decide +kernel
theorem dX10_print_18 : decode cX10_print 18 = .ok (.aload_n 0, 1) := by decide +kernel
theorem dX10_print_19 : decode cX10_print 19 = .ok (.invokevirtual 67, 3) := by decide +kernel
theorem dX10_print_22 : decode cX10_print 22 = .ok (.imul, 1) := by decide +kernel
theorem dX10_print_23 : decode cX10_print 23 = .ok (.iconst 1, 1) := by decide +kernel
theorem dX10_print_24 : decode cX10_print 24 = .ok (.isub, 1) := by decide +kernel
theorem dX10_print_25 : decode cX10_print 25 = .ok (.istore_n 2, 1) := by decide +kernel
theorem dX10_print_26 : decode cX10_print 26 = .ok (.iload_n 1, 1) := by decide +kernel
theorem dX10_print_27 : decode cX10_print 27 = .ok (.iload_n 2, 1) := by decide +kernel
theorem dX10_print_28 : decode cX10_print 28 = .ok (.if_icmp .lt 6, 3) := by decide +kernel
theorem dX10_print_31 : decode cX10_print 31 = .ok (.bipush (-2), 2) := by decide +kernel
theorem dX10_print_33 : decode cX10_print 33 = .ok (.ireturn, 1) := by decide +kernel
theorem dX10_print_34 : decode cX10_print 34 = .ok (.iload_n 1, 1) := by decide +kernel
theorem dX10_print_35 : decode cX10_print 35 = .ok (.iconst (-1), 1) := by decide +kernel
theorem dX10_print_36 : decode cX10_print 36 = .ok (.if_icmp .ne 7, 3) := by decide +kernel
theorem dX10_print_39 : decode cX10_print 39 = .ok (.iload_n 2, 1) := by decide +kernel
theorem dX10_print_40 : decode cX10_print 40 = .ok (.goto 43, 3) := by decide +kernel
theorem dX10_print_43 : decode cX10_print 43 = .ok (.iload_n 1, 1) := by decide +kernel
theorem dX10_print_44 : decode cX10_print 44 = .ok (.iconst 2, 1) := by decide +kernel
theorem dX10_print_45 : decode cX10_print 45 = .ok (.irem, 1) := by decide +kernel
theorem dX10_print_46 : decode cX10_print 46 = .ok (.ifCond .ne 20, 3) := by decide +kernel
theorem dX10_print_49 : decode cX10_print 49 = .ok (.aload_n 0, 1) := by decide +kernel
theorem dX10_print_50 : decode cX10_print 50 = .ok (.getfield 9, 3) := by decide +kernel
theorem dX10_print_53 : decode cX10_print 53 = .ok (.bipush 45, 2) := by decide +kernel
theorem dX10_print_55 : decode cX10_print 55 = .ok (.iload_n 1, 1) := by decide +kernel
theorem dX10_print_56 : decode cX10_print 56 = .ok (.iconst 2, 1) := by decide +kernel
theorem dX10_print_57 : decode cX10_print 57 = .ok (.idiv, 1) := by decide +kernel
theorem dX10_print_58 : decode cX10_print 58 = .ok (.iadd, 1) := by decide +kernel
theorem dX10_print_59 : decode cX10_print 59 = .ok (.iaload, 1) := by decide +kernel
theorem dX10_print_60 : decode cX10_print 60 = .ok (.invokestatic 287, 3) := by decide +kernel
theorem dX10_print_63 : decode cX10_print 63 = .ok (.goto 20, 3) := by decide +kernel
theorem dX10_print_66 : decode cX10_print 66 = .ok (.iload_n 1, 1) := by decide +kernel
theorem dX10_print_67 : decode cX10_print 67 = .ok (.iconst 1, 1) := by decide +kernel
theorem dX10_print_68 : decode cX10_print 68 = .ok (.iadd, 1) := by decide +kernel
theorem dX10_print_69 : decode cX10_print 69 = .ok (.iconst 2, 1) := by decide +kernel
theorem dX10_print_70 : decode cX10_print 70 = .ok (.idiv, 1) := by decide +kernel
theorem dX10_print_71 : decode cX10_print 71 = .ok (.iconst 4, 1) := by decide +kernel
theorem dX10_print_72 : decode cX10_print 72 = .ok (.irem, 1) := by decide +kernel
theorem dX10_print_73 : decode cX10_print 73 = .ok (.ifCond .ne 8, 3) := by decide +kernel
theorem dX10_print_76 : decode cX10_print 76 = .ok (.bipush 124, 2) := by decide +kernel
theorem dX10_print_78 : decode cX10_print 78 = .ok (.goto 5, 3) := by decide +kernel
theorem dX10_print_81 : decode cX10_print 81 = .ok (.bipush 32, 2) := by decide +kernel
theorem dX10_print_83 : decode cX10_print 83 = .ok (.ireturn, 1) := by decide +kernel
theorem dX10_brackets_0 : decode cX10_brackets 0 = .ok (.iload_n 1, 1) := by decide +kernel
theorem dX10_brackets_1 : decode cX10_brackets 1 = .ok (.iconst (-1), 1) := by decide +kernel
theorem dX10_brackets_2 : decode cX10_brackets 2 = .ok (.if_icmp .ge 5, 3) := by decide +kernel
theorem dX10_brackets_5 : decode cX10_brackets 5 = .ok (.iconst (-1), 1) := by decide +kernel
theorem dX10_brackets_6 : decode cX10_brackets 6 = .ok (.ireturn, 1) := by decide +kernel
theorem dX10_brackets_7 : decode cX10_brackets 7 = .ok (.aload_n 0, 1) := by decide +kernel
theorem dX10_brackets_8 : decode cX10_brackets 8 = .ok (.invokevirtual 257, 3) := by decide +kernel
theorem dX10_brackets_11 : decode cX10_brackets 11 = .ok (.ifCond .ne 6, 3) := by decide +kernel
theorem dX10_brackets_14 : decode cX10_brackets 14 = .ok (.bipush (-5), 2) := by decide +kernel
theorem dX10_brackets_16 : decode cX10_brackets 16 = .ok (.ireturn, 1) := by decide +kernel
theorem dX10_brackets_17 : decode cX10_brackets 17 = .ok (.iconst 0, 1) := by decide +kernel
theorem dX10_brackets_18 : decode cX10_brackets 18 = .ok (.istore_n 2, 1) := by decide +kernel
theorem dX10_brackets_19 : decode cX10_brackets 19 = .ok (.bipush (-2), 2) := by decide +kernel
theorem dX10_brackets_21 : decode cX10_brackets 21 = .ok (.istore_n 3, 1) := by decide +kernel
theorem dX10_brackets_22 : decode cX10_brackets 22 = .ok (.iconst 1, 1) := by decide +kernel
theorem dX10_brackets_23 : decode cX10_brackets 23 = .ok (.istore 4, 2) := by decide +kernel
theorem dX10_brackets_25 : decode cX10_brackets 25 = .ok (.iload 4, 2) := by decide +kernel
theorem dX10_brackets_27 : decode cX10_brackets 27 = .ok (.aload_n 0, 1) := by decide +kernel
theorem dX10_brackets_28 : decode cX10_brackets 28 = .ok (.getfield 9, 3) := by decide +kernel
theorem dX10_brackets_31 : decode cX10_brackets 31 = .ok (.iconst 4, 1) := by decide +kernel
theorem dX10_brackets_32 : decode cX10_brackets 32 = .ok (.iaload, 1) := by decide +kernel
theorem dX10_brackets_33 : decode cX10_brackets 33 = .ok (.if_icmp .gt 86, 3) := by decide +kernel
theorem dX10_brackets_36 : decode cX10_brackets 36 = .ok (.iconst 1, 1) := by decide +kernel
theorem dX10_brackets_37 : decode cX10_brackets 37 = .ok (.aload_n 0, 1) := by decide +kernel
theorem dX10_brackets_38 : decode cX10_brackets 38 = .ok (.invokevirtual 71, 3) := by decide +kernel
theorem dX10_brackets_41 : decode cX10_brackets 41 = .ok (.iload 4, 2) := by decide +kernel
theorem dX10_brackets_43 : decode cX10_brackets 43 = .ok (.isub, 1) := by decide +kernel
theorem dX10_brackets_44 : decode cX10_brackets 44 = .ok (.ishl, 1) := by decide +kernel
theorem dX10_brackets_45 : decode cX10_brackets 45 = .ok (.istore 5, 2) := by decide +kernel
theorem dX10_brackets_47 : decode cX10_brackets 47 = .ok (.iconst 0, 1) := by decide +kernel
theorem dX10_brackets_48 : decode cX10_brackets 48 = .ok (.istore 6, 2) := by decide +kernel
theorem dX10_brackets_50 : decode cX10_brackets 50 = .ok (.iload 6, 2) := by decide +kernel
theorem dX10_brackets_52 : decode cX10_brackets 52 = .ok (.iload 5, 2) := by decide +kernel
theorem dX10_brackets_54 : decode cX10_brackets 54 = .ok (.if_icmp .ge 59, 3) := by decide +kernel
theorem dX10_brackets_57 : decode cX10_brackets 57 = .ok (.iload_n 2, 1) := by decide +kernel
theorem dX10_brackets_58 : decode cX10_brackets 58 = .ok (.iload_n 1, 1) := by decide +kernel
theorem dX10_brackets_59 : decode cX10_brackets 59 = .ok (.if_icmp .ne 17, 3) := by decide +kernel
theorem dX10_brackets_62 : decode cX10_brackets 62 = .ok (.aload_n 0, 1) := by decide +kernel
theorem dX10_brackets_63 : decode cX10_brackets 63 = .ok (.iload 4, 2) := by decide +kernel
theorem dX10_brackets_65 : decode cX10_brackets 65 = .ok (.iload 6, 2) := by decide +kernel
theorem dX10_brackets_67 : decode cX10_brackets 67 = .ok (.invokevirtual 272, 3) := by decide +kernel
theorem dX10_brackets_70 : decode cX10_brackets 70 = .ok (.invokestatic 287, 3) := by decide +kernel
theorem dX10_brackets_73 : decode cX10_brackets 73 = .ok (.goto 30, 3) := by decide +kernel
theorem dX10_brackets_76 : decode cX10_brackets 76 = .ok (.iload_n 2, 1) := by decide +kernel
theorem dX10_brackets_77 : decode cX10_brackets 77 = .ok (.iconst 1, 1) := by decide +kernel
theorem dX10_brackets_78 : decode cX10_brackets 78 = .ok (.iadd, 1) := by decide +kernel
theorem dX10_brackets_79 : decode cX10_brackets 79 = .ok (.iload_n 1, 1) := by decide +kernel
theorem dX10_brackets_80 : decode cX10_brackets 80 = .ok (.if_icmp .ne 22, 3) := by decide +kernel
theorem dX10_brackets_83 : decode cX10_brackets 83 = .ok (.iload 6, 2) := by decide +kernel
theorem dX10_brackets_85 : decode cX10_brackets 85 = .ok (.iconst 1, 1) := by decide +kernel
theorem dX10_brackets_86 : decode cX10_brackets 86 = .ok (.iadd, 1) := by decide +kernel
theorem dX10_brackets_87 : decode cX10_brackets 87 = .ok (.iload 5, 2) := by decide +kernel
theorem dX10_brackets_89 : decode cX10_brackets 89 = .ok (.if_icmp .ge 8, 3) := by decide +kernel
theorem dX10_brackets_92 : decode cX10_brackets 92 = .ok (.bipush 44, 2) := by decide +kernel
theorem dX10_brackets_94 : decode cX10_brackets 94 = .ok (.goto 9, 3) := by decide +kernel
theorem dX10_brackets_97 : decode cX10_brackets 97 = .ok (.bipush 59, 2) := by decide +kernel
theorem dX10_brackets_99 : decode cX10_brackets 99 = .ok (.goto 4, 3) := by decide +kernel
theorem dX10_brackets_102 : decode cX10_brackets 102 = .ok (.iload_n 3, 1) := by decide +kernel
theorem dX10_brackets_103 : decode cX10_brackets 103 = .ok (.istore_n 3, 1) := by decide +kernel
theorem dX10_brackets_104 : decode cX10_brackets 104 = .ok (.iinc 2 2, 3) := by decide +kernel
theorem dX10_brackets_107 : decode cX10_brackets 107 = .ok (.iinc 6 1, 3) := by decide +kernel
theorem dX10_brackets_110 : decode cX10_brackets 110 = .ok (.goto (-60), 3) := by decide +kernel
theorem dX10_brackets_113 : decode cX10_brackets 113 = .ok (.iinc 4 1, 3) := by decide +kernel
theorem dX10_brackets_116 : decode cX10_brackets 116 = .ok (.goto (-91), 3) := by decide +kernel
theorem dX10_brackets_119 : decode cX10_brackets 119 = .ok (.iload_n 1, 1) := by decide +kernel
theorem dX10_brackets_120 : decode cX10_brackets 120 = .ok (.iconst (-1), 1) := by decide +kernel
theorem dX10_brackets_121 : decode cX10_brackets 121 = .ok (.if_icmp .ne 7, 3) := by decide +kernel
theorem dX10_brackets_124 : decode cX10_brackets 124 = .ok (.iload_n 2, 1) := by decide +kernel
theorem dX10_brackets_125 : decode cX10_brackets 125 = .ok (.goto 4, 3) := by decide +kernel
theorem dX10_brackets_128 : decode cX10_brackets 128 = .ok (.iload_n 3, 1) := by decide +kernel
theorem dX10_brackets_129 : decode cX10_brackets 129 = .ok (.ireturn, 1) := by decide +kernel
theorem dX10_count_0 : decode cX10_count 0 = .ok (.iload_n 1, 1) := by decide +kernel
theorem dX10_count_1 : decode cX10_count 1 = .ok (.tableswitch 146 0 9 #[55, 62, 78, 94, 110, 117, 124, 131, 136, 141], 55) := by decide +kernel
theorem dX10_count_56 : decode cX10_count 56 = .ok (.aload_n 0, 1) := by decide +kernel
theorem dX10_count_57 : decode cX10_count 57 = .ok (.getfield 9, 3) := by decide +kernel
theorem dX10_count_60 : decode cX10_count 60 = .ok (.iconst 0, 1) := by decide +kernel
theorem dX10_count_61 : decode cX10_count 61 = .ok (.iaload, 1) := by decide +kernel
theorem dX10_count_62 : decode cX10_count 62 = .ok (.ireturn, 1) := by decide +kernel
theorem dX10_count_63 : decode cX10_count 63 = .ok (.aload_n 0, 1) := by decide +kernel
theorem dX10_count_64 : decode cX10_count 64 = .ok (.invokevirtual 214, 3) := by decide +kernel
theorem dX10_count_67 : decode cX10_count 67 = .ok (.ifCond .eq 7, 3) := by decide +kernel
theorem dX10_count_70 : decode cX10_count 70 = .ok (.iconst 0, 1) := by decide +kernel
theorem dX10_count_71 : decode cX10_count 71 = .ok (.goto 7, 3) := by decide +kernel
theorem dX10_count_74 : decode cX10_count 74 = .ok (.aload_n 0, 1) := by decide +kernel
theorem dX10_count_75 : decode cX10_count 75 = .ok (.invokevirtual 67, 3) := by decide +kernel
theorem dX10_count_78 : decode cX10_count 78 = .ok (.ireturn, 1) := by decide +kernel
theorem dX10_count_79 : decode cX10_count 79 = .ok (.aload_n 0, 1) := by decide +kernel
theorem dX10_count_80 : decode cX10_count 80 = .ok (.invokevirtual 214, 3) := by decide +kernel
theorem dX10_count_83 : decode cX10_count 83 = .ok (.ifCond .eq 7, 3) := by decide +kernel
theorem dX10_count_86 : decode cX10_count 86 = .ok (.iconst 0, 1) := by decide +kernel
theorem dX10_count_87 : decode cX10_count 87 = .ok (.goto 7, 3) := by decide +kernel
theorem dX10_count_90 : decode cX10_count 90 = .ok (.aload_n 0, 1) := by decide +kernel
theorem dX10_count_91 : decode cX10_count 91 = .ok (.invokevirtual 174, 3) := by decide +kernel
theorem dX10_count_94 : decode cX10_count 94 = .ok (.ireturn, 1) := by decide +kernel
theorem dX10_count_95 : decode cX10_count 95 = .ok (.aload_n 0, 1) := by decide +kernel
theorem dX10_count_96 : decode cX10_count 96 = .ok (.invokevirtual 214, 3) := by decide +kernel
theorem dX10_count_99 : decode cX10_count 99 = .ok (.ifCond .eq 7, 3) := by decide +kernel
theorem dX10_count_102 : decode cX10_count 102 = .ok (.iconst 0, 1) := by decide +kernel
theorem dX10_count_103 : decode cX10_count 103 = .ok (.goto 7, 3) := by decide +kernel
theorem dX10_count_106 : decode cX10_count 106 = .ok (.aload_n 0, 1) := by decide +kernel
theorem dX10_count_107 : decode cX10_count 107 = .ok (.invokevirtual 71, 3) := by decide +kernel
theorem dX10_count_110 : decode cX10_count 110 = .ok (.ireturn, 1) := by decide +kernel
theorem dX10_count_111 : decode cX10_count 111 = .ok (.aload_n 0, 1) := by decide +kernel
theorem dX10_count_112 : decode cX10_count 112 = .ok (.getfield 9, 3) := by decide +kernel
theorem dX10_count_115 : decode cX10_count 115 = .ok (.iconst 4, 1) := by decide +kernel
theorem dX10_count_116 : decode cX10_count 116 = .ok (.iaload, 1) := by decide +kernel
theorem dX10_count_117 : decode cX10_count 117 = .ok (.ireturn, 1) := by decide +kernel
theorem dX10_count_118 : decode cX10_count 118 = .ok (.aload_n 0, 1) := by decide +kernel
theorem dX10_count_119 : decode cX10_count 119 = .ok (.getfield 9, 3) := by decide +kernel
theorem dX10_count_122 : decode cX10_count 122 = .ok (.iconst 1, 1) := by decide +kernel
theorem dX10_count_123 : decode cX10_count 123 = .ok (.iaload, 1) := by decide +kernel
theorem dX10_count_124 : decode cX10_count 124 = .ok (.ireturn, 1) := by decide +kernel
theorem dX10_count_125 : decode cX10_count 125 = .ok (.aload_n 0, 1) := by decide +kernel
theorem dX10_count_126 : decode cX10_count 126 = .ok (.getfield 9, 3) := by decide +kernel
theorem dX10_count_129 : decode cX10_count 129 = .ok (.iconst 2, 1) := by decide +kernel
theorem dX10_count_130 : decode cX10_count 130 = .ok (.iaload, 1) := by decide +kernel
theorem dX10_count_131 : decode cX10_count 131 = .ok (.ireturn, 1) := by decide +kernel
theorem dX10_count_132 : decode cX10_count 132 = .ok (.aload_n 0, 1) := by decide +kernel
theorem dX10_count_133 : decode cX10_count 133 = .ok (.getfield 137, 3) := by decide +kernel
theorem dX10_count_136 : decode cX10_count 136 = .ok (.ireturn, 1) := by decide +kernel
theorem dX10_count_137 : decode cX10_count 137 = .ok (.aload_n 0, 1) := by decide +kernel
theorem dX10_count_138 : decode cX10_count 138 = .ok (.getfield 81, 3) := by decide +kernel
theorem dX10_count_141 : decode cX10_count 141 = .ok (.ireturn, 1) := by decide +kernel
theorem dX10_count_142 : decode cX10_count 142 = .ok (.aload_n 0, 1) := by decide +kernel
theorem dX10_count_143 : decode cX10_count 143 = .ok (.getfield 89, 3) := by decide +kernel
theorem dX10_count_146 : decode cX10_count 146 = .ok (.ireturn, 1) := by decide +kernel
theorem dX10_count_147 : decode cX10_count 147 = .ok (.iconst (-1), 1) := by decide +kernel
theorem dX10_count_148 : decode cX10_count 148 = .ok (.ireturn, 1) := by decide +kernel
theorem dJ6_bitCount_0f7a4_0 : decode cJ6_bitCount_0f7a4 0 = .ok (.iload_n 0, 1) := by decide +kernel
theorem dJ6_bitCount_0f7a4_1 : decode cJ6_bitCount_0f7a4 1 = .ok (.iload_n 0, 1) := by decide +kernel
theorem dJ6_bitCount_0f7a4_2 : decode cJ6_bitCount_0f7a4 2 = .ok (.iconst 1, 1) := by decide +kernel
theorem dJ6_bitCount_0f7a4_3 : decode cJ6_bitCount_0f7a4 3 = .ok (.iushr, 1) := by decide +kernel
theorem dJ6_bitCount_0f7a4_4 : decode cJ6_bitCount_0f7a4 4 = .ok (.ldc_w 265, 3) := by decide +kernel
theorem dJ6_bitCount_0f7a4_7 : decode cJ6_bitCount_0f7a4 7 = .ok (.iand, 1) := by decide +kernel
theorem dJ6_bitCount_0f7a4_8 : decode cJ6_bitCount_0f7a4 8 = .ok (.isub, 1) := by decide +kernel
theorem dJ6_bitCount_0f7a4_9 : decode cJ6_bitCount_0f7a4 9 = .ok (.istore_n 0, 1) := by decide +kernel
theorem dJ6_bitCount_0f7a4_10 : decode cJ6_bitCount_0f7a4 10 = .ok (.iload_n 0, 1) := by decide +kernel
theorem dJ6_bitCount_0f7a4_11 : decode cJ6_bitCount_0f7a4 11 = .ok (.ldc_w 266, 3) := by decide +kernel
theorem dJ6_bitCount_0f7a4_14 : decode cJ6_bitCount_0f7a4 14 = .ok (.iand, 1) := by decide +kernel
theorem dJ6_bitCount_0f7a4_15 : decode cJ6_bitCount_0f7a4 15 = .ok (.iload_n 0, 1) := by decide +kernel
theorem dJ6_bitCount_0f7a4_16 : decode cJ6_bitCount_0f7a4 16 = .ok (.iconst 2, 1) := by decide +kernel
theorem dJ6_bitCount_0f7a4_17 : decode cJ6_bitCount_0f7a4 17 = .ok (.iushr, 1) := by decide +kernel
theorem dJ6_bitCount_0f7a4_18 : decode cJ6_bitCount_0f7a4 18 = .ok (.ldc_w 266, 3) := by decide +kernel
theorem dJ6_bitCount_0f7a4_21 : decode cJ6_bitCount_0f7a4 21 = .ok (.iand, 1) := by decide +kernel
theorem dJ6_bitCount_0f7a4_22 : decode cJ6_bitCount_0f7a4 22 = .ok (.iadd, 1) := by decide +kernel
theorem dJ6_bitCount_0f7a4_23 : decode cJ6_bitCount_0f7a4 23 = .ok (.istore_n 0, 1) := by decide +kernel
theorem dJ6_bitCount_0f7a4_24 : decode cJ6_bitCount_0f7a4 24 = .ok (.iload_n 0, 1) := by decide +kernel
theorem dJ6_bitCount_0f7a4_25 : decode cJ6_bitCount_0f7a4 25 = .ok (.iload_n 0, 1) := by decide +kernel
theorem dJ6_bitCount_0f7a4_26 : decode cJ6_bitCount_0f7a4 26 = .ok (.iconst 4, 1) := by decide +kernel
theorem dJ6_bitCount_0f7a4_27 : decode cJ6_bitCount_0f7a4 27 = .ok (.iushr, 1) := by decide +kernel
theorem dJ6_bitCount_0f7a4_28 : decode cJ6_bitCount_0f7a4 28 = .ok (.iadd, 1) := by decide +kernel
theorem dJ6_bitCount_0f7a4_29 : decode cJ6_bitCount_0f7a4 29 = .ok (.ldc_w 267, 3) := by decide +kernel
theorem dJ6_bitCount_0f7a4_32 : decode cJ6_bitCount_0f7a4 32 = .ok (.iand, 1) := by decide +kernel
theorem dJ6_bitCount_0f7a4_33 : decode cJ6_bitCount_0f7a4 33 = .ok (.istore_n 0, 1) := by decide +kernel
theorem dJ6_bitCount_0f7a4_34 : decode cJ6_bitCount_0f7a4 34 = .ok (.iload_n 0, 1) := by decide +kernel
theorem dJ6_bitCount_0f7a4_35 : decode cJ6_bitCount_0f7a4 35 = .ok (.iload_n 0, 1) := by decide +kernel
theorem dJ6_bitCount_0f7a4_36 : decode cJ6_bitCount_0f7a4 36 = .ok (.bipush 8, 2) := by decide +kernel
theorem dJ6_bitCount_0f7a4_38 : decode cJ6_bitCount_0f7a4 38 = .ok (.iushr, 1) := by decide +kernel
theorem dJ6_bitCount_0f7a4_39 : decode cJ6_bitCount_0f7a4 39 = .ok (.iadd, 1) := by decide +kernel
theorem dJ6_bitCount_0f7a4_40 : decode cJ6_bitCount_0f7a4 40 = .ok (.istore_n 0, 1) := by decide +kernel
theorem dJ6_bitCount_0f7a4_41 : decode cJ6_bitCount_0f7a4 41 = .ok (.iload_n 0, 1) := by decide +kernel
theorem dJ6_bitCount_0f7a4_42 : decode cJ6_bitCount_0f7a4 42 = .ok (.iload_n 0, 1) := by decide +kernel
theorem dJ6_bitCount_0f7a4_43 : decode cJ6_bitCount_0f7a4 43 = .ok (.bipush 16, 2) := by decide +kernel
theorem dJ6_bitCount_0f7a4_45 : decode cJ6_bitCount_0f7a4 45 = .ok (.iushr, 1) := by decide +kernel
theorem dJ6_bitCount_0f7a4_46 : decode cJ6_bitCount_0f7a4 46 = .ok (.iadd, 1) := by decide +kernel
theorem dJ6_bitCount_0f7a4_47 : decode cJ6_bitCount_0f7a4 47 = .ok (.istore_n 0, 1) := by decide +kernel
theorem dJ6_bitCount_0f7a4_48 : decode cJ6_bitCount_0f7a4 48 = .ok (.iload_n 0, 1) := by decide +kernel
theorem dJ6_bitCount_0f7a4_49 : decode cJ6_bitCount_0f7a4 49 = .ok (.bipush 63, 2) := by decide +kernel
theorem dJ6_bitCount_0f7a4_51 : decode cJ6_bitCount_0f7a4 51 = .ok (.iand, 1) := by decide +kernel
theorem dJ6_bitCount_0f7a4_52 : decode cJ6_bitCount_0f7a4 52 = .ok (.ireturn, 1) := by decide +kernel
theorem dJ9_max_7cf53_0 : decode cJ9_max_7cf53 0 = .ok (.iload_n 0, 1) := by decide +kernel
theorem dJ9_max_7cf53_1 : decode cJ9_max_7cf53 1 = .ok (.iload_n 1, 1) := by decide +kernel
theorem dJ9_max_7cf53_2 : decode cJ9_max_7cf53 2 = .ok (.if_icmp .lt 7, 3) := by decide +kernel
theorem dJ9_max_7cf53_5 : decode cJ9_max_7cf53 5 = .ok (.iload_n 0, 1) := by decide +kernel
theorem dJ9_max_7cf53_6 : decode cJ9_max_7cf53 6 = .ok (.goto 4, 3) := by decide +kernel
theorem dJ9_max_7cf53_9 : decode cJ9_max_7cf53 9 = .ok (.iload_n 1, 1) := by decide +kernel
theorem dJ9_max_7cf53_10 : decode cJ9_max_7cf53 10 = .ok (.ireturn, 1) := by decide +kernel
theorem dJ9_min_7cf53_0 : decode cJ9_min_7cf53 0 = .ok (.iload_n 0, 1) := by decide +kernel
theorem dJ9_min_7cf53_1 : decode cJ9_min_7cf53 1 = .ok (.iload_n 1, 1) := by decide +kernel
theorem dJ9_min_7cf53_2 : decode cJ9_min_7cf53 2 = .ok (.if_icmp .gt 7, 3) := by decide +kernel
theorem dJ9_min_7cf53_5 : decode cJ9_min_7cf53 5 = .ok (.iload_n 0, 1) := by decide +kernel
theorem dJ9_min_7cf53_6 : decode cJ9_min_7cf53 6 = .ok (.goto 4, 3) := by decide +kernel
theorem dJ9_min_7cf53_9 : decode cJ9_min_7cf53 9 = .ok (.iload_n 1, 1) := by decide +kernel
theorem dJ9_min_7cf53_10 : decode cJ9_min_7cf53 10 = .ok (.ireturn, 1) := by decide +kernel
theorem dL_law_0 : decode cL_law 0 = .ok (.new 7, 3) := by decide +kernel
theorem dL_law_3 : decode cL_law 3 = .ok (.dup, 1) := by decide +kernel
theorem dL_law_4 : decode cL_law 4 = .ok (.invokespecial 9, 3) := by decide +kernel
theorem dL_law_7 : decode cL_law 7 = .ok (.astore_n 1, 1) := by decide +kernel
theorem dL_law_8 : decode cL_law 8 = .ok (.new 10, 3) := by decide +kernel
theorem dL_law_11 : decode cL_law 11 = .ok (.dup, 1) := by decide +kernel
theorem dL_law_12 : decode cL_law 12 = .ok (.invokespecial 12, 3) := by decide +kernel
theorem dL_law_15 : decode cL_law 15 = .ok (.astore_n 2, 1) := by decide +kernel
theorem dL_law_16 : decode cL_law 16 = .ok (.iconst 0, 1) := by decide +kernel
theorem dL_law_17 : decode cL_law 17 = .ok (.istore_n 3, 1) := by decide +kernel
theorem dL_law_18 : decode cL_law 18 = .ok (.iload_n 3, 1) := by decide +kernel
theorem dL_law_19 : decode cL_law 19 = .ok (.aload_n 0, 1) := by decide +kernel
theorem dL_law_20 : decode cL_law 20 = .ok (.arraylength, 1) := by decide +kernel
theorem dL_law_21 : decode cL_law 21 = .ok (.iconst 5, 1) := by decide +kernel
theorem dL_law_22 : decode cL_law 22 = .ok (.isub, 1) := by decide +kernel
theorem dL_law_23 : decode cL_law 23 = .ok (.if_icmp .gt 966, 3) := by decide +kernel
theorem dL_law_26 : decode cL_law 26 = .ok (.aload_n 0, 1) := by decide +kernel
theorem dL_law_27 : decode cL_law 27 = .ok (.iload_n 3, 1) := by decide +kernel
theorem dL_law_28 : decode cL_law 28 = .ok (.iaload, 1) := by decide +kernel
theorem dL_law_29 : decode cL_law 29 = .ok (.bipush 31, 2) := by decide +kernel
theorem dL_law_31 : decode cL_law 31 = .ok (.iand, 1) := by decide +kernel
theorem dL_law_32 : decode cL_law 32 = .ok (.tableswitch 951 0 30 #[140, 193, 236, 269, 302, 325, 338, 352, 386, 430, 464, 517, 541, 564, 587, 601, 635, 668, 691, 704, 727, 760, 793, 806, 830, 853, 876, 889, 902, 915, 928], 140) := by decide +kernel
theorem dL_law_172 : decode cL_law 172 = .ok (.aload_n 1, 1) := by decide +kernel
theorem dL_law_173 : decode cL_law 173 = .ok (.aload_n 0, 1) := by decide +kernel
theorem dL_law_174 : decode cL_law 174 = .ok (.iload_n 3, 1) := by decide +kernel
theorem dL_law_175 : decode cL_law 175 = .ok (.iconst 1, 1) := by decide +kernel
theorem dL_law_176 : decode cL_law 176 = .ok (.iadd, 1) := by decide +kernel
theorem dL_law_177 : decode cL_law 177 = .ok (.iaload, 1) := by decide +kernel
theorem dL_law_178 : decode cL_law 178 = .ok (.aload_n 0, 1) := by decide +kernel
theorem dL_law_179 : decode cL_law 179 = .ok (.iload_n 3, 1) := by decide +kernel
theorem dL_law_180 : decode cL_law 180 = .ok (.iconst 2, 1) := by decide +kernel
theorem dL_law_181 : decode cL_law 181 = .ok (.iadd, 1) := by decide +kernel
theorem dL_law_182 : decode cL_law 182 = .ok (.iaload, 1) := by decide +kernel
theorem dL_law_183 : decode cL_law 183 = .ok (.aload_n 0, 1) := by decide +kernel
theorem dL_law_184 : decode cL_law 184 = .ok (.iload_n 3, 1) := by decide +kernel
theorem dL_law_185 : decode cL_law 185 = .ok (.iconst 3, 1) := by decide +kernel
theorem dL_law_186 : decode cL_law 186 = .ok (.iadd, 1) := by decide +kernel
theorem dL_law_187 : decode cL_law 187 = .ok (.iaload, 1) := by decide +kernel
theorem dL_law_188 : decode cL_law 188 = .ok (.aload_n 0, 1) := by decide +kernel
theorem dL_law_189 : decode cL_law 189 = .ok (.iload_n 3, 1) := by decide +kernel
theorem dL_law_190 : decode cL_law 190 = .ok (.iconst 4, 1) := by decide +kernel
theorem dL_law_191 : decode cL_law 191 = .ok (.iadd, 1) := by decide +kernel
theorem dL_law_192 : decode cL_law 192 = .ok (.iaload, 1) := by decide +kernel
theorem dL_law_193 : decode cL_law 193 = .ok (.invokevirtual 13, 3) := by decide +kernel
theorem dL_law_196 : decode cL_law 196 = .ok (.aload_n 2, 1) := by decide +kernel
theorem dL_law_197 : decode cL_law 197 = .ok (.aload_n 0, 1) := by decide +kernel
theorem dL_law_198 : decode cL_law 198 = .ok (.iload_n 3, 1) := by decide +kernel
theorem dL_law_199 : decode cL_law 199 = .ok (.iconst 1, 1) := by decide +kernel
theorem dL_law_200 : decode cL_law 200 = .ok (.iadd, 1) := by decide +kernel
theorem dL_law_201 : decode cL_law 201 = .ok (.iaload, 1) := by decide +kernel
theorem dL_law_202 : decode cL_law 202 = .ok (.aload_n 0, 1) := by decide +kernel
theorem dL_law_203 : decode cL_law 203 = .ok (.iload_n 3, 1) := by decide +kernel
theorem dL_law_204 : decode cL_law 204 = .ok (.iconst 2, 1) := by decide +kernel
theorem dL_law_205 : decode cL_law 205 = .ok (.iadd, 1) := by decide +kernel
theorem dL_law_206 : decode cL_law 206 = .ok (.iaload, 1) := by decide +kernel
theorem dL_law_207 : decode cL_law 207 = .ok (.aload_n 0, 1) := by decide +kernel
theorem dL_law_208 : decode cL_law 208 = .ok (.iload_n 3, 1) := by decide +kernel
theorem dL_law_209 : decode cL_law 209 = .ok (.iconst 3, 1) := by decide +kernel
theorem dL_law_210 : decode cL_law 210 = .ok (.iadd, 1) := by decide +kernel
theorem dL_law_211 : decode cL_law 211 = .ok (.iaload, 1) := by decide +kernel
theorem dL_law_212 : decode cL_law 212 = .ok (.aload_n 0, 1) := by decide +kernel
theorem dL_law_213 : decode cL_law 213 = .ok (.iload_n 3, 1) := by decide +kernel
theorem dL_law_214 : decode cL_law 214 = .ok (.iconst 4, 1) := by decide +kernel
theorem dL_law_215 : decode cL_law 215 = .ok (.iadd, 1) := by decide +kernel
theorem dL_law_216 : decode cL_law 216 = .ok (.iaload, 1) := by decide +kernel
theorem dL_law_217 : decode cL_law 217 = .ok (.invokevirtual 17, 3) := by decide +kernel
theorem dL_law_220 : decode cL_law 220 = .ok (.if_icmp .eq 763, 3) := by decide +kernel
theorem dL_law_223 : decode cL_law 223 = .ok (.iconst 0, 1) := by decide +kernel
theorem dL_law_224 : decode cL_law 224 = .ok (.ireturn, 1) := by decide +kernel
theorem dL_law_225 : decode cL_law 225 = .ok (.aload_n 1, 1) := by decide +kernel
theorem dL_law_226 : decode cL_law 226 = .ok (.aload_n 0, 1) := by decide +kernel
theorem dL_law_227 : decode cL_law 227 = .ok (.iload_n 3, 1) := by decide +kernel
theorem dL_law_228 : decode cL_law 228 = .ok (.iconst 1, 1) := by decide +kernel
theorem dL_law_229 : decode cL_law 229 = .ok (.iadd, 1) := by decide +kernel
theorem dL_law_230 : decode cL_law 230 = .ok (.iaload, 1) := by decide +kernel
theorem dL_law_231 : decode cL_law 231 = .ok (.aload_n 0, 1) := by decide +kernel
theorem dL_law_232 : decode cL_law 232 = .ok (.iload_n 3, 1) := by decide +kernel
theorem dL_law_233 : decode cL_law 233 = .ok (.iconst 2, 1) := by decide +kernel
theorem dL_law_234 : decode cL_law 234 = .ok (.iadd, 1) := by decide +kernel
theorem dL_law_235 : decode cL_law 235 = .ok (.iaload, 1) := by decide +kernel
theorem dL_law_236 : decode cL_law 236 = .ok (.aload_n 0, 1) := by decide +kernel
theorem dL_law_237 : decode cL_law 237 = .ok (.iload_n 3, 1) := by decide +kernel
theorem dL_law_238 : decode cL_law 238 = .ok (.iconst 3, 1) := by decide +kernel
theorem dL_law_239 : decode cL_law 239 = .ok (.iadd, 1) := by decide +kernel
theorem dL_law_240 : decode cL_law 240 = .ok (.iaload, 1) := by decide +kernel
theorem dL_law_241 : decode cL_law 241 = .ok (.invokevirtual 18, 3) := by decide +kernel
theorem dL_law_244 : decode cL_law 244 = .ok (.aload_n 2, 1) := by decide +kernel
theorem dL_law_245 : decode cL_law 245 = .ok (.aload_n 0, 1) := by decide +kernel
theorem dL_law_246 : decode cL_law 246 = .ok (.iload_n 3, 1) := by decide +kernel
theorem dL_law_247 : decode cL_law 247 = .ok (.iconst 1, 1) := by decide +kernel
theorem dL_law_248 : decode cL_law 248 = .ok (.iadd, 1) := by decide +kernel
theorem dL_law_249 : decode cL_law 249 = .ok (.iaload, 1) := by decide +kernel
theorem dL_law_250 : decode cL_law 250 = .ok (.aload_n 0, 1) := by decide +kernel
theorem dL_law_251 : decode cL_law 251 = .ok (.iload_n 3, 1) := by decide +kernel
theorem dL_law_252 : decode cL_law 252 = .ok (.iconst 2, 1) := by decide +kernel
theorem dL_law_253 : decode cL_law 253 = .ok (.iadd, 1) := by decide +kernel
theorem dL_law_254 : decode cL_law 254 = .ok (.iaload, 1) := by decide +kernel
theorem dL_law_255 : decode cL_law 255 = .ok (.aload_n 0, 1) := by decide +kernel
theorem dL_law_256 : decode cL_law 256 = .ok (.iload_n 3, 1) := by decide +kernel
theorem dL_law_257 : decode cL_law 257 = .ok (.iconst 3, 1) := by decide +kernel
theorem dL_law_258 : decode cL_law 258 = .ok (.iadd, 1) := by decide +kernel
theorem dL_law_259 : decode cL_law 259 = .ok (.iaload, 1) := by decide +kernel
theorem dL_law_260 : decode cL_law 260 = .ok (.invokevirtual 22, 3) := by decide +kernel
theorem dL_law_263 : decode cL_law 263 = .ok (.if_icmp .eq 720, 3) := by decide +kernel
theorem dL_law_266 : decode cL_law 266 = .ok (.iconst 0, 1) := by decide +kernel
theorem dL_law_267 : decode cL_law 267 = .ok (.ireturn, 1) := by decide +kernel
theorem dL_law_268 : decode cL_law 268 = .ok (.aload_n 1, 1) := by decide +kernel
theorem dL_law_269 : decode cL_law 269 = .ok (.aload_n 0, 1) := by decide +kernel
theorem dL_law_270 : decode cL_law 270 = .ok (.iload_n 3, 1) := by decide +kernel
theorem dL_law_271 : decode cL_law 271 = .ok (.iconst 1, 1) := by decide +kernel
theorem dL_law_272 : decode cL_law 272 = .ok (.iadd, 1) := by decide +kernel
theorem dL_law_273 : decode cL_law 273 = .ok (.iaload, 1) := by decide +kernel
theorem dL_law_274 : decode cL_law 274 = .ok (.aload_n 0, 1) := by decide +kernel
theorem dL_law_275 : decode cL_law 275 = .ok (.iload_n 3, 1) := by decide +kernel
theorem dL_law_276 : decode cL_law 276 = .ok (.iconst 2, 1) := by decide +kernel
theorem dL_law_277 : decode cL_law 277 = .ok (.iadd, 1) := by decide +kernel
theorem dL_law_278 : decode cL_law 278 = .ok (.iaload, 1) := by decide +kernel
theorem dL_law_279 : decode cL_law 279 = .ok (.invokevirtual 23, 3) := by decide +kernel
theorem dL_law_282 : decode cL_law 282 = .ok (.aload_n 2, 1) := by decide +kernel
theorem dL_law_283 : decode cL_law 283 = .ok (.aload_n 0, 1) := by decide +kernel
theorem dL_law_284 : decode cL_law 284 = .ok (.iload_n 3, 1) := by decide +kernel
theorem dL_law_285 : decode cL_law 285 = .ok (.iconst 1, 1) := by decide +kernel
theorem dL_law_286 : decode cL_law 286 = .ok (.iadd, 1) := by decide +kernel
theorem dL_law_287 : decode cL_law 287 = .ok (.iaload, 1) := by decide +kernel
theorem dL_law_288 : decode cL_law 288 = .ok (.aload_n 0, 1) := by decide +kernel
theorem dL_law_289 : decode cL_law 289 = .ok (.iload_n 3, 1) := by decide +kernel
theorem dL_law_290 : decode cL_law 290 = .ok (.iconst 2, 1) := by decide +kernel
theorem dL_law_291 : decode cL_law 291 = .ok (.iadd, 1) := by decide +kernel
theorem dL_law_292 : decode cL_law 292 = .ok (.iaload, 1) := by decide +kernel
theorem dL_law_293 : decode cL_law 293 = .ok (.invokevirtual 27, 3) := by decide +kernel
theorem dL_law_296 : decode cL_law 296 = .ok (.if_icmp .eq 687, 3) := by decide +kernel
theorem dL_law_299 : decode cL_law 299 = .ok (.iconst 0, 1) := by decide +kernel
theorem dL_law_300 : decode cL_law 300 = .ok (.ireturn, 1) := by decide +kernel
theorem dL_law_301 : decode cL_law 301 = .ok (.aload_n 1, 1) := by decide +kernel
theorem dL_law_302 : decode cL_law 302 = .ok (.aload_n 0, 1) := by decide +kernel
theorem dL_law_303 : decode cL_law 303 = .ok (.iload_n 3, 1) := by decide +kernel
theorem dL_law_304 : decode cL_law 304 = .ok (.iconst 1, 1) := by decide +kernel
theorem dL_law_305 : decode cL_law 305 = .ok (.iadd, 1) := by decide +kernel
theorem dL_law_306 : decode cL_law 306 = .ok (.iaload, 1) := by decide +kernel
theorem dL_law_307 : decode cL_law 307 = .ok (.aload_n 0, 1) := by decide +kernel
theorem dL_law_308 : decode cL_law 308 = .ok (.iload_n 3, 1) := by decide +kernel
theorem dL_law_309 : decode cL_law 309 = .ok (.iconst 2, 1) := by decide +kernel
theorem dL_law_310 : decode cL_law 310 = .ok (.iadd, 1) := by decide +kernel
theorem dL_law_311 : decode cL_law 311 = .ok (.iaload, 1) := by decide +kernel
theorem dL_law_312 : decode cL_law 312 = .ok (.invokevirtual 28, 3) := by decide +kernel
theorem dL_law_315 : decode cL_law 315 = .ok (.aload_n 2, 1) := by decide +kernel
theorem dL_law_316 : decode cL_law 316 = .ok (.aload_n 0, 1) := by decide +kernel
theorem dL_law_317 : decode cL_law 317 = .ok (.iload_n 3, 1) := by decide +kernel
theorem dL_law_318 : decode cL_law 318 = .ok (.iconst 1, 1) := by decide +kernel
theorem dL_law_319 : decode cL_law 319 = .ok (.iadd, 1) := by decide +kernel
theorem dL_law_320 : decode cL_law 320 = .ok (.iaload, 1) := by decide +kernel
theorem dL_law_321 : decode cL_law 321 = .ok (.aload_n 0, 1) := by decide +kernel
theorem dL_law_322 : decode cL_law 322 = .ok (.iload_n 3, 1) := by decide +kernel
theorem dL_law_323 : decode cL_law 323 = .ok (.iconst 2, 1) := by decide +kernel
theorem dL_law_324 : decode cL_law 324 = .ok (.iadd, 1) := by decide +kernel
theorem dL_law_325 : decode cL_law 325 = .ok (.iaload, 1) := by decide +kernel
theorem dL_law_326 : decode cL_law 326 = .ok (.invokevirtual 31, 3) := by decide +kernel
theorem dL_law_329 : decode cL_law 329 = .ok (.if_icmp .eq 654, 3) := by decide +kernel
theorem dL_law_332 : decode cL_law 332 = .ok (.iconst 0, 1) := by decide +kernel
theorem dL_law_333 : decode cL_law 333 = .ok (.ireturn, 1) := by decide +kernel
theorem dL_law_334 : decode cL_law 334 = .ok (.aload_n 1, 1) := by decide +kernel
theorem dL_law_335 : decode cL_law 335 = .ok (.aload_n 0, 1) := by decide +kernel
theorem dL_law_336 : decode cL_law 336 = .ok (.iload_n 3, 1) := by decide +kernel
theorem dL_law_337 : decode cL_law 337 = .ok (.iconst 1, 1) := by decide +kernel
theorem dL_law_338 : decode cL_law 338 = .ok (.iadd, 1) := by decide +kernel
theorem dL_law_339 : decode cL_law 339 = .ok (.iaload, 1) := by decide +kernel
theorem dL_law_340 : decode cL_law 340 = .ok (.invokevirtual 32, 3) := by decide +kernel
theorem dL_law_343 : decode cL_law 343 = .ok (.aload_n 2, 1) := by decide +kernel
theorem dL_law_344 : decode cL_law 344 = .ok (.aload_n 0, 1) := by decide +kernel
theorem dL_law_345 : decode cL_law 345 = .ok (.iload_n 3, 1) := by decide +kernel
theorem dL_law_346 : decode cL_law 346 = .ok (.iconst 1, 1) := by decide +kernel
theorem dL_law_347 : decode cL_law 347 = .ok (.iadd, 1) := by decide +kernel
theorem dL_law_348 : decode cL_law 348 = .ok (.iaload, 1) := by decide +kernel
theorem dL_law_349 : decode cL_law 349 = .ok (.invokevirtual 36, 3) := by decide +kernel
theorem dL_law_352 : decode cL_law 352 = .ok (.if_icmp .eq 631, 3) := by decide +kernel
theorem dL_law_355 : decode cL_law 355 = .ok (.iconst 0, 1) := by decide +kernel
theorem dL_law_356 : decode cL_law 356 = .ok (.ireturn, 1) := by decide +kernel
theorem dL_law_357 : decode cL_law 357 = .ok (.aload_n 1, 1) := by decide +kernel
theorem dL_law_358 : decode cL_law 358 = .ok (.invokevirtual 37, 3) := by decide +kernel
theorem dL_law_361 : decode cL_law 361 = .ok (.aload_n 2, 1) := by decide +kernel
theorem dL_law_362 : decode cL_law 362 = .ok (.invokevirtual 41, 3) := by decide +kernel
theorem dL_law_365 : decode cL_law 365 = .ok (.if_icmp .eq 618, 3) := by decide +kernel
theorem dL_law_368 : decode cL_law 368 = .ok (.iconst 0, 1) := by decide +kernel
theorem dL_law_369 : decode cL_law 369 = .ok (.ireturn, 1) := by decide +kernel
theorem dL_law_370 : decode cL_law 370 = .ok (.aload_n 1, 1) := by decide +kernel
theorem dL_law_371 : decode cL_law 371 = .ok (.invokevirtual 42, 3) := by decide +kernel
theorem dL_law_374 : decode cL_law 374 = .ok (.aload_n 2, 1) := by decide +kernel
theorem dL_law_375 : decode cL_law 375 = .ok (.invokevirtual 46, 3) := by decide +kernel
theorem dL_law_378 : decode cL_law 378 = .ok (.lcmp, 1) := by decide +kernel
theorem dL_law_379 : decode cL_law 379 = .ok (.ifCond .eq 604, 3) := by decide +kernel
theorem dL_law_382 : decode cL_law 382 = .ok (.iconst 0, 1) := by decide +kernel
theorem dL_law_383 : decode cL_law 383 = .ok (.ireturn, 1) := by decide +kernel
theorem dL_law_384 : decode cL_law 384 = .ok (.aload_n 1, 1) := by decide +kernel
theorem dL_law_385 : decode cL_law 385 = .ok (.aload_n 0, 1) := by decide +kernel
theorem dL_law_386 : decode cL_law 386 = .ok (.iload_n 3, 1) := by decide +kernel
theorem dL_law_387 : decode cL_law 387 = .ok (.iconst 1, 1) := by decide +kernel
theorem dL_law_388 : decode cL_law 388 = .ok (.iadd, 1) := by decide +kernel
theorem dL_law_389 : decode cL_law 389 = .ok (.iaload, 1) := by decide +kernel
theorem dL_law_390 : decode cL_law 390 = .ok (.aload_n 0, 1) := by decide +kernel
theorem dL_law_391 : decode cL_law 391 = .ok (.iload_n 3, 1) := by decide +kernel
theorem dL_law_392 : decode cL_law 392 = .ok (.iconst 2, 1) := by decide +kernel
theorem dL_law_393 : decode cL_law 393 = .ok (.iadd, 1) := by decide +kernel
theorem dL_law_394 : decode cL_law 394 = .ok (.iaload, 1) := by decide +kernel
theorem dL_law_395 : decode cL_law 395 = .ok (.invokevirtual 47, 3) := by decide +kernel
theorem dL_law_398 : decode cL_law 398 = .ok (.aload_n 2, 1) := by decide +kernel
theorem dL_law_399 : decode cL_law 399 = .ok (.aload_n 0, 1) := by decide +kernel
theorem dL_law_400 : decode cL_law 400 = .ok (.iload_n 3, 1) := by decide +kernel
theorem dL_law_401 : decode cL_law 401 = .ok (.iconst 1, 1) := by decide +kernel
theorem dL_law_402 : decode cL_law 402 = .ok (.iadd, 1) := by decide +kernel
theorem dL_law_403 : decode cL_law 403 = .ok (.iaload, 1) := by decide +kernel
theorem dL_law_404 : decode cL_law 404 = .ok (.aload_n 0, 1) := by decide +kernel
theorem dL_law_405 : decode cL_law 405 = .ok (.iload_n 3, 1) := by decide +kernel
theorem dL_law_406 : decode cL_law 406 = .ok (.iconst 2, 1) := by decide +kernel
theorem dL_law_407 : decode cL_law 407 = .ok (.iadd, 1) := by decide +kernel
theorem dL_law_408 : decode cL_law 408 = .ok (.iaload, 1) := by decide +kernel
theorem dL_law_409 : decode cL_law 409 = .ok (.invokevirtual 51, 3) := by decide +kernel
theorem dL_law_412 : decode cL_law 412 = .ok (.lcmp, 1) := by decide +kernel
theorem dL_law_413 : decode cL_law 413 = .ok (.ifCond .eq 570, 3) := by decide +kernel
theorem dL_law_416 : decode cL_law 416 = .ok (.iconst 0, 1) := by decide +kernel
theorem dL_law_417 : decode cL_law 417 = .ok (.ireturn, 1) := by decide +kernel
theorem dL_law_418 : decode cL_law 418 = .ok (.aload_n 1, 1) := by decide +kernel
theorem dL_law_419 : decode cL_law 419 = .ok (.aload_n 0, 1) := by decide +kernel
theorem dL_law_420 : decode cL_law 420 = .ok (.iload_n 3, 1) := by decide +kernel
theorem dL_law_421 : decode cL_law 421 = .ok (.iconst 1, 1) := by decide +kernel
theorem dL_law_422 : decode cL_law 422 = .ok (.iadd, 1) := by decide +kernel
theorem dL_law_423 : decode cL_law 423 = .ok (.iaload, 1) := by decide +kernel
theorem dL_law_424 : decode cL_law 424 = .ok (.aload_n 0, 1) := by decide +kernel
theorem dL_law_425 : decode cL_law 425 = .ok (.iload_n 3, 1) := by decide +kernel
theorem dL_law_426 : decode cL_law 426 = .ok (.iconst 2, 1) := by decide +kernel
theorem dL_law_427 : decode cL_law 427 = .ok (.iadd, 1) := by decide +kernel
theorem dL_law_428 : decode cL_law 428 = .ok (.iaload, 1) := by decide +kernel
theorem dL_law_429 : decode cL_law 429 = .ok (.aload_n 0, 1) := by decide +kernel
theorem dL_law_430 : decode cL_law 430 = .ok (.iload_n 3, 1) := by decide +kernel
theorem dL_law_431 : decode cL_law 431 = .ok (.iconst 3, 1) := by decide +kernel
theorem dL_law_432 : decode cL_law 432 = .ok (.iadd, 1) := by decide +kernel
theorem dL_law_433 : decode cL_law 433 = .ok (.iaload, 1) := by decide +kernel
theorem dL_law_434 : decode cL_law 434 = .ok (.invokevirtual 52, 3) := by decide +kernel
theorem dL_law_437 : decode cL_law 437 = .ok (.aload_n 2, 1) := by decide +kernel
theorem dL_law_438 : decode cL_law 438 = .ok (.aload_n 0, 1) := by decide +kernel
theorem dL_law_439 : decode cL_law 439 = .ok (.iload_n 3, 1) := by decide +kernel
theorem dL_law_440 : decode cL_law 440 = .ok (.iconst 1, 1) := by decide +kernel
theorem dL_law_441 : decode cL_law 441 = .ok (.iadd, 1) := by decide +kernel
theorem dL_law_442 : decode cL_law 442 = .ok (.iaload, 1) := by decide +kernel
theorem dL_law_443 : decode cL_law 443 = .ok (.aload_n 0, 1) := by decide +kernel
theorem dL_law_444 : decode cL_law 444 = .ok (.iload_n 3, 1) := by decide +kernel
theorem dL_law_445 : decode cL_law 445 = .ok (.iconst 2, 1) := by decide +kernel
theorem dL_law_446 : decode cL_law 446 = .ok (.iadd, 1) := by decide +kernel
theorem dL_law_447 : decode cL_law 447 = .ok (.iaload, 1) := by decide +kernel
theorem dL_law_448 : decode cL_law 448 = .ok (.aload_n 0, 1) := by decide +kernel
theorem dL_law_449 : decode cL_law 449 = .ok (.iload_n 3, 1) := by decide +kernel
theorem dL_law_450 : decode cL_law 450 = .ok (.iconst 3, 1) := by decide +kernel
theorem dL_law_451 : decode cL_law 451 = .ok (.iadd, 1) := by decide +kernel
theorem dL_law_452 : decode cL_law 452 = .ok (.iaload, 1) := by decide +kernel
theorem dL_law_453 : decode cL_law 453 = .ok (.invokevirtual 56, 3) := by decide +kernel
theorem dL_law_456 : decode cL_law 456 = .ok (.lcmp, 1) := by decide +kernel
theorem dL_law_457 : decode cL_law 457 = .ok (.ifCond .eq 526, 3) := by decide +kernel
theorem dL_law_460 : decode cL_law 460 = .ok (.iconst 0, 1) := by decide +kernel
theorem dL_law_461 : decode cL_law 461 = .ok (.ireturn, 1) := by decide +kernel
theorem dL_law_462 : decode cL_law 462 = .ok (.aload_n 1, 1) := by decide +kernel
theorem dL_law_463 : decode cL_law 463 = .ok (.aload_n 0, 1) := by decide +kernel
theorem dL_law_464 : decode cL_law 464 = .ok (.iload_n 3, 1) := by decide +kernel
theorem dL_law_465 : decode cL_law 465 = .ok (.iconst 1, 1) := by decide +kernel
theorem dL_law_466 : decode cL_law 466 = .ok (.iadd, 1) := by decide +kernel
theorem dL_law_467 : decode cL_law 467 = .ok (.iaload, 1) := by decide +kernel
theorem dL_law_468 : decode cL_law 468 = .ok (.aload_n 0, 1) := by decide +kernel
theorem dL_law_469 : decode cL_law 469 = .ok (.iload_n 3, 1) := by decide +kernel
theorem dL_law_470 : decode cL_law 470 = .ok (.iconst 2, 1) := by decide +kernel
theorem dL_law_471 : decode cL_law 471 = .ok (.iadd, 1) := by decide +kernel
theorem dL_law_472 : decode cL_law 472 = .ok (.iaload, 1) := by decide +kernel
theorem dL_law_473 : decode cL_law 473 = .ok (.invokevirtual 57, 3) := by decide +kernel
theorem dL_law_476 : decode cL_law 476 = .ok (.aload_n 2, 1) := by decide +kernel
theorem dL_law_477 : decode cL_law 477 = .ok (.aload_n 0, 1) := by decide +kernel
theorem dL_law_478 : decode cL_law 478 = .ok (.iload_n 3, 1) := by decide +kernel
theorem dL_law_479 : decode cL_law 479 = .ok (.iconst 1, 1) := by decide +kernel
theorem dL_law_480 : decode cL_law 480 = .ok (.iadd, 1) := by decide +kernel
theorem dL_law_481 : decode cL_law 481 = .ok (.iaload, 1) := by decide +kernel
theorem dL_law_482 : decode cL_law 482 = .ok (.aload_n 0, 1) := by decide +kernel
theorem dL_law_483 : decode cL_law 483 = .ok (.iload_n 3, 1) := by decide +kernel
theorem dL_law_484 : decode cL_law 484 = .ok (.iconst 2, 1) := by decide +kernel
theorem dL_law_485 : decode cL_law 485 = .ok (.iadd, 1) := by decide +kernel
theorem dL_law_486 : decode cL_law 486 = .ok (.iaload, 1) := by decide +kernel
theorem dL_law_487 : decode cL_law 487 = .ok (.invokevirtual 60, 3) := by decide +kernel
theorem dL_law_490 : decode cL_law 490 = .ok (.lcmp, 1) := by decide +kernel
theorem dL_law_491 : decode cL_law 491 = .ok (.ifCond .eq 492, 3) := by decide +kernel
theorem dL_law_494 : decode cL_law 494 = .ok (.iconst 0, 1) := by decide +kernel
theorem dL_law_495 : decode cL_law 495 = .ok (.ireturn, 1) := by decide +kernel
theorem dL_law_496 : decode cL_law 496 = .ok (.aload_n 1, 1) := by decide +kernel
theorem dL_law_497 : decode cL_law 497 = .ok (.aload_n 0, 1) := by decide +kernel
theorem dL_law_498 : decode cL_law 498 = .ok (.iload_n 3, 1) := by decide +kernel
theorem dL_law_499 : decode cL_law 499 = .ok (.iconst 1, 1) := by decide +kernel
theorem dL_law_500 : decode cL_law 500 = .ok (.iadd, 1) := by decide +kernel
theorem dL_law_501 : decode cL_law 501 = .ok (.iaload, 1) := by decide +kernel
theorem dL_law_502 : decode cL_law 502 = .ok (.i2l, 1) := by decide +kernel
theorem dL_law_503 : decode cL_law 503 = .ok (.bipush 32, 2) := by decide +kernel
theorem dL_law_505 : decode cL_law 505 = .ok (.lshl, 1) := by decide +kernel
theorem dL_law_506 : decode cL_law 506 = .ok (.aload_n 0, 1) := by decide +kernel
theorem dL_law_507 : decode cL_law 507 = .ok (.iload_n 3, 1) := by decide +kernel
theorem dL_law_508 : decode cL_law 508 = .ok (.iconst 2, 1) := by decide +kernel
theorem dL_law_509 : decode cL_law 509 = .ok (.iadd, 1) := by decide +kernel
theorem dL_law_510 : decode cL_law 510 = .ok (.iaload, 1) := by decide +kernel
theorem dL_law_511 : decode cL_law 511 = .ok (.i2l, 1) := by decide +kernel
theorem dL_law_512 : decode cL_law 512 = .ok (.ldc2_w 61, 3) := by decide +kernel
theorem dL_law_515 : decode cL_law 515 = .ok (.land, 1) := by decide +kernel
theorem dL_law_516 : decode cL_law 516 = .ok (.lor, 1) := by decide +kernel
theorem dL_law_517 : decode cL_law 517 = .ok (.invokevirtual 63, 3) := by decide +kernel
theorem dL_law_520 : decode cL_law 520 = .ok (.aload_n 2, 1) := by decide +kernel
theorem dL_law_521 : decode cL_law 521 = .ok (.aload_n 0, 1) := by decide +kernel
theorem dL_law_522 : decode cL_law 522 = .ok (.iload_n 3, 1) := by decide +kernel
theorem dL_law_523 : decode cL_law 523 = .ok (.iconst 1, 1) := by decide +kernel
theorem dL_law_524 : decode cL_law 524 = .ok (.iadd, 1) := by decide +kernel
theorem dL_law_525 : decode cL_law 525 = .ok (.iaload, 1) := by decide +kernel
theorem dL_law_526 : decode cL_law 526 = .ok (.i2l, 1) := by decide +kernel
theorem dL_law_527 : decode cL_law 527 = .ok (.bipush 32, 2) := by decide +kernel
theorem dL_law_529 : decode cL_law 529 = .ok (.lshl, 1) := by decide +kernel
theorem dL_law_530 : decode cL_law 530 = .ok (.aload_n 0, 1) := by decide +kernel
theorem dL_law_531 : decode cL_law 531 = .ok (.iload_n 3, 1) := by decide +kernel
theorem dL_law_532 : decode cL_law 532 = .ok (.iconst 2, 1) := by decide +kernel
theorem dL_law_533 : decode cL_law 533 = .ok (.iadd, 1) := by decide +kernel
theorem dL_law_534 : decode cL_law 534 = .ok (.iaload, 1) := by decide +kernel
theorem dL_law_535 : decode cL_law 535 = .ok (.i2l, 1) := by decide +kernel
theorem dL_law_536 : decode cL_law 536 = .ok (.ldc2_w 61, 3) := by decide +kernel
theorem dL_law_539 : decode cL_law 539 = .ok (.land, 1) := by decide +kernel
theorem dL_law_540 : decode cL_law 540 = .ok (.lor, 1) := by decide +kernel
theorem dL_law_541 : decode cL_law 541 = .ok (.invokevirtual 67, 3) := by decide +kernel
theorem dL_law_544 : decode cL_law 544 = .ok (.if_icmp .eq 439, 3) := by decide +kernel
theorem dL_law_547 : decode cL_law 547 = .ok (.iconst 0, 1) := by decide +kernel
theorem dL_law_548 : decode cL_law 548 = .ok (.ireturn, 1) := by decide +kernel
theorem dL_law_549 : decode cL_law 549 = .ok (.aload_n 1, 1) := by decide +kernel
theorem dL_law_550 : decode cL_law 550 = .ok (.aload_n 0, 1) := by decide +kernel
theorem dL_law_551 : decode cL_law 551 = .ok (.iload_n 3, 1) := by decide +kernel
theorem dL_law_552 : decode cL_law 552 = .ok (.iconst 1, 1) := by decide +kernel
theorem dL_law_553 : decode cL_law 553 = .ok (.iadd, 1) := by decide +kernel
theorem dL_law_554 : decode cL_law 554 = .ok (.iaload, 1) := by decide +kernel
theorem dL_law_555 : decode cL_law 555 = .ok (.invokevirtual 68, 3) := by decide +kernel
theorem dL_law_558 : decode cL_law 558 = .ok (.aload_n 2, 1) := by decide +kernel
theorem dL_law_559 : decode cL_law 559 = .ok (.aload_n 0, 1) := by decide +kernel
theorem dL_law_560 : decode cL_law 560 = .ok (.iload_n 3, 1) := by decide +kernel
theorem dL_law_561 : decode cL_law 561 = .ok (.iconst 1, 1) := by decide +kernel
theorem dL_law_562 : decode cL_law 562 = .ok (.iadd, 1) := by decide +kernel
theorem dL_law_563 : decode cL_law 563 = .ok (.iaload, 1) := by decide +kernel
theorem dL_law_564 : decode cL_law 564 = .ok (.invokevirtual 72, 3) := by decide +kernel
theorem dL_law_567 : decode cL_law 567 = .ok (.lcmp, 1) := by decide +kernel
theorem dL_law_568 : decode cL_law 568 = .ok (.ifCond .eq 415, 3) := by decide +kernel
theorem dL_law_571 : decode cL_law 571 = .ok (.iconst 0, 1) := by decide +kernel
theorem dL_law_572 : decode cL_law 572 = .ok (.ireturn, 1) := by decide +kernel
theorem dL_law_573 : decode cL_law 573 = .ok (.aload_n 1, 1) := by decide +kernel
theorem dL_law_574 : decode cL_law 574 = .ok (.aload_n 0, 1) := by decide +kernel
theorem dL_law_575 : decode cL_law 575 = .ok (.iload_n 3, 1) := by decide +kernel
theorem dL_law_576 : decode cL_law 576 = .ok (.iconst 1, 1) := by decide +kernel
theorem dL_law_577 : decode cL_law 577 = .ok (.iadd, 1) := by decide +kernel
theorem dL_law_578 : decode cL_law 578 = .ok (.iaload, 1) := by decide +kernel
theorem dL_law_579 : decode cL_law 579 = .ok (.invokevirtual 73, 3) := by decide +kernel
theorem dL_law_582 : decode cL_law 582 = .ok (.aload_n 2, 1) := by decide +kernel
theorem dL_law_583 : decode cL_law 583 = .ok (.aload_n 0, 1) := by decide +kernel
theorem dL_law_584 : decode cL_law 584 = .ok (.iload_n 3, 1) := by decide +kernel
theorem dL_law_585 : decode cL_law 585 = .ok (.iconst 1, 1) := by decide +kernel
theorem dL_law_586 : decode cL_law 586 = .ok (.iadd, 1) := by decide +kernel
theorem dL_law_587 : decode cL_law 587 = .ok (.iaload, 1) := by decide +kernel
theorem dL_law_588 : decode cL_law 588 = .ok (.invokevirtual 76, 3) := by decide +kernel
theorem dL_law_591 : decode cL_law 591 = .ok (.if_icmp .eq 392, 3) := by decide +kernel
theorem dL_law_594 : decode cL_law 594 = .ok (.iconst 0, 1) := by decide +kernel
theorem dL_law_595 : decode cL_law 595 = .ok (.ireturn, 1) := by decide +kernel
theorem dL_law_596 : decode cL_law 596 = .ok (.aload_n 1, 1) := by decide +kernel
theorem dL_law_597 : decode cL_law 597 = .ok (.aload_n 0, 1) := by decide +kernel
theorem dL_law_598 : decode cL_law 598 = .ok (.iload_n 3, 1) := by decide +kernel
theorem dL_law_599 : decode cL_law 599 = .ok (.iconst 1, 1) := by decide +kernel
theorem dL_law_600 : decode cL_law 600 = .ok (.iadd, 1) := by decide +kernel
theorem dL_law_601 : decode cL_law 601 = .ok (.iaload, 1) := by decide +kernel
theorem dL_law_602 : decode cL_law 602 = .ok (.invokevirtual 77, 3) := by decide +kernel
theorem dL_law_605 : decode cL_law 605 = .ok (.aload_n 2, 1) := by decide +kernel
theorem dL_law_606 : decode cL_law 606 = .ok (.aload_n 0, 1) := by decide +kernel
theorem dL_law_607 : decode cL_law 607 = .ok (.iload_n 3, 1) := by decide +kernel
theorem dL_law_608 : decode cL_law 608 = .ok (.iconst 1, 1) := by decide +kernel
theorem dL_law_609 : decode cL_law 609 = .ok (.iadd, 1) := by decide +kernel
theorem dL_law_610 : decode cL_law 610 = .ok (.iaload, 1) := by decide +kernel
theorem dL_law_611 : decode cL_law 611 = .ok (.invokevirtual 80, 3) := by decide +kernel
theorem dL_law_614 : decode cL_law 614 = .ok (.if_icmp .eq 369, 3) := by decide +kernel
theorem dL_law_617 : decode cL_law 617 = .ok (.iconst 0, 1) := by decide +kernel
theorem dL_law_618 : decode cL_law 618 = .ok (.ireturn, 1) := by decide +kernel
theorem dL_law_619 : decode cL_law 619 = .ok (.aload_n 1, 1) := by decide +kernel
theorem dL_law_620 : decode cL_law 620 = .ok (.invokevirtual 81, 3) := by decide +kernel
theorem dL_law_623 : decode cL_law 623 = .ok (.aload_n 2, 1) := by decide +kernel
theorem dL_law_624 : decode cL_law 624 = .ok (.invokevirtual 84, 3) := by decide +kernel
theorem dL_law_627 : decode cL_law 627 = .ok (.lcmp, 1) := by decide +kernel
theorem dL_law_628 : decode cL_law 628 = .ok (.ifCond .eq 355, 3) := by decide +kernel
theorem dL_law_631 : decode cL_law 631 = .ok (.iconst 0, 1) := by decide +kernel
theorem dL_law_632 : decode cL_law 632 = .ok (.ireturn, 1) := by decide +kernel
theorem dL_law_633 : decode cL_law 633 = .ok (.aload_n 1, 1) := by decide +kernel
theorem dL_law_634 : decode cL_law 634 = .ok (.aload_n 0, 1) := by decide +kernel
theorem dL_law_635 : decode cL_law 635 = .ok (.iload_n 3, 1) := by decide +kernel
theorem dL_law_636 : decode cL_law 636 = .ok (.iconst 1, 1) := by decide +kernel
theorem dL_law_637 : decode cL_law 637 = .ok (.iadd, 1) := by decide +kernel
theorem dL_law_638 : decode cL_law 638 = .ok (.iaload, 1) := by decide +kernel
theorem dL_law_639 : decode cL_law 639 = .ok (.aload_n 0, 1) := by decide +kernel
theorem dL_law_640 : decode cL_law 640 = .ok (.iload_n 3, 1) := by decide +kernel
theorem dL_law_641 : decode cL_law 641 = .ok (.iconst 2, 1) := by decide +kernel
theorem dL_law_642 : decode cL_law 642 = .ok (.iadd, 1) := by decide +kernel
theorem dL_law_643 : decode cL_law 643 = .ok (.iaload, 1) := by decide +kernel
theorem dL_law_644 : decode cL_law 644 = .ok (.invokevirtual 85, 3) := by decide +kernel
theorem dL_law_647 : decode cL_law 647 = .ok (.aload_n 2, 1) := by decide +kernel
theorem dL_law_648 : decode cL_law 648 = .ok (.aload_n 0, 1) := by decide +kernel
theorem dL_law_649 : decode cL_law 649 = .ok (.iload_n 3, 1) := by decide +kernel
theorem dL_law_650 : decode cL_law 650 = .ok (.iconst 1, 1) := by decide +kernel
theorem dL_law_651 : decode cL_law 651 = .ok (.iadd, 1) := by decide +kernel
theorem dL_law_652 : decode cL_law 652 = .ok (.iaload, 1) := by decide +kernel
theorem dL_law_653 : decode cL_law 653 = .ok (.aload_n 0, 1) := by decide +kernel
theorem dL_law_654 : decode cL_law 654 = .ok (.iload_n 3, 1) := by decide +kernel
theorem dL_law_655 : decode cL_law 655 = .ok (.iconst 2, 1) := by decide +kernel
theorem dL_law_656 : decode cL_law 656 = .ok (.iadd, 1) := by decide +kernel
theorem dL_law_657 : decode cL_law 657 = .ok (.iaload, 1) := by decide +kernel
theorem dL_law_658 : decode cL_law 658 = .ok (.invokevirtual 88, 3) := by decide +kernel
theorem dL_law_661 : decode cL_law 661 = .ok (.lcmp, 1) := by decide +kernel
theorem dL_law_662 : decode cL_law 662 = .ok (.ifCond .eq 321, 3) := by decide +kernel
theorem dL_law_665 : decode cL_law 665 = .ok (.iconst 0, 1) := by decide +kernel
theorem dL_law_666 : decode cL_law 666 = .ok (.ireturn, 1) := by decide +kernel
theorem dL_law_667 : decode cL_law 667 = .ok (.aload_n 1, 1) := by decide +kernel
theorem dL_law_668 : decode cL_law 668 = .ok (.aload_n 0, 1) := by decide +kernel
theorem dL_law_669 : decode cL_law 669 = .ok (.iload_n 3, 1) := by decide +kernel
theorem dL_law_670 : decode cL_law 670 = .ok (.iconst 1, 1) := by decide +kernel
theorem dL_law_671 : decode cL_law 671 = .ok (.iadd, 1) := by decide +kernel
theorem dL_law_672 : decode cL_law 672 = .ok (.iaload, 1) := by decide +kernel
theorem dL_law_673 : decode cL_law 673 = .ok (.aload_n 0, 1) := by decide +kernel
theorem dL_law_674 : decode cL_law 674 = .ok (.iload_n 3, 1) := by decide +kernel
theorem dL_law_675 : decode cL_law 675 = .ok (.iconst 2, 1) := by decide +kernel
theorem dL_law_676 : decode cL_law 676 = .ok (.iadd, 1) := by decide +kernel
theorem dL_law_677 : decode cL_law 677 = .ok (.iaload, 1) := by decide +kernel
theorem dL_law_678 : decode cL_law 678 = .ok (.invokevirtual 89, 3) := by decide +kernel
theorem dL_law_681 : decode cL_law 681 = .ok (.aload_n 2, 1) := by decide +kernel
theorem dL_law_682 : decode cL_law 682 = .ok (.aload_n 0, 1) := by decide +kernel
theorem dL_law_683 : decode cL_law 683 = .ok (.iload_n 3, 1) := by decide +kernel
theorem dL_law_684 : decode cL_law 684 = .ok (.iconst 1, 1) := by decide +kernel
theorem dL_law_685 : decode cL_law 685 = .ok (.iadd, 1) := by decide +kernel
theorem dL_law_686 : decode cL_law 686 = .ok (.iaload, 1) := by decide +kernel
theorem dL_law_687 : decode cL_law 687 = .ok (.aload_n 0, 1) := by decide +kernel
theorem dL_law_688 : decode cL_law 688 = .ok (.iload_n 3, 1) := by decide +kernel
theorem dL_law_689 : decode cL_law 689 = .ok (.iconst 2, 1) := by decide +kernel
theorem dL_law_690 : decode cL_law 690 = .ok (.iadd, 1) := by decide +kernel
theorem dL_law_691 : decode cL_law 691 = .ok (.iaload, 1) := by decide +kernel
theorem dL_law_692 : decode cL_law 692 = .ok (.invokevirtual 92, 3) := by decide +kernel
theorem dL_law_695 : decode cL_law 695 = .ok (.if_icmp .eq 288, 3) := by decide +kernel
theorem dL_law_698 : decode cL_law 698 = .ok (.iconst 0, 1) := by decide +kernel
theorem dL_law_699 : decode cL_law 699 = .ok (.ireturn, 1) := by decide +kernel
theorem dL_law_700 : decode cL_law 700 = .ok (.aload_n 1, 1) := by decide +kernel
theorem dL_law_701 : decode cL_law 701 = .ok (.aload_n 0, 1) := by decide +kernel
theorem dL_law_702 : decode cL_law 702 = .ok (.iload_n 3, 1) := by decide +kernel
theorem dL_law_703 : decode cL_law 703 = .ok (.iconst 1, 1) := by decide +kernel
theorem dL_law_704 : decode cL_law 704 = .ok (.iadd, 1) := by decide +kernel
theorem dL_law_705 : decode cL_law 705 = .ok (.iaload, 1) := by decide +kernel
theorem dL_law_706 : decode cL_law 706 = .ok (.invokevirtual 93, 3) := by decide +kernel
theorem dL_law_709 : decode cL_law 709 = .ok (.aload_n 2, 1) := by decide +kernel
theorem dL_law_710 : decode cL_law 710 = .ok (.aload_n 0, 1) := by decide +kernel
theorem dL_law_711 : decode cL_law 711 = .ok (.iload_n 3, 1) := by decide +kernel
theorem dL_law_712 : decode cL_law 712 = .ok (.iconst 1, 1) := by decide +kernel
theorem dL_law_713 : decode cL_law 713 = .ok (.iadd, 1) := by decide +kernel
theorem dL_law_714 : decode cL_law 714 = .ok (.iaload, 1) := by decide +kernel
theorem dL_law_715 : decode cL_law 715 = .ok (.invokevirtual 96, 3) := by decide +kernel
theorem dL_law_718 : decode cL_law 718 = .ok (.if_icmp .eq 265, 3) := by decide +kernel
theorem dL_law_721 : decode cL_law 721 = .ok (.iconst 0, 1) := by decide +kernel
theorem dL_law_722 : decode cL_law 722 = .ok (.ireturn, 1) := by decide +kernel
theorem dL_law_723 : decode cL_law 723 = .ok (.aload_n 1, 1) := by decide +kernel
theorem dL_law_724 : decode cL_law 724 = .ok (.invokevirtual 97, 3) := by decide +kernel
theorem dL_law_727 : decode cL_law 727 = .ok (.aload_n 2, 1) := by decide +kernel
theorem dL_law_728 : decode cL_law 728 = .ok (.invokevirtual 100, 3) := by decide +kernel
theorem dL_law_731 : decode cL_law 731 = .ok (.if_icmp .eq 252, 3) := by decide +kernel
theorem dL_law_734 : decode cL_law 734 = .ok (.iconst 0, 1) := by decide +kernel
theorem dL_law_735 : decode cL_law 735 = .ok (.ireturn, 1) := by decide +kernel
theorem dL_law_736 : decode cL_law 736 = .ok (.aload_n 1, 1) := by decide +kernel
theorem dL_law_737 : decode cL_law 737 = .ok (.aload_n 0, 1) := by decide +kernel
theorem dL_law_738 : decode cL_law 738 = .ok (.iload_n 3, 1) := by decide +kernel
theorem dL_law_739 : decode cL_law 739 = .ok (.iconst 1, 1) := by decide +kernel
theorem dL_law_740 : decode cL_law 740 = .ok (.iadd, 1) := by decide +kernel
theorem dL_law_741 : decode cL_law 741 = .ok (.iaload, 1) := by decide +kernel
theorem dL_law_742 : decode cL_law 742 = .ok (.invokevirtual 101, 3) := by decide +kernel
theorem dL_law_745 : decode cL_law 745 = .ok (.aload_n 2, 1) := by decide +kernel
theorem dL_law_746 : decode cL_law 746 = .ok (.aload_n 0, 1) := by decide +kernel
theorem dL_law_747 : decode cL_law 747 = .ok (.iload_n 3, 1) := by decide +kernel
theorem dL_law_748 : decode cL_law 748 = .ok (.iconst 1, 1) := by decide +kernel
theorem dL_law_749 : decode cL_law 749 = .ok (.iadd, 1) := by decide +kernel
theorem dL_law_750 : decode cL_law 750 = .ok (.iaload, 1) := by decide +kernel
theorem dL_law_751 : decode cL_law 751 = .ok (.invokevirtual 104, 3) := by decide +kernel
theorem dL_law_754 : decode cL_law 754 = .ok (.if_icmp .eq 229, 3) := by decide +kernel
theorem dL_law_757 : decode cL_law 757 = .ok (.iconst 0, 1) := by decide +kernel
theorem dL_law_758 : decode cL_law 758 = .ok (.ireturn, 1) := by decide +kernel
theorem dL_law_759 : decode cL_law 759 = .ok (.aload_n 1, 1) := by decide +kernel
theorem dL_law_760 : decode cL_law 760 = .ok (.aload_n 0, 1) := by decide +kernel
theorem dL_law_761 : decode cL_law 761 = .ok (.iload_n 3, 1) := by decide +kernel
theorem dL_law_762 : decode cL_law 762 = .ok (.iconst 1, 1) := by decide +kernel
theorem dL_law_763 : decode cL_law 763 = .ok (.iadd, 1) := by decide +kernel
theorem dL_law_764 : decode cL_law 764 = .ok (.iaload, 1) := by decide +kernel
theorem dL_law_765 : decode cL_law 765 = .ok (.aload_n 0, 1) := by decide +kernel
theorem dL_law_766 : decode cL_law 766 = .ok (.iload_n 3, 1) := by decide +kernel
theorem dL_law_767 : decode cL_law 767 = .ok (.iconst 2, 1) := by decide +kernel
theorem dL_law_768 : decode cL_law 768 = .ok (.iadd, 1) := by decide +kernel
theorem dL_law_769 : decode cL_law 769 = .ok (.iaload, 1) := by decide +kernel
theorem dL_law_770 : decode cL_law 770 = .ok (.invokevirtual 105, 3) := by decide +kernel
theorem dL_law_773 : decode cL_law 773 = .ok (.aload_n 2, 1) := by decide +kernel
theorem dL_law_774 : decode cL_law 774 = .ok (.aload_n 0, 1) := by decide +kernel
theorem dL_law_775 : decode cL_law 775 = .ok (.iload_n 3, 1) := by decide +kernel
theorem dL_law_776 : decode cL_law 776 = .ok (.iconst 1, 1) := by decide +kernel
theorem dL_law_777 : decode cL_law 777 = .ok (.iadd, 1) := by decide +kernel
theorem dL_law_778 : decode cL_law 778 = .ok (.iaload, 1) := by decide +kernel
theorem dL_law_779 : decode cL_law 779 = .ok (.aload_n 0, 1) := by decide +kernel
theorem dL_law_780 : decode cL_law 780 = .ok (.iload_n 3, 1) := by decide +kernel
theorem dL_law_781 : decode cL_law 781 = .ok (.iconst 2, 1) := by decide +kernel
theorem dL_law_782 : decode cL_law 782 = .ok (.iadd, 1) := by decide +kernel
theorem dL_law_783 : decode cL_law 783 = .ok (.iaload, 1) := by decide +kernel
theorem dL_law_784 : decode cL_law 784 = .ok (.invokevirtual 108, 3) := by decide +kernel
theorem dL_law_787 : decode cL_law 787 = .ok (.if_icmp .eq 196, 3) := by decide +kernel
theorem dL_law_790 : decode cL_law 790 = .ok (.iconst 0, 1) := by decide +kernel
theorem dL_law_791 : decode cL_law 791 = .ok (.ireturn, 1) := by decide +kernel
theorem dL_law_792 : decode cL_law 792 = .ok (.aload_n 1, 1) := by decide +kernel
theorem dL_law_793 : decode cL_law 793 = .ok (.aload_n 0, 1) := by decide +kernel
theorem dL_law_794 : decode cL_law 794 = .ok (.iload_n 3, 1) := by decide +kernel
theorem dL_law_795 : decode cL_law 795 = .ok (.iconst 1, 1) := by decide +kernel
theorem dL_law_796 : decode cL_law 796 = .ok (.iadd, 1) := by decide +kernel
theorem dL_law_797 : decode cL_law 797 = .ok (.iaload, 1) := by decide +kernel
theorem dL_law_798 : decode cL_law 798 = .ok (.aload_n 0, 1) := by decide +kernel
theorem dL_law_799 : decode cL_law 799 = .ok (.iload_n 3, 1) := by decide +kernel
theorem dL_law_800 : decode cL_law 800 = .ok (.iconst 2, 1) := by decide +kernel
theorem dL_law_801 : decode cL_law 801 = .ok (.iadd, 1) := by decide +kernel
theorem dL_law_802 : decode cL_law 802 = .ok (.iaload, 1) := by decide +kernel
theorem dL_law_803 : decode cL_law 803 = .ok (.invokevirtual 109, 3) := by decide +kernel
theorem dL_law_806 : decode cL_law 806 = .ok (.aload_n 2, 1) := by decide +kernel
theorem dL_law_807 : decode cL_law 807 = .ok (.aload_n 0, 1) := by decide +kernel
theorem dL_law_808 : decode cL_law 808 = .ok (.iload_n 3, 1) := by decide +kernel
theorem dL_law_809 : decode cL_law 809 = .ok (.iconst 1, 1) := by decide +kernel
theorem dL_law_810 : decode cL_law 810 = .ok (.iadd, 1) := by decide +kernel
theorem dL_law_811 : decode cL_law 811 = .ok (.iaload, 1) := by decide +kernel
theorem dL_law_812 : decode cL_law 812 = .ok (.aload_n 0, 1) := by decide +kernel
theorem dL_law_813 : decode cL_law 813 = .ok (.iload_n 3, 1) := by decide +kernel
theorem dL_law_814 : decode cL_law 814 = .ok (.iconst 2, 1) := by decide +kernel
theorem dL_law_815 : decode cL_law 815 = .ok (.iadd, 1) := by decide +kernel
theorem dL_law_816 : decode cL_law 816 = .ok (.iaload, 1) := by decide +kernel
theorem dL_law_817 : decode cL_law 817 = .ok (.invokevirtual 112, 3) := by decide +kernel
theorem dL_law_820 : decode cL_law 820 = .ok (.if_icmp .eq 163, 3) := by decide +kernel
theorem dL_law_823 : decode cL_law 823 = .ok (.iconst 0, 1) := by decide +kernel
theorem dL_law_824 : decode cL_law 824 = .ok (.ireturn, 1) := by decide +kernel
theorem dL_law_825 : decode cL_law 825 = .ok (.aload_n 1, 1) := by decide +kernel
theorem dL_law_826 : decode cL_law 826 = .ok (.invokevirtual 113, 3) := by decide +kernel
theorem dL_law_829 : decode cL_law 829 = .ok (.aload_n 2, 1) := by decide +kernel
theorem dL_law_830 : decode cL_law 830 = .ok (.invokevirtual 116, 3) := by decide +kernel
theorem dL_law_833 : decode cL_law 833 = .ok (.if_icmp .eq 150, 3) := by decide +kernel
theorem dL_law_836 : decode cL_law 836 = .ok (.iconst 0, 1) := by decide +kernel
theorem dL_law_837 : decode cL_law 837 = .ok (.ireturn, 1) := by decide +kernel
theorem dL_law_838 : decode cL_law 838 = .ok (.aload_n 1, 1) := by decide +kernel
theorem dL_law_839 : decode cL_law 839 = .ok (.aload_n 0, 1) := by decide +kernel
theorem dL_law_840 : decode cL_law 840 = .ok (.iload_n 3, 1) := by decide +kernel
theorem dL_law_841 : decode cL_law 841 = .ok (.iconst 1, 1) := by decide +kernel
theorem dL_law_842 : decode cL_law 842 = .ok (.iadd, 1) := by decide +kernel
theorem dL_law_843 : decode cL_law 843 = .ok (.iaload, 1) := by decide +kernel
theorem dL_law_844 : decode cL_law 844 = .ok (.invokevirtual 117, 3) := by decide +kernel
theorem dL_law_847 : decode cL_law 847 = .ok (.aload_n 2, 1) := by decide +kernel
theorem dL_law_848 : decode cL_law 848 = .ok (.aload_n 0, 1) := by decide +kernel
theorem dL_law_849 : decode cL_law 849 = .ok (.iload_n 3, 1) := by decide +kernel
theorem dL_law_850 : decode cL_law 850 = .ok (.iconst 1, 1) := by decide +kernel
theorem dL_law_851 : decode cL_law 851 = .ok (.iadd, 1) := by decide +kernel
theorem dL_law_852 : decode cL_law 852 = .ok (.iaload, 1) := by decide +kernel
theorem dL_law_853 : decode cL_law 853 = .ok (.invokevirtual 120, 3) := by decide +kernel
theorem dL_law_856 : decode cL_law 856 = .ok (.lcmp, 1) := by decide +kernel
theorem dL_law_857 : decode cL_law 857 = .ok (.ifCond .eq 126, 3) := by decide +kernel
theorem dL_law_860 : decode cL_law 860 = .ok (.iconst 0, 1) := by decide +kernel
theorem dL_law_861 : decode cL_law 861 = .ok (.ireturn, 1) := by decide +kernel
theorem dL_law_862 : decode cL_law 862 = .ok (.aload_n 1, 1) := by decide +kernel
theorem dL_law_863 : decode cL_law 863 = .ok (.aload_n 0, 1) := by decide +kernel
theorem dL_law_864 : decode cL_law 864 = .ok (.iload_n 3, 1) := by decide +kernel
theorem dL_law_865 : decode cL_law 865 = .ok (.iconst 1, 1) := by decide +kernel
theorem dL_law_866 : decode cL_law 866 = .ok (.iadd, 1) := by decide +kernel
theorem dL_law_867 : decode cL_law 867 = .ok (.iaload, 1) := by decide +kernel
theorem dL_law_868 : decode cL_law 868 = .ok (.invokevirtual 121, 3) := by decide +kernel
theorem dL_law_871 : decode cL_law 871 = .ok (.aload_n 2, 1) := by decide +kernel
theorem dL_law_872 : decode cL_law 872 = .ok (.aload_n 0, 1) := by decide +kernel
theorem dL_law_873 : decode cL_law 873 = .ok (.iload_n 3, 1) := by decide +kernel
theorem dL_law_874 : decode cL_law 874 = .ok (.iconst 1, 1) := by decide +kernel
theorem dL_law_875 : decode cL_law 875 = .ok (.iadd, 1) := by decide +kernel
theorem dL_law_876 : decode cL_law 876 = .ok (.iaload, 1) := by decide +kernel
theorem dL_law_877 : decode cL_law 877 = .ok (.invokevirtual 124, 3) := by decide +kernel
theorem dL_law_880 : decode cL_law 880 = .ok (.if_icmp .eq 103, 3) := by decide +kernel
theorem dL_law_883 : decode cL_law 883 = .ok (.iconst 0, 1) := by decide +kernel
theorem dL_law_884 : decode cL_law 884 = .ok (.ireturn, 1) := by decide +kernel
theorem dL_law_885 : decode cL_law 885 = .ok (.aload_n 1, 1) := by decide +kernel
theorem dL_law_886 : decode cL_law 886 = .ok (.aload_n 0, 1) := by decide +kernel
theorem dL_law_887 : decode cL_law 887 = .ok (.iload_n 3, 1) := by decide +kernel
theorem dL_law_888 : decode cL_law 888 = .ok (.iconst 1, 1) := by decide +kernel
theorem dL_law_889 : decode cL_law 889 = .ok (.iadd, 1) := by decide +kernel
theorem dL_law_890 : decode cL_law 890 = .ok (.iaload, 1) := by decide +kernel
theorem dL_law_891 : decode cL_law 891 = .ok (.invokevirtual 125, 3) := by decide +kernel
theorem dL_law_894 : decode cL_law 894 = .ok (.aload_n 2, 1) := by decide +kernel
theorem dL_law_895 : decode cL_law 895 = .ok (.aload_n 0, 1) := by decide +kernel
theorem dL_law_896 : decode cL_law 896 = .ok (.iload_n 3, 1) := by decide +kernel
theorem dL_law_897 : decode cL_law 897 = .ok (.iconst 1, 1) := by decide +kernel
theorem dL_law_898 : decode cL_law 898 = .ok (.iadd, 1) := by decide +kernel
theorem dL_law_899 : decode cL_law 899 = .ok (.iaload, 1) := by decide +kernel
theorem dL_law_900 : decode cL_law 900 = .ok (.invokevirtual 128, 3) := by decide +kernel
theorem dL_law_903 : decode cL_law 903 = .ok (.if_icmp .eq 80, 3) := by decide +kernel
theorem dL_law_906 : decode cL_law 906 = .ok (.iconst 0, 1) := by decide +kernel
theorem dL_law_907 : decode cL_law 907 = .ok (.ireturn, 1) := by decide +kernel
theorem dL_law_908 : decode cL_law 908 = .ok (.aload_n 1, 1) := by decide +kernel
theorem dL_law_909 : decode cL_law 909 = .ok (.invokevirtual 129, 3) := by decide +kernel
theorem dL_law_912 : decode cL_law 912 = .ok (.aload_n 2, 1) := by decide +kernel
theorem dL_law_913 : decode cL_law 913 = .ok (.invokevirtual 132, 3) := by decide +kernel
theorem dL_law_916 : decode cL_law 916 = .ok (.if_icmp .eq 67, 3) := by decide +kernel
theorem dL_law_919 : decode cL_law 919 = .ok (.iconst 0, 1) := by decide +kernel
theorem dL_law_920 : decode cL_law 920 = .ok (.ireturn, 1) := by decide +kernel
theorem dL_law_921 : decode cL_law 921 = .ok (.aload_n 1, 1) := by decide +kernel
theorem dL_law_922 : decode cL_law 922 = .ok (.invokevirtual 133, 3) := by decide +kernel
theorem dL_law_925 : decode cL_law 925 = .ok (.aload_n 2, 1) := by decide +kernel
theorem dL_law_926 : decode cL_law 926 = .ok (.invokevirtual 136, 3) := by decide +kernel
theorem dL_law_929 : decode cL_law 929 = .ok (.if_icmp .eq 54, 3) := by decide +kernel
theorem dL_law_932 : decode cL_law 932 = .ok (.iconst 0, 1) := by decide +kernel
theorem dL_law_933 : decode cL_law 933 = .ok (.ireturn, 1) := by decide +kernel
theorem dL_law_934 : decode cL_law 934 = .ok (.aload_n 1, 1) := by decide +kernel
theorem dL_law_935 : decode cL_law 935 = .ok (.invokevirtual 137, 3) := by decide +kernel
theorem dL_law_938 : decode cL_law 938 = .ok (.aload_n 2, 1) := by decide +kernel
theorem dL_law_939 : decode cL_law 939 = .ok (.invokevirtual 140, 3) := by decide +kernel
theorem dL_law_942 : decode cL_law 942 = .ok (.if_icmp .eq 41, 3) := by decide +kernel
theorem dL_law_945 : decode cL_law 945 = .ok (.iconst 0, 1) := by decide +kernel
theorem dL_law_946 : decode cL_law 946 = .ok (.ireturn, 1) := by decide +kernel
theorem dL_law_947 : decode cL_law 947 = .ok (.aload_n 1, 1) := by decide +kernel
theorem dL_law_948 : decode cL_law 948 = .ok (.invokevirtual 141, 3) := by decide +kernel
theorem dL_law_951 : decode cL_law 951 = .ok (.aload_n 2, 1) := by decide +kernel
theorem dL_law_952 : decode cL_law 952 = .ok (.invokevirtual 144, 3) := by decide +kernel
theorem dL_law_955 : decode cL_law 955 = .ok (.if_icmp .eq 28, 3) := by decide +kernel
theorem dL_law_958 : decode cL_law 958 = .ok (.iconst 0, 1) := by decide +kernel
theorem dL_law_959 : decode cL_law 959 = .ok (.ireturn, 1) := by decide +kernel
theorem dL_law_960 : decode cL_law 960 = .ok (.aload_n 1, 1) := by decide +kernel
theorem dL_law_961 : decode cL_law 961 = .ok (.aload_n 0, 1) := by decide +kernel
theorem dL_law_962 : decode cL_law 962 = .ok (.iload_n 3, 1) := by decide +kernel
theorem dL_law_963 : decode cL_law 963 = .ok (.iconst 1, 1) := by decide +kernel
theorem dL_law_964 : decode cL_law 964 = .ok (.iadd, 1) := by decide +kernel
theorem dL_law_965 : decode cL_law 965 = .ok (.iaload, 1) := by decide +kernel
theorem dL_law_966 : decode cL_law 966 = .ok (.invokevirtual 145, 3) := by decide +kernel
theorem dL_law_969 : decode cL_law 969 = .ok (.aload_n 2, 1) := by decide +kernel
theorem dL_law_970 : decode cL_law 970 = .ok (.aload_n 0, 1) := by decide +kernel
theorem dL_law_971 : decode cL_law 971 = .ok (.iload_n 3, 1) := by decide +kernel
theorem dL_law_972 : decode cL_law 972 = .ok (.iconst 1, 1) := by decide +kernel
theorem dL_law_973 : decode cL_law 973 = .ok (.iadd, 1) := by decide +kernel
theorem dL_law_974 : decode cL_law 974 = .ok (.iaload, 1) := by decide +kernel
theorem dL_law_975 : decode cL_law 975 = .ok (.invokevirtual 148, 3) := by decide +kernel
theorem dL_law_978 : decode cL_law 978 = .ok (.if_icmp .eq 5, 3) := by decide +kernel
theorem dL_law_981 : decode cL_law 981 = .ok (.iconst 0, 1) := by decide +kernel
theorem dL_law_982 : decode cL_law 982 = .ok (.ireturn, 1) := by decide +kernel
theorem dL_law_983 : decode cL_law 983 = .ok (.iinc 3 5, 3) := by decide +kernel
theorem dL_law_986 : decode cL_law 986 = .ok (.goto (-968), 3) := by decide +kernel
theorem dL_law_989 : decode cL_law 989 = .ok (.iconst 1, 1) := by decide +kernel
theorem dL_law_990 : decode cL_law 990 = .ok (.ireturn, 1) := by decide +kernel
