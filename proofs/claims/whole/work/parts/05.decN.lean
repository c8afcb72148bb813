theorem d_N_found_0 : decode b_N_found 0 = .ok (.aload_n 0, 1) := by decide +kernel
theorem d_N_found_1 : decode b_N_found 1 = .ok (.getfield 32, 3) := by decide +kernel
theorem d_N_found_4 : decode b_N_found 4 = .ok (.iload_n 1, 1) := by decide +kernel
theorem d_N_found_5 : decode b_N_found 5 = .ok (.ldc 76, 2) := by decide +kernel
theorem d_N_found_7 : decode b_N_found 7 = .ok (.imul, 1) := by decide +kernel
theorem d_N_found_8 : decode b_N_found 8 = .ok (.aload_n 0, 1) := by decide +kernel
theorem d_N_found_9 : decode b_N_found 9 = .ok (.getfield 41, 3) := by decide +kernel
theorem d_N_found_12 : decode b_N_found 12 = .ok (.iushr, 1) := by decide +kernel
theorem d_N_found_13 : decode b_N_found 13 = .ok (.iaload, 1) := by decide +kernel
theorem d_N_found_14 : decode b_N_found 14 = .ok (.istore_n 2, 1) := by decide +kernel
theorem d_N_found_15 : decode b_N_found 15 = .ok (.iconst 0, 1) := by decide +kernel
theorem d_N_found_16 : decode b_N_found 16 = .ok (.istore_n 3, 1) := by decide +kernel
theorem d_N_found_17 : decode b_N_found 17 = .ok (.iload_n 2, 1) := by decide +kernel
theorem d_N_found_18 : decode b_N_found 18 = .ok (.ifCond .eq 35, 3) := by decide +kernel
theorem d_N_found_21 : decode b_N_found 21 = .ok (.iload_n 3, 1) := by decide +kernel
theorem d_N_found_22 : decode b_N_found 22 = .ok (.sipush 16384, 3) := by decide +kernel
theorem d_N_found_25 : decode b_N_found 25 = .ok (.if_icmp .ge 28, 3) := by decide +kernel
theorem d_N_found_28 : decode b_N_found 28 = .ok (.aload_n 0, 1) := by decide +kernel
theorem d_N_found_29 : decode b_N_found 29 = .ok (.getfield 11, 3) := by decide +kernel
theorem d_N_found_32 : decode b_N_found 32 = .ok (.iload_n 2, 1) := by decide +kernel
theorem d_N_found_33 : decode b_N_found 33 = .ok (.iaload, 1) := by decide +kernel
theorem d_N_found_34 : decode b_N_found 34 = .ok (.iload_n 1, 1) := by decide +kernel
theorem d_N_found_35 : decode b_N_found 35 = .ok (.if_icmp .ne 5, 3) := by decide +kernel
theorem d_N_found_38 : decode b_N_found 38 = .ok (.iload_n 2, 1) := by decide +kernel
theorem d_N_found_39 : decode b_N_found 39 = .ok (.ireturn, 1) := by decide +kernel
theorem d_N_found_40 : decode b_N_found 40 = .ok (.aload_n 0, 1) := by decide +kernel
theorem d_N_found_41 : decode b_N_found 41 = .ok (.getfield 29, 3) := by decide +kernel
theorem d_N_found_44 : decode b_N_found 44 = .ok (.iload_n 2, 1) := by decide +kernel
theorem d_N_found_45 : decode b_N_found 45 = .ok (.iaload, 1) := by decide +kernel
theorem d_N_found_46 : decode b_N_found 46 = .ok (.istore_n 2, 1) := by decide +kernel
theorem d_N_found_47 : decode b_N_found 47 = .ok (.iinc 3 1, 3) := by decide +kernel
theorem d_N_found_50 : decode b_N_found 50 = .ok (.goto (-33), 3) := by decide +kernel
theorem d_N_found_53 : decode b_N_found 53 = .ok (.iconst 0, 1) := by decide +kernel
theorem d_N_found_54 : decode b_N_found 54 = .ok (.ireturn, 1) := by decide +kernel
theorem d_N_enlist_0 : decode b_N_enlist 0 = .ok (.aload_n 0, 1) := by decide +kernel
theorem d_N_enlist_1 : decode b_N_enlist 1 = .ok (.getfield 23, 3) := by decide +kernel
theorem d_N_enlist_4 : decode b_N_enlist 4 = .ok (.iload_n 2, 1) := by decide +kernel
theorem d_N_enlist_5 : decode b_N_enlist 5 = .ok (.iaload, 1) := by decide +kernel
theorem d_N_enlist_6 : decode b_N_enlist 6 = .ok (.istore_n 3, 1) := by decide +kernel
theorem d_N_enlist_7 : decode b_N_enlist 7 = .ok (.iload_n 3, 1) := by decide +kernel
theorem d_N_enlist_8 : decode b_N_enlist 8 = .ok (.aload_n 0, 1) := by decide +kernel
theorem d_N_enlist_9 : decode b_N_enlist 9 = .ok (.getfield 20, 3) := by decide +kernel
theorem d_N_enlist_12 : decode b_N_enlist 12 = .ok (.iload_n 2, 1) := by decide +kernel
theorem d_N_enlist_13 : decode b_N_enlist 13 = .ok (.aaload, 1) := by decide +kernel
theorem d_N_enlist_14 : decode b_N_enlist 14 = .ok (.arraylength, 1) := by decide +kernel
theorem d_N_enlist_15 : decode b_N_enlist 15 = .ok (.if_icmp .lt 32, 3) := by decide +kernel
theorem d_N_enlist_18 : decode b_N_enlist 18 = .ok (.iconst 2, 1) := by decide +kernel
theorem d_N_enlist_19 : decode b_N_enlist 19 = .ok (.iload_n 3, 1) := by decide +kernel
theorem d_N_enlist_20 : decode b_N_enlist 20 = .ok (.imul, 1) := by decide +kernel
theorem d_N_enlist_21 : decode b_N_enlist 21 = .ok (.newarray .int, 2) := by decide +kernel
theorem d_N_enlist_23 : decode b_N_enlist 23 = .ok (.astore 4, 2) := by decide +kernel
theorem d_N_enlist_25 : decode b_N_enlist 25 = .ok (.aload_n 0, 1) := by decide +kernel
theorem d_N_enlist_26 : decode b_N_enlist 26 = .ok (.getfield 20, 3) := by decide +kernel
theorem d_N_enlist_29 : decode b_N_enlist 29 = .ok (.iload_n 2, 1) := by decide +kernel
theorem d_N_enlist_30 : decode b_N_enlist 30 = .ok (.aaload, 1) := by decide +kernel
theorem d_N_enlist_31 : decode b_N_enlist 31 = .ok (.iconst 0, 1) := by decide +kernel
theorem d_N_enlist_32 : decode b_N_enlist 32 = .ok (.aload 4, 2) := by decide +kernel
theorem d_N_enlist_34 : decode b_N_enlist 34 = .ok (.iconst 0, 1) := by decide +kernel
theorem d_N_enlist_35 : decode b_N_enlist 35 = .ok (.iload_n 3, 1) := by decide +kernel
theorem d_N_enlist_36 : decode b_N_enlist 36 = .ok (.invokestatic 70, 3) := by decide +kernel
theorem d_N_enlist_39 : decode b_N_enlist 39 = .ok (.aload_n 0, 1) := by decide +kernel
theorem d_N_enlist_40 : decode b_N_enlist 40 = .ok (.getfield 20, 3) := by decide +kernel
theorem d_N_enlist_43 : decode b_N_enlist 43 = .ok (.iload_n 2, 1) := by decide +kernel
theorem d_N_enlist_44 : decode b_N_enlist 44 = .ok (.aload 4, 2) := by decide +kernel
theorem d_N_enlist_46 : decode b_N_enlist 46 = .ok (.aastore, 1) := by decide +kernel
theorem d_N_enlist_47 : decode b_N_enlist 47 = .ok (.aload_n 0, 1) := by decide +kernel
theorem d_N_enlist_48 : decode b_N_enlist 48 = .ok (.getfield 20, 3) := by decide +kernel
theorem d_N_enlist_51 : decode b_N_enlist 51 = .ok (.iload_n 2, 1) := by decide +kernel
theorem d_N_enlist_52 : decode b_N_enlist 52 = .ok (.aaload, 1) := by decide +kernel
theorem d_N_enlist_53 : decode b_N_enlist 53 = .ok (.iload_n 3, 1) := by decide +kernel
theorem d_N_enlist_54 : decode b_N_enlist 54 = .ok (.iload_n 1, 1) := by decide +kernel
theorem d_N_enlist_55 : decode b_N_enlist 55 = .ok (.iastore, 1) := by decide +kernel
theorem d_N_enlist_56 : decode b_N_enlist 56 = .ok (.aload_n 0, 1) := by decide +kernel
theorem d_N_enlist_57 : decode b_N_enlist 57 = .ok (.getfield 26, 3) := by decide +kernel
theorem d_N_enlist_60 : decode b_N_enlist 60 = .ok (.iload_n 1, 1) := by decide +kernel
theorem d_N_enlist_61 : decode b_N_enlist 61 = .ok (.iload_n 3, 1) := by decide +kernel
theorem d_N_enlist_62 : decode b_N_enlist 62 = .ok (.iastore, 1) := by decide +kernel
theorem d_N_enlist_63 : decode b_N_enlist 63 = .ok (.aload_n 0, 1) := by decide +kernel
theorem d_N_enlist_64 : decode b_N_enlist 64 = .ok (.getfield 23, 3) := by decide +kernel
theorem d_N_enlist_67 : decode b_N_enlist 67 = .ok (.iload_n 2, 1) := by decide +kernel
theorem d_N_enlist_68 : decode b_N_enlist 68 = .ok (.iload_n 3, 1) := by decide +kernel
theorem d_N_enlist_69 : decode b_N_enlist 69 = .ok (.iconst 1, 1) := by decide +kernel
theorem d_N_enlist_70 : decode b_N_enlist 70 = .ok (.iadd, 1) := by decide +kernel
theorem d_N_enlist_71 : decode b_N_enlist 71 = .ok (.iastore, 1) := by decide +kernel
theorem d_N_enlist_72 : decode b_N_enlist 72 = .ok (.return_, 1) := by decide +kernel
theorem d_N_link_0 : decode b_N_link 0 = .ok (.aload_n 0, 1) := by decide +kernel
theorem d_N_link_1 : decode b_N_link 1 = .ok (.getfield 11, 3) := by decide +kernel
theorem d_N_link_4 : decode b_N_link 4 = .ok (.iload_n 1, 1) := by decide +kernel
theorem d_N_link_5 : decode b_N_link 5 = .ok (.iaload, 1) := by decide +kernel
theorem d_N_link_6 : decode b_N_link 6 = .ok (.ldc 76, 2) := by decide +kernel
theorem d_N_link_8 : decode b_N_link 8 = .ok (.imul, 1) := by decide +kernel
theorem d_N_link_9 : decode b_N_link 9 = .ok (.aload_n 0, 1) := by decide +kernel
theorem d_N_link_10 : decode b_N_link 10 = .ok (.getfield 41, 3) := by decide +kernel
theorem d_N_link_13 : decode b_N_link 13 = .ok (.iushr, 1) := by decide +kernel
theorem d_N_link_14 : decode b_N_link 14 = .ok (.istore_n 2, 1) := by decide +kernel
theorem d_N_link_15 : decode b_N_link 15 = .ok (.aload_n 0, 1) := by decide +kernel
theorem d_N_link_16 : decode b_N_link 16 = .ok (.getfield 29, 3) := by decide +kernel
theorem d_N_link_19 : decode b_N_link 19 = .ok (.iload_n 1, 1) := by decide +kernel
theorem d_N_link_20 : decode b_N_link 20 = .ok (.aload_n 0, 1) := by decide +kernel
theorem d_N_link_21 : decode b_N_link 21 = .ok (.getfield 32, 3) := by decide +kernel
theorem d_N_link_24 : decode b_N_link 24 = .ok (.iload_n 2, 1) := by decide +kernel
theorem d_N_link_25 : decode b_N_link 25 = .ok (.iaload, 1) := by decide +kernel
theorem d_N_link_26 : decode b_N_link 26 = .ok (.iastore, 1) := by decide +kernel
theorem d_N_link_27 : decode b_N_link 27 = .ok (.aload_n 0, 1) := by decide +kernel
theorem d_N_link_28 : decode b_N_link 28 = .ok (.getfield 32, 3) := by decide +kernel
theorem d_N_link_31 : decode b_N_link 31 = .ok (.iload_n 2, 1) := by decide +kernel
theorem d_N_link_32 : decode b_N_link 32 = .ok (.iload_n 1, 1) := by decide +kernel
theorem d_N_link_33 : decode b_N_link 33 = .ok (.iastore, 1) := by decide +kernel
theorem d_N_link_34 : decode b_N_link 34 = .ok (.return_, 1) := by decide +kernel
