theorem d_T_link_0 : decode b_T_link 0 = .ok (.aload_n 0, 1) := by decide +kernel
theorem d_T_link_1 : decode b_T_link 1 = .ok (.getfield 37, 3) := by decide +kernel
theorem d_T_link_4 : decode b_T_link 4 = .ok (.aload_n 0, 1) := by decide +kernel
theorem d_T_link_5 : decode b_T_link 5 = .ok (.getfield 11, 3) := by decide +kernel
theorem d_T_link_8 : decode b_T_link 8 = .ok (.getfield 43, 3) := by decide +kernel
theorem d_T_link_11 : decode b_T_link 11 = .ok (.iload_n 2, 1) := by decide +kernel
theorem d_T_link_12 : decode b_T_link 12 = .ok (.iaload, 1) := by decide +kernel
theorem d_T_link_13 : decode b_T_link 13 = .ok (.bipush 28, 2) := by decide +kernel
theorem d_T_link_15 : decode b_T_link 15 = .ok (.iushr, 1) := by decide +kernel
theorem d_T_link_16 : decode b_T_link 16 = .ok (.iaload, 1) := by decide +kernel
theorem d_T_link_17 : decode b_T_link 17 = .ok (.istore 4, 2) := by decide +kernel
theorem d_T_link_19 : decode b_T_link 19 = .ok (.aload_n 0, 1) := by decide +kernel
theorem d_T_link_20 : decode b_T_link 20 = .ok (.getfield 37, 3) := by decide +kernel
theorem d_T_link_23 : decode b_T_link 23 = .ok (.aload_n 0, 1) := by decide +kernel
theorem d_T_link_24 : decode b_T_link 24 = .ok (.getfield 11, 3) := by decide +kernel
theorem d_T_link_27 : decode b_T_link 27 = .ok (.getfield 43, 3) := by decide +kernel
theorem d_T_link_30 : decode b_T_link 30 = .ok (.iload_n 3, 1) := by decide +kernel
theorem d_T_link_31 : decode b_T_link 31 = .ok (.iaload, 1) := by decide +kernel
theorem d_T_link_32 : decode b_T_link 32 = .ok (.bipush 28, 2) := by decide +kernel
theorem d_T_link_34 : decode b_T_link 34 = .ok (.iushr, 1) := by decide +kernel
theorem d_T_link_35 : decode b_T_link 35 = .ok (.iaload, 1) := by decide +kernel
theorem d_T_link_36 : decode b_T_link 36 = .ok (.istore 5, 2) := by decide +kernel
theorem d_T_link_38 : decode b_T_link 38 = .ok (.iload 4, 2) := by decide +kernel
theorem d_T_link_40 : decode b_T_link 40 = .ok (.iload 5, 2) := by decide +kernel
theorem d_T_link_42 : decode b_T_link 42 = .ok (.if_icmp .ge 8, 3) := by decide +kernel
theorem d_T_link_45 : decode b_T_link 45 = .ok (.iload 4, 2) := by decide +kernel
theorem d_T_link_47 : decode b_T_link 47 = .ok (.goto 5, 3) := by decide +kernel
theorem d_T_link_50 : decode b_T_link 50 = .ok (.iload 5, 2) := by decide +kernel
theorem d_T_link_52 : decode b_T_link 52 = .ok (.istore 6, 2) := by decide +kernel
theorem d_T_link_54 : decode b_T_link 54 = .ok (.aload_n 0, 1) := by decide +kernel
theorem d_T_link_55 : decode b_T_link 55 = .ok (.getfield 31, 3) := by decide +kernel
theorem d_T_link_58 : decode b_T_link 58 = .ok (.iload_n 1, 1) := by decide +kernel
theorem d_T_link_59 : decode b_T_link 59 = .ok (.aload_n 0, 1) := by decide +kernel
theorem d_T_link_60 : decode b_T_link 60 = .ok (.getfield 34, 3) := by decide +kernel
theorem d_T_link_63 : decode b_T_link 63 = .ok (.iload 6, 2) := by decide +kernel
theorem d_T_link_65 : decode b_T_link 65 = .ok (.iaload, 1) := by decide +kernel
theorem d_T_link_66 : decode b_T_link 66 = .ok (.iastore, 1) := by decide +kernel
theorem d_T_link_67 : decode b_T_link 67 = .ok (.aload_n 0, 1) := by decide +kernel
theorem d_T_link_68 : decode b_T_link 68 = .ok (.getfield 34, 3) := by decide +kernel
theorem d_T_link_71 : decode b_T_link 71 = .ok (.iload 6, 2) := by decide +kernel
theorem d_T_link_73 : decode b_T_link 73 = .ok (.iload_n 1, 1) := by decide +kernel
theorem d_T_link_74 : decode b_T_link 74 = .ok (.iastore, 1) := by decide +kernel
theorem d_T_link_75 : decode b_T_link 75 = .ok (.return_, 1) := by decide +kernel
