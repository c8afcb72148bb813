theorem d_H_init_0 : decode b_H_init 0 = .ok (.aload_n 0, 1) := by decide +kernel
theorem d_H_init_1 : decode b_H_init 1 = .ok (.invokespecial 3, 3) := by decide +kernel
theorem d_H_init_4 : decode b_H_init 4 = .ok (.aload_n 0, 1) := by decide +kernel
theorem d_H_init_5 : decode b_H_init 5 = .ok (.new 9, 3) := by decide +kernel
theorem d_H_init_8 : decode b_H_init 8 = .ok (.dup, 1) := by decide +kernel
theorem d_H_init_9 : decode b_H_init 9 = .ok (.invokespecial 11, 3) := by decide +kernel
theorem d_H_init_12 : decode b_H_init 12 = .ok (.putfield 12, 3) := by decide +kernel
theorem d_H_init_15 : decode b_H_init 15 = .ok (.aload_n 0, 1) := by decide +kernel
theorem d_H_init_16 : decode b_H_init 16 = .ok (.new 16, 3) := by decide +kernel
theorem d_H_init_19 : decode b_H_init 19 = .ok (.dup, 1) := by decide +kernel
theorem d_H_init_20 : decode b_H_init 20 = .ok (.aload_n 0, 1) := by decide +kernel
theorem d_H_init_21 : decode b_H_init 21 = .ok (.getfield 12, 3) := by decide +kernel
theorem d_H_init_24 : decode b_H_init 24 = .ok (.invokespecial 18, 3) := by decide +kernel
theorem d_H_init_27 : decode b_H_init 27 = .ok (.putfield 21, 3) := by decide +kernel
theorem d_H_init_30 : decode b_H_init 30 = .ok (.return_, 1) := by decide +kernel
theorem d_H_siftAll_0 : decode b_H_siftAll 0 = .ok (.aload_n 0, 1) := by decide +kernel
theorem d_H_siftAll_1 : decode b_H_siftAll 1 = .ok (.getfield 21, 3) := by decide +kernel
theorem d_H_siftAll_4 : decode b_H_siftAll 4 = .ok (.ldc 69, 2) := by decide +kernel
theorem d_H_siftAll_6 : decode b_H_siftAll 6 = .ok (.invokevirtual 70, 3) := by decide +kernel
theorem d_H_siftAll_9 : decode b_H_siftAll 9 = .ok (.aload_n 0, 1) := by decide +kernel
theorem d_H_siftAll_10 : decode b_H_siftAll 10 = .ok (.getfield 21, 3) := by decide +kernel
theorem d_H_siftAll_13 : decode b_H_siftAll 13 = .ok (.invokevirtual 84, 3) := by decide +kernel
theorem d_H_siftAll_16 : decode b_H_siftAll 16 = .ok (.istore_n 1, 1) := by decide +kernel
theorem d_H_siftAll_17 : decode b_H_siftAll 17 = .ok (.iconst 0, 1) := by decide +kernel
theorem d_H_siftAll_18 : decode b_H_siftAll 18 = .ok (.istore_n 2, 1) := by decide +kernel
theorem d_H_siftAll_19 : decode b_H_siftAll 19 = .ok (.iload_n 2, 1) := by decide +kernel
theorem d_H_siftAll_20 : decode b_H_siftAll 20 = .ok (.iload_n 1, 1) := by decide +kernel
theorem d_H_siftAll_21 : decode b_H_siftAll 21 = .ok (.if_icmp .ge 25, 3) := by decide +kernel
theorem d_H_siftAll_24 : decode b_H_siftAll 24 = .ok (.aload_n 0, 1) := by decide +kernel
theorem d_H_siftAll_25 : decode b_H_siftAll 25 = .ok (.getfield 21, 3) := by decide +kernel
theorem d_H_siftAll_28 : decode b_H_siftAll 28 = .ok (.aload_n 0, 1) := by decide +kernel
theorem d_H_siftAll_29 : decode b_H_siftAll 29 = .ok (.getfield 21, 3) := by decide +kernel
theorem d_H_siftAll_32 : decode b_H_siftAll 32 = .ok (.iload_n 2, 1) := by decide +kernel
theorem d_H_siftAll_33 : decode b_H_siftAll 33 = .ok (.invokevirtual 87, 3) := by decide +kernel
theorem d_H_siftAll_36 : decode b_H_siftAll 36 = .ok (.invokevirtual 80, 3) := by decide +kernel
theorem d_H_siftAll_39 : decode b_H_siftAll 39 = .ok (.pop, 1) := by decide +kernel
theorem d_H_siftAll_40 : decode b_H_siftAll 40 = .ok (.iinc 2 1, 3) := by decide +kernel
theorem d_H_siftAll_43 : decode b_H_siftAll 43 = .ok (.goto (-24), 3) := by decide +kernel
theorem d_H_siftAll_46 : decode b_H_siftAll 46 = .ok (.aload_n 0, 1) := by decide +kernel
theorem d_H_siftAll_47 : decode b_H_siftAll 47 = .ok (.getfield 21, 3) := by decide +kernel
theorem d_H_siftAll_50 : decode b_H_siftAll 50 = .ok (.invokevirtual 90, 3) := by decide +kernel
theorem d_H_siftAll_53 : decode b_H_siftAll 53 = .ok (.aload_n 0, 1) := by decide +kernel
theorem d_H_siftAll_54 : decode b_H_siftAll 54 = .ok (.getfield 21, 3) := by decide +kernel
theorem d_H_siftAll_57 : decode b_H_siftAll 57 = .ok (.invokevirtual 76, 3) := by decide +kernel
theorem d_H_siftAll_60 : decode b_H_siftAll 60 = .ok (.ireturn, 1) := by decide +kernel
