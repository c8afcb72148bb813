theorem d_H_init_0 : decode b_H_init 0 = .ok (.aload_n 0, 1) := by decide +kernel
theorem d_H_init_1 : decode b_H_init 1 = .ok (.invokespecial 3, 3) := by decide +kernel
theorem d_H_init_4 : decode b_H_init 4 = .ok (.aload_n 0, 1) := by decide +kernel
theorem d_H_init_5 : decode b_H_init 5 = .ok (.new 9, 3) := by decide +kernel
theorem d_H_init_8 : decode b_H_init 8 = .ok (.dup, 1) := by decide +kernel
theorem d_H_init_9 : decode b_H_init 9 = .ok (.invokespecial 11, 3) := by decide +kernel
theorem d_H_init_12 : decode b_H_init 12 = .ok (.putfield 12, 3) := by decide +kernel
theorem d_H_init_15 : decode b_H_init 15 = .ok (.aload_n 0, 1) := by decide +kernel
theorem d_H_init_16 : decode b_H_init 16 = .ok (.new 16, 3) := by decide +kernel
theorem d_H_init_19 : decode b_H_init 19 = .ok (.dup, 1) := by decide +kernel
theorem d_H_init_20 : decode b_H_init 20 = .ok (.aload_n 0, 1) := by decide +kernel
theorem d_H_init_21 : decode b_H_init 21 = .ok (.getfield 12, 3) := by decide +kernel
theorem d_H_init_24 : decode b_H_init 24 = .ok (.invokespecial 18, 3) := by decide +kernel
theorem d_H_init_27 : decode b_H_init 27 = .ok (.putfield 21, 3) := by decide +kernel
theorem d_H_init_30 : decode b_H_init 30 = .ok (.return_, 1) := by decide +kernel
theorem d_H_constant_0 : decode b_H_constant 0 = .ok (.iload_n 1, 1) := by decide +kernel
theorem d_H_constant_1 : decode b_H_constant 1 = .ok (.invokestatic 25, 3) := by decide +kernel
theorem d_H_constant_4 : decode b_H_constant 4 = .ok (.iload_n 2, 1) := by decide +kernel
theorem d_H_constant_5 : decode b_H_constant 5 = .ok (.invokestatic 29, 3) := by decide +kernel
theorem d_H_constant_8 : decode b_H_constant 8 = .ok (.aload_n 0, 1) := by decide +kernel
theorem d_H_constant_9 : decode b_H_constant 9 = .ok (.getfield 12, 3) := by decide +kernel
theorem d_H_constant_12 : decode b_H_constant 12 = .ok (.iload_n 1, 1) := by decide +kernel
theorem d_H_constant_13 : decode b_H_constant 13 = .ok (.iload_n 2, 1) := by decide +kernel
theorem d_H_constant_14 : decode b_H_constant 14 = .ok (.invokevirtual 32, 3) := by decide +kernel
theorem d_H_constant_17 : decode b_H_constant 17 = .ok (.aload_n 0, 1) := by decide +kernel
theorem d_H_constant_18 : decode b_H_constant 18 = .ok (.getfield 21, 3) := by decide +kernel
theorem d_H_constant_21 : decode b_H_constant 21 = .ok (.iload_n 1, 1) := by decide +kernel
theorem d_H_constant_22 : decode b_H_constant 22 = .ok (.invokevirtual 36, 3) := by decide +kernel
theorem d_H_constant_25 : decode b_H_constant 25 = .ok (.return_, 1) := by decide +kernel
theorem d_H_input_0 : decode b_H_input 0 = .ok (.iload_n 1, 1) := by decide +kernel
theorem d_H_input_1 : decode b_H_input 1 = .ok (.invokestatic 25, 3) := by decide +kernel
theorem d_H_input_4 : decode b_H_input 4 = .ok (.iload_n 2, 1) := by decide +kernel
theorem d_H_input_5 : decode b_H_input 5 = .ok (.invokestatic 39, 3) := by decide +kernel
theorem d_H_input_8 : decode b_H_input 8 = .ok (.aload_n 0, 1) := by decide +kernel
theorem d_H_input_9 : decode b_H_input 9 = .ok (.getfield 12, 3) := by decide +kernel
theorem d_H_input_12 : decode b_H_input 12 = .ok (.iload_n 1, 1) := by decide +kernel
theorem d_H_input_13 : decode b_H_input 13 = .ok (.iload_n 2, 1) := by decide +kernel
theorem d_H_input_14 : decode b_H_input 14 = .ok (.invokevirtual 42, 3) := by decide +kernel
theorem d_H_input_17 : decode b_H_input 17 = .ok (.aload_n 0, 1) := by decide +kernel
theorem d_H_input_18 : decode b_H_input 18 = .ok (.getfield 21, 3) := by decide +kernel
theorem d_H_input_21 : decode b_H_input 21 = .ok (.iload_n 1, 1) := by decide +kernel
theorem d_H_input_22 : decode b_H_input 22 = .ok (.invokevirtual 36, 3) := by decide +kernel
theorem d_H_input_25 : decode b_H_input 25 = .ok (.return_, 1) := by decide +kernel
theorem d_H_make_0 : decode b_H_make 0 = .ok (.iload_n 1, 1) := by decide +kernel
theorem d_H_make_1 : decode b_H_make 1 = .ok (.iload_n 3, 1) := by decide +kernel
theorem d_H_make_2 : decode b_H_make 2 = .ok (.iload 4, 2) := by decide +kernel
theorem d_H_make_4 : decode b_H_make 4 = .ok (.invokestatic 45, 3) := by decide +kernel
theorem d_H_make_7 : decode b_H_make 7 = .ok (.iload_n 2, 1) := by decide +kernel
theorem d_H_make_8 : decode b_H_make 8 = .ok (.bipush 6, 2) := by decide +kernel
theorem d_H_make_10 : decode b_H_make 10 = .ok (.invokestatic 49, 3) := by decide +kernel
theorem d_H_make_13 : decode b_H_make 13 = .ok (.aload_n 0, 1) := by decide +kernel
theorem d_H_make_14 : decode b_H_make 14 = .ok (.getfield 12, 3) := by decide +kernel
theorem d_H_make_17 : decode b_H_make 17 = .ok (.iload_n 1, 1) := by decide +kernel
theorem d_H_make_18 : decode b_H_make 18 = .ok (.iload_n 2, 1) := by decide +kernel
theorem d_H_make_19 : decode b_H_make 19 = .ok (.iload_n 3, 1) := by decide +kernel
theorem d_H_make_20 : decode b_H_make 20 = .ok (.iload 4, 2) := by decide +kernel
theorem d_H_make_22 : decode b_H_make 22 = .ok (.invokevirtual 52, 3) := by decide +kernel
theorem d_H_make_25 : decode b_H_make 25 = .ok (.aload_n 0, 1) := by decide +kernel
theorem d_H_make_26 : decode b_H_make 26 = .ok (.getfield 21, 3) := by decide +kernel
theorem d_H_make_29 : decode b_H_make 29 = .ok (.iload_n 1, 1) := by decide +kernel
theorem d_H_make_30 : decode b_H_make 30 = .ok (.invokevirtual 36, 3) := by decide +kernel
theorem d_H_make_33 : decode b_H_make 33 = .ok (.return_, 1) := by decide +kernel
theorem d_H_choose_0 : decode b_H_choose 0 = .ok (.iload_n 1, 1) := by decide +kernel
theorem d_H_choose_1 : decode b_H_choose 1 = .ok (.iload_n 2, 1) := by decide +kernel
theorem d_H_choose_2 : decode b_H_choose 2 = .ok (.iload_n 3, 1) := by decide +kernel
theorem d_H_choose_3 : decode b_H_choose 3 = .ok (.invokestatic 45, 3) := by decide +kernel
theorem d_H_choose_6 : decode b_H_choose 6 = .ok (.iload 4, 2) := by decide +kernel
theorem d_H_choose_8 : decode b_H_choose 8 = .ok (.invokestatic 25, 3) := by decide +kernel
theorem d_H_choose_11 : decode b_H_choose 11 = .ok (.aload_n 0, 1) := by decide +kernel
theorem d_H_choose_12 : decode b_H_choose 12 = .ok (.getfield 12, 3) := by decide +kernel
theorem d_H_choose_15 : decode b_H_choose 15 = .ok (.iload_n 1, 1) := by decide +kernel
theorem d_H_choose_16 : decode b_H_choose 16 = .ok (.iload_n 2, 1) := by decide +kernel
theorem d_H_choose_17 : decode b_H_choose 17 = .ok (.iload_n 3, 1) := by decide +kernel
theorem d_H_choose_18 : decode b_H_choose 18 = .ok (.iload 4, 2) := by decide +kernel
theorem d_H_choose_20 : decode b_H_choose 20 = .ok (.invokevirtual 56, 3) := by decide +kernel
theorem d_H_choose_23 : decode b_H_choose 23 = .ok (.aload_n 0, 1) := by decide +kernel
theorem d_H_choose_24 : decode b_H_choose 24 = .ok (.getfield 21, 3) := by decide +kernel
theorem d_H_choose_27 : decode b_H_choose 27 = .ok (.iload_n 1, 1) := by decide +kernel
theorem d_H_choose_28 : decode b_H_choose 28 = .ok (.invokevirtual 36, 3) := by decide +kernel
theorem d_H_choose_31 : decode b_H_choose 31 = .ok (.return_, 1) := by decide +kernel
theorem d_H_fix_0 : decode b_H_fix 0 = .ok (.iload_n 1, 1) := by decide +kernel
theorem d_H_fix_1 : decode b_H_fix 1 = .ok (.iload_n 2, 1) := by decide +kernel
theorem d_H_fix_2 : decode b_H_fix 2 = .ok (.iload_n 2, 1) := by decide +kernel
theorem d_H_fix_3 : decode b_H_fix 3 = .ok (.invokestatic 45, 3) := by decide +kernel
theorem d_H_fix_6 : decode b_H_fix 6 = .ok (.iload_n 3, 1) := by decide +kernel
theorem d_H_fix_7 : decode b_H_fix 7 = .ok (.invokestatic 39, 3) := by decide +kernel
theorem d_H_fix_10 : decode b_H_fix 10 = .ok (.iload 4, 2) := by decide +kernel
theorem d_H_fix_12 : decode b_H_fix 12 = .ok (.invokestatic 29, 3) := by decide +kernel
theorem d_H_fix_15 : decode b_H_fix 15 = .ok (.aload_n 0, 1) := by decide +kernel
theorem d_H_fix_16 : decode b_H_fix 16 = .ok (.getfield 12, 3) := by decide +kernel
theorem d_H_fix_19 : decode b_H_fix 19 = .ok (.iload_n 1, 1) := by decide +kernel
theorem d_H_fix_20 : decode b_H_fix 20 = .ok (.iload_n 2, 1) := by decide +kernel
theorem d_H_fix_21 : decode b_H_fix 21 = .ok (.iload_n 3, 1) := by decide +kernel
theorem d_H_fix_22 : decode b_H_fix 22 = .ok (.iload 4, 2) := by decide +kernel
theorem d_H_fix_24 : decode b_H_fix 24 = .ok (.invokevirtual 59, 3) := by decide +kernel
theorem d_H_fix_27 : decode b_H_fix 27 = .ok (.aload_n 0, 1) := by decide +kernel
theorem d_H_fix_28 : decode b_H_fix 28 = .ok (.getfield 21, 3) := by decide +kernel
theorem d_H_fix_31 : decode b_H_fix 31 = .ok (.iload_n 1, 1) := by decide +kernel
theorem d_H_fix_32 : decode b_H_fix 32 = .ok (.invokevirtual 36, 3) := by decide +kernel
theorem d_H_fix_35 : decode b_H_fix 35 = .ok (.return_, 1) := by decide +kernel
theorem d_H_compose_0 : decode b_H_compose 0 = .ok (.iload_n 1, 1) := by decide +kernel
theorem d_H_compose_1 : decode b_H_compose 1 = .ok (.iload_n 2, 1) := by decide +kernel
theorem d_H_compose_2 : decode b_H_compose 2 = .ok (.iload 4, 2) := by decide +kernel
theorem d_H_compose_4 : decode b_H_compose 4 = .ok (.invokestatic 45, 3) := by decide +kernel
theorem d_H_compose_7 : decode b_H_compose 7 = .ok (.iload_n 3, 1) := by decide +kernel
theorem d_H_compose_8 : decode b_H_compose 8 = .ok (.invokestatic 39, 3) := by decide +kernel
theorem d_H_compose_11 : decode b_H_compose 11 = .ok (.aload_n 0, 1) := by decide +kernel
theorem d_H_compose_12 : decode b_H_compose 12 = .ok (.getfield 12, 3) := by decide +kernel
theorem d_H_compose_15 : decode b_H_compose 15 = .ok (.iload_n 1, 1) := by decide +kernel
theorem d_H_compose_16 : decode b_H_compose 16 = .ok (.iload_n 2, 1) := by decide +kernel
theorem d_H_compose_17 : decode b_H_compose 17 = .ok (.iload_n 3, 1) := by decide +kernel
theorem d_H_compose_18 : decode b_H_compose 18 = .ok (.iload 4, 2) := by decide +kernel
theorem d_H_compose_20 : decode b_H_compose 20 = .ok (.invokevirtual 62, 3) := by decide +kernel
theorem d_H_compose_23 : decode b_H_compose 23 = .ok (.aload_n 0, 1) := by decide +kernel
theorem d_H_compose_24 : decode b_H_compose 24 = .ok (.getfield 21, 3) := by decide +kernel
theorem d_H_compose_27 : decode b_H_compose 27 = .ok (.iload_n 1, 1) := by decide +kernel
theorem d_H_compose_28 : decode b_H_compose 28 = .ok (.invokevirtual 36, 3) := by decide +kernel
theorem d_H_compose_31 : decode b_H_compose 31 = .ok (.return_, 1) := by decide +kernel
theorem d_H_quantify_0 : decode b_H_quantify 0 = .ok (.iload_n 1, 1) := by decide +kernel
theorem d_H_quantify_1 : decode b_H_quantify 1 = .ok (.iload_n 2, 1) := by decide +kernel
theorem d_H_quantify_2 : decode b_H_quantify 2 = .ok (.iload_n 2, 1) := by decide +kernel
theorem d_H_quantify_3 : decode b_H_quantify 3 = .ok (.invokestatic 45, 3) := by decide +kernel
theorem d_H_quantify_6 : decode b_H_quantify 6 = .ok (.iload_n 3, 1) := by decide +kernel
theorem d_H_quantify_7 : decode b_H_quantify 7 = .ok (.sipush 1024, 3) := by decide +kernel
theorem d_H_quantify_10 : decode b_H_quantify 10 = .ok (.invokestatic 49, 3) := by decide +kernel
theorem d_H_quantify_13 : decode b_H_quantify 13 = .ok (.aload_n 0, 1) := by decide +kernel
theorem d_H_quantify_14 : decode b_H_quantify 14 = .ok (.getfield 12, 3) := by decide +kernel
theorem d_H_quantify_17 : decode b_H_quantify 17 = .ok (.iload_n 1, 1) := by decide +kernel
theorem d_H_quantify_18 : decode b_H_quantify 18 = .ok (.iload_n 2, 1) := by decide +kernel
theorem d_H_quantify_19 : decode b_H_quantify 19 = .ok (.iload_n 2, 1) := by decide +kernel
theorem d_H_quantify_20 : decode b_H_quantify 20 = .ok (.iload_n 3, 1) := by decide +kernel
theorem d_H_quantify_21 : decode b_H_quantify 21 = .ok (.iload 4, 2) := by decide +kernel
theorem d_H_quantify_23 : decode b_H_quantify 23 = .ok (.invokevirtual 65, 3) := by decide +kernel
theorem d_H_quantify_26 : decode b_H_quantify 26 = .ok (.aload_n 0, 1) := by decide +kernel
theorem d_H_quantify_27 : decode b_H_quantify 27 = .ok (.getfield 21, 3) := by decide +kernel
theorem d_H_quantify_30 : decode b_H_quantify 30 = .ok (.iload_n 1, 1) := by decide +kernel
theorem d_H_quantify_31 : decode b_H_quantify 31 = .ok (.invokevirtual 36, 3) := by decide +kernel
theorem d_H_quantify_34 : decode b_H_quantify 34 = .ok (.return_, 1) := by decide +kernel
theorem d_H_meet_0 : decode b_H_meet 0 = .ok (.iload_n 1, 1) := by decide +kernel
theorem d_H_meet_1 : decode b_H_meet 1 = .ok (.iload_n 2, 1) := by decide +kernel
theorem d_H_meet_2 : decode b_H_meet 2 = .ok (.iload_n 3, 1) := by decide +kernel
theorem d_H_meet_3 : decode b_H_meet 3 = .ok (.invokestatic 45, 3) := by decide +kernel
theorem d_H_meet_6 : decode b_H_meet 6 = .ok (.iload 4, 2) := by decide +kernel
theorem d_H_meet_8 : decode b_H_meet 8 = .ok (.sipush 1024, 3) := by decide +kernel
theorem d_H_meet_11 : decode b_H_meet 11 = .ok (.invokestatic 49, 3) := by decide +kernel
theorem d_H_meet_14 : decode b_H_meet 14 = .ok (.aload_n 0, 1) := by decide +kernel
theorem d_H_meet_15 : decode b_H_meet 15 = .ok (.getfield 12, 3) := by decide +kernel
theorem d_H_meet_18 : decode b_H_meet 18 = .ok (.iload_n 1, 1) := by decide +kernel
theorem d_H_meet_19 : decode b_H_meet 19 = .ok (.iload_n 2, 1) := by decide +kernel
theorem d_H_meet_20 : decode b_H_meet 20 = .ok (.iload_n 3, 1) := by decide +kernel
theorem d_H_meet_21 : decode b_H_meet 21 = .ok (.iload 4, 2) := by decide +kernel
theorem d_H_meet_23 : decode b_H_meet 23 = .ok (.iconst 0, 1) := by decide +kernel
theorem d_H_meet_24 : decode b_H_meet 24 = .ok (.invokevirtual 65, 3) := by decide +kernel
theorem d_H_meet_27 : decode b_H_meet 27 = .ok (.aload_n 0, 1) := by decide +kernel
theorem d_H_meet_28 : decode b_H_meet 28 = .ok (.getfield 21, 3) := by decide +kernel
theorem d_H_meet_31 : decode b_H_meet 31 = .ok (.iload_n 1, 1) := by decide +kernel
theorem d_H_meet_32 : decode b_H_meet 32 = .ok (.invokevirtual 36, 3) := by decide +kernel
theorem d_H_meet_35 : decode b_H_meet 35 = .ok (.return_, 1) := by decide +kernel
theorem d_H_move_0 : decode b_H_move 0 = .ok (.iload_n 1, 1) := by decide +kernel
theorem d_H_move_1 : decode b_H_move 1 = .ok (.invokestatic 39, 3) := by decide +kernel
theorem d_H_move_4 : decode b_H_move 4 = .ok (.iload_n 2, 1) := by decide +kernel
theorem d_H_move_5 : decode b_H_move 5 = .ok (.bipush 10, 2) := by decide +kernel
theorem d_H_move_7 : decode b_H_move 7 = .ok (.invokestatic 49, 3) := by decide +kernel
theorem d_H_move_10 : decode b_H_move 10 = .ok (.aload_n 0, 1) := by decide +kernel
theorem d_H_move_11 : decode b_H_move 11 = .ok (.getfield 21, 3) := by decide +kernel
theorem d_H_move_14 : decode b_H_move 14 = .ok (.ldc 69, 2) := by decide +kernel
theorem d_H_move_16 : decode b_H_move 16 = .ok (.invokevirtual 70, 3) := by decide +kernel
theorem d_H_move_19 : decode b_H_move 19 = .ok (.aload_n 0, 1) := by decide +kernel
theorem d_H_move_20 : decode b_H_move 20 = .ok (.getfield 21, 3) := by decide +kernel
theorem d_H_move_23 : decode b_H_move 23 = .ok (.iload_n 1, 1) := by decide +kernel
theorem d_H_move_24 : decode b_H_move 24 = .ok (.iload_n 2, 1) := by decide +kernel
theorem d_H_move_25 : decode b_H_move 25 = .ok (.invokevirtual 73, 3) := by decide +kernel
theorem d_H_move_28 : decode b_H_move 28 = .ok (.aload_n 0, 1) := by decide +kernel
theorem d_H_move_29 : decode b_H_move 29 = .ok (.getfield 21, 3) := by decide +kernel
theorem d_H_move_32 : decode b_H_move 32 = .ok (.invokevirtual 76, 3) := by decide +kernel
theorem d_H_move_35 : decode b_H_move 35 = .ok (.ireturn, 1) := by decide +kernel
theorem d_H_sift_0 : decode b_H_sift 0 = .ok (.iload_n 1, 1) := by decide +kernel
theorem d_H_sift_1 : decode b_H_sift 1 = .ok (.invokestatic 39, 3) := by decide +kernel
theorem d_H_sift_4 : decode b_H_sift 4 = .ok (.aload_n 0, 1) := by decide +kernel
theorem d_H_sift_5 : decode b_H_sift 5 = .ok (.getfield 21, 3) := by decide +kernel
theorem d_H_sift_8 : decode b_H_sift 8 = .ok (.ldc 69, 2) := by decide +kernel
theorem d_H_sift_10 : decode b_H_sift 10 = .ok (.invokevirtual 70, 3) := by decide +kernel
theorem d_H_sift_13 : decode b_H_sift 13 = .ok (.aload_n 0, 1) := by decide +kernel
theorem d_H_sift_14 : decode b_H_sift 14 = .ok (.getfield 21, 3) := by decide +kernel
theorem d_H_sift_17 : decode b_H_sift 17 = .ok (.iload_n 1, 1) := by decide +kernel
theorem d_H_sift_18 : decode b_H_sift 18 = .ok (.invokevirtual 80, 3) := by decide +kernel
theorem d_H_sift_21 : decode b_H_sift 21 = .ok (.ireturn, 1) := by decide +kernel
theorem d_H_siftAll_0 : decode b_H_siftAll 0 = .ok (.aload_n 0, 1) := by decide +kernel
theorem d_H_siftAll_1 : decode b_H_siftAll 1 = .ok (.getfield 21, 3) := by decide +kernel
theorem d_H_siftAll_4 : decode b_H_siftAll 4 = .ok (.ldc 69, 2) := by decide +kernel
theorem d_H_siftAll_6 : decode b_H_siftAll 6 = .ok (.invokevirtual 70, 3) := by decide +kernel
theorem d_H_siftAll_9 : decode b_H_siftAll 9 = .ok (.aload_n 0, 1) := by decide +kernel
theorem d_H_siftAll_10 : decode b_H_siftAll 10 = .ok (.getfield 21, 3) := by decide +kernel
theorem d_H_siftAll_13 : decode b_H_siftAll 13 = .ok (.invokevirtual 84, 3) := by decide +kernel
theorem d_H_siftAll_16 : decode b_H_siftAll 16 = .ok (.istore_n 1, 1) := by decide +kernel
theorem d_H_siftAll_17 : decode b_H_siftAll 17 = .ok (.iconst 0, 1) := by decide +kernel
theorem d_H_siftAll_18 : decode b_H_siftAll 18 = .ok (.istore_n 2, 1) := by decide +kernel
theorem d_H_siftAll_19 : decode b_H_siftAll 19 = .ok (.iload_n 2, 1) := by decide +kernel
theorem d_H_siftAll_20 : decode b_H_siftAll 20 = .ok (.iload_n 1, 1) := by decide +kernel
theorem d_H_siftAll_21 : decode b_H_siftAll 21 = .ok (.if_icmp .ge 25, 3) := by decide +kernel
theorem d_H_siftAll_24 : decode b_H_siftAll 24 = .ok (.aload_n 0, 1) := by decide +kernel
theorem d_H_siftAll_25 : decode b_H_siftAll 25 = .ok (.getfield 21, 3) := by decide +kernel
theorem d_H_siftAll_28 : decode b_H_siftAll 28 = .ok (.aload_n 0, 1) := by decide +kernel
theorem d_H_siftAll_29 : decode b_H_siftAll 29 = .ok (.getfield 21, 3) := by decide +kernel
theorem d_H_siftAll_32 : decode b_H_siftAll 32 = .ok (.iload_n 2, 1) := by decide +kernel
theorem d_H_siftAll_33 : decode b_H_siftAll 33 = .ok (.invokevirtual 87, 3) := by decide +kernel
theorem d_H_siftAll_36 : decode b_H_siftAll 36 = .ok (.invokevirtual 80, 3) := by decide +kernel
theorem d_H_siftAll_39 : decode b_H_siftAll 39 = .ok (.pop, 1) := by decide +kernel
theorem d_H_siftAll_40 : decode b_H_siftAll 40 = .ok (.iinc 2 1, 3) := by decide +kernel
theorem d_H_siftAll_43 : decode b_H_siftAll 43 = .ok (.goto (-24), 3) := by decide +kernel
theorem d_H_siftAll_46 : decode b_H_siftAll 46 = .ok (.aload_n 0, 1) := by decide +kernel
theorem d_H_siftAll_47 : decode b_H_siftAll 47 = .ok (.getfield 21, 3) := by decide +kernel
theorem d_H_siftAll_50 : decode b_H_siftAll 50 = .ok (.invokevirtual 90, 3) := by decide +kernel
theorem d_H_siftAll_53 : decode b_H_siftAll 53 = .ok (.aload_n 0, 1) := by decide +kernel
theorem d_H_siftAll_54 : decode b_H_siftAll 54 = .ok (.getfield 21, 3) := by decide +kernel
theorem d_H_siftAll_57 : decode b_H_siftAll 57 = .ok (.invokevirtual 76, 3) := by decide +kernel
theorem d_H_siftAll_60 : decode b_H_siftAll 60 = .ok (.ireturn, 1) := by decide +kernel
theorem d_H_order_0 : decode b_H_order 0 = .ok (.iload_n 1, 1) := by decide +kernel
theorem d_H_order_1 : decode b_H_order 1 = .ok (.ifCond .lt 9, 3) := by decide +kernel
theorem d_H_order_4 : decode b_H_order 4 = .ok (.iload_n 1, 1) := by decide +kernel
theorem d_H_order_5 : decode b_H_order 5 = .ok (.bipush 10, 2) := by decide +kernel
theorem d_H_order_7 : decode b_H_order 7 = .ok (.if_icmp .lt 13, 3) := by decide +kernel
theorem d_H_order_10 : decode b_H_order 10 = .ok (.new 93, 3) := by decide +kernel
theorem d_H_order_13 : decode b_H_order 13 = .ok (.dup, 1) := by decide +kernel
theorem d_H_order_14 : decode b_H_order 14 = .ok (.ldc 95, 2) := by decide +kernel
theorem d_H_order_16 : decode b_H_order 16 = .ok (.invokespecial 97, 3) := by decide +kernel
theorem d_H_order_19 : decode b_H_order 19 = .ok (.athrow, 1) := by decide +kernel
theorem d_H_order_20 : decode b_H_order 20 = .ok (.aload_n 0, 1) := by decide +kernel
theorem d_H_order_21 : decode b_H_order 21 = .ok (.getfield 21, 3) := by decide +kernel
theorem d_H_order_24 : decode b_H_order 24 = .ok (.iload_n 1, 1) := by decide +kernel
theorem d_H_order_25 : decode b_H_order 25 = .ok (.invokevirtual 100, 3) := by decide +kernel
theorem d_H_order_28 : decode b_H_order 28 = .ok (.ireturn, 1) := by decide +kernel
theorem d_H_size_0 : decode b_H_size 0 = .ok (.iload_n 1, 1) := by decide +kernel
theorem d_H_size_1 : decode b_H_size 1 = .ok (.iconst (-1), 1) := by decide +kernel
theorem d_H_size_2 : decode b_H_size 2 = .ok (.if_icmp .ne 20, 3) := by decide +kernel
theorem d_H_size_5 : decode b_H_size 5 = .ok (.aload_n 0, 1) := by decide +kernel
theorem d_H_size_6 : decode b_H_size 6 = .ok (.getfield 21, 3) := by decide +kernel
theorem d_H_size_9 : decode b_H_size 9 = .ok (.ldc 69, 2) := by decide +kernel
theorem d_H_size_11 : decode b_H_size 11 = .ok (.invokevirtual 70, 3) := by decide +kernel
theorem d_H_size_14 : decode b_H_size 14 = .ok (.aload_n 0, 1) := by decide +kernel
theorem d_H_size_15 : decode b_H_size 15 = .ok (.getfield 21, 3) := by decide +kernel
theorem d_H_size_18 : decode b_H_size 18 = .ok (.invokevirtual 76, 3) := by decide +kernel
theorem d_H_size_21 : decode b_H_size 21 = .ok (.ireturn, 1) := by decide +kernel
theorem d_H_size_22 : decode b_H_size 22 = .ok (.iload_n 1, 1) := by decide +kernel
theorem d_H_size_23 : decode b_H_size 23 = .ok (.invokestatic 25, 3) := by decide +kernel
theorem d_H_size_26 : decode b_H_size 26 = .ok (.aload_n 0, 1) := by decide +kernel
theorem d_H_size_27 : decode b_H_size 27 = .ok (.getfield 21, 3) := by decide +kernel
theorem d_H_size_30 : decode b_H_size 30 = .ok (.iconst 1, 1) := by decide +kernel
theorem d_H_size_31 : decode b_H_size 31 = .ok (.iload_n 1, 1) := by decide +kernel
theorem d_H_size_32 : decode b_H_size 32 = .ok (.ishl, 1) := by decide +kernel
theorem d_H_size_33 : decode b_H_size 33 = .ok (.invokevirtual 70, 3) := by decide +kernel
theorem d_H_size_36 : decode b_H_size 36 = .ok (.aload_n 0, 1) := by decide +kernel
theorem d_H_size_37 : decode b_H_size 37 = .ok (.getfield 21, 3) := by decide +kernel
theorem d_H_size_40 : decode b_H_size 40 = .ok (.iload_n 1, 1) := by decide +kernel
theorem d_H_size_41 : decode b_H_size 41 = .ok (.invokevirtual 103, 3) := by decide +kernel
theorem d_H_size_44 : decode b_H_size 44 = .ok (.ireturn, 1) := by decide +kernel
theorem d_H_count_0 : decode b_H_count 0 = .ok (.iload_n 1, 1) := by decide +kernel
theorem d_H_count_1 : decode b_H_count 1 = .ok (.invokestatic 25, 3) := by decide +kernel
theorem d_H_count_4 : decode b_H_count 4 = .ok (.aload_n 0, 1) := by decide +kernel
theorem d_H_count_5 : decode b_H_count 5 = .ok (.getfield 12, 3) := by decide +kernel
theorem d_H_count_8 : decode b_H_count 8 = .ok (.iload_n 1, 1) := by decide +kernel
theorem d_H_count_9 : decode b_H_count 9 = .ok (.invokevirtual 106, 3) := by decide +kernel
theorem d_H_count_12 : decode b_H_count 12 = .ok (.ireturn, 1) := by decide +kernel
theorem d_H_value_0 : decode b_H_value 0 = .ok (.iload_n 1, 1) := by decide +kernel
theorem d_H_value_1 : decode b_H_value 1 = .ok (.invokestatic 25, 3) := by decide +kernel
theorem d_H_value_4 : decode b_H_value 4 = .ok (.iload_n 2, 1) := by decide +kernel
theorem d_H_value_5 : decode b_H_value 5 = .ok (.sipush 1024, 3) := by decide +kernel
theorem d_H_value_8 : decode b_H_value 8 = .ok (.invokestatic 49, 3) := by decide +kernel
theorem d_H_value_11 : decode b_H_value 11 = .ok (.aload_n 0, 1) := by decide +kernel
theorem d_H_value_12 : decode b_H_value 12 = .ok (.getfield 12, 3) := by decide +kernel
theorem d_H_value_15 : decode b_H_value 15 = .ok (.iload_n 1, 1) := by decide +kernel
theorem d_H_value_16 : decode b_H_value 16 = .ok (.iload_n 2, 1) := by decide +kernel
theorem d_H_value_17 : decode b_H_value 17 = .ok (.invokevirtual 109, 3) := by decide +kernel
theorem d_H_value_20 : decode b_H_value 20 = .ok (.iconst 1, 1) := by decide +kernel
theorem d_H_value_21 : decode b_H_value 21 = .ok (.if_icmp .ne 7, 3) := by decide +kernel
theorem d_H_value_24 : decode b_H_value 24 = .ok (.iconst 1, 1) := by decide +kernel
theorem d_H_value_25 : decode b_H_value 25 = .ok (.goto 4, 3) := by decide +kernel
theorem d_H_value_28 : decode b_H_value 28 = .ok (.iconst 0, 1) := by decide +kernel
theorem d_H_value_29 : decode b_H_value 29 = .ok (.ireturn, 1) := by decide +kernel
theorem d_H_least_0 : decode b_H_least 0 = .ok (.iload_n 1, 1) := by decide +kernel
theorem d_H_least_1 : decode b_H_least 1 = .ok (.invokestatic 25, 3) := by decide +kernel
theorem d_H_least_4 : decode b_H_least 4 = .ok (.aload_n 0, 1) := by decide +kernel
theorem d_H_least_5 : decode b_H_least 5 = .ok (.getfield 12, 3) := by decide +kernel
theorem d_H_least_8 : decode b_H_least 8 = .ok (.iload_n 1, 1) := by decide +kernel
theorem d_H_least_9 : decode b_H_least 9 = .ok (.invokevirtual 113, 3) := by decide +kernel
theorem d_H_least_12 : decode b_H_least 12 = .ok (.ireturn, 1) := by decide +kernel
theorem d_H_support_0 : decode b_H_support 0 = .ok (.iload_n 1, 1) := by decide +kernel
theorem d_H_support_1 : decode b_H_support 1 = .ok (.invokestatic 25, 3) := by decide +kernel
theorem d_H_support_4 : decode b_H_support 4 = .ok (.aload_n 0, 1) := by decide +kernel
theorem d_H_support_5 : decode b_H_support 5 = .ok (.getfield 12, 3) := by decide +kernel
theorem d_H_support_8 : decode b_H_support 8 = .ok (.iload_n 1, 1) := by decide +kernel
theorem d_H_support_9 : decode b_H_support 9 = .ok (.invokevirtual 116, 3) := by decide +kernel
theorem d_H_support_12 : decode b_H_support 12 = .ok (.ireturn, 1) := by decide +kernel
theorem d_H_alike_0 : decode b_H_alike 0 = .ok (.iload_n 1, 1) := by decide +kernel
theorem d_H_alike_1 : decode b_H_alike 1 = .ok (.iload_n 2, 1) := by decide +kernel
theorem d_H_alike_2 : decode b_H_alike 2 = .ok (.iload_n 2, 1) := by decide +kernel
theorem d_H_alike_3 : decode b_H_alike 3 = .ok (.invokestatic 45, 3) := by decide +kernel
theorem d_H_alike_6 : decode b_H_alike 6 = .ok (.aload_n 0, 1) := by decide +kernel
theorem d_H_alike_7 : decode b_H_alike 7 = .ok (.getfield 12, 3) := by decide +kernel
theorem d_H_alike_10 : decode b_H_alike 10 = .ok (.iload_n 1, 1) := by decide +kernel
theorem d_H_alike_11 : decode b_H_alike 11 = .ok (.iload_n 2, 1) := by decide +kernel
theorem d_H_alike_12 : decode b_H_alike 12 = .ok (.invokevirtual 119, 3) := by decide +kernel
theorem d_H_alike_15 : decode b_H_alike 15 = .ok (.ireturn, 1) := by decide +kernel
theorem d_H_asked_0 : decode b_H_asked 0 = .ok (.iload_n 1, 1) := by decide +kernel
theorem d_H_asked_1 : decode b_H_asked 1 = .ok (.invokestatic 25, 3) := by decide +kernel
theorem d_H_asked_4 : decode b_H_asked 4 = .ok (.iload_n 3, 1) := by decide +kernel
theorem d_H_asked_5 : decode b_H_asked 5 = .ok (.ifCond .ge 13, 3) := by decide +kernel
theorem d_H_asked_8 : decode b_H_asked 8 = .ok (.new 93, 3) := by decide +kernel
theorem d_H_asked_11 : decode b_H_asked 11 = .ok (.dup, 1) := by decide +kernel
theorem d_H_asked_12 : decode b_H_asked 12 = .ok (.ldc 123, 2) := by decide +kernel
theorem d_H_asked_14 : decode b_H_asked 14 = .ok (.invokespecial 97, 3) := by decide +kernel
theorem d_H_asked_17 : decode b_H_asked 17 = .ok (.athrow, 1) := by decide +kernel
theorem d_H_asked_18 : decode b_H_asked 18 = .ok (.iload_n 2, 1) := by decide +kernel
theorem d_H_asked_19 : decode b_H_asked 19 = .ok (.sipush 1024, 3) := by decide +kernel
theorem d_H_asked_22 : decode b_H_asked 22 = .ok (.invokestatic 49, 3) := by decide +kernel
theorem d_H_asked_25 : decode b_H_asked 25 = .ok (.aload_n 0, 1) := by decide +kernel
theorem d_H_asked_26 : decode b_H_asked 26 = .ok (.getfield 21, 3) := by decide +kernel
theorem d_H_asked_29 : decode b_H_asked 29 = .ok (.iconst 1, 1) := by decide +kernel
theorem d_H_asked_30 : decode b_H_asked 30 = .ok (.iload_n 1, 1) := by decide +kernel
theorem d_H_asked_31 : decode b_H_asked 31 = .ok (.ishl, 1) := by decide +kernel
theorem d_H_asked_32 : decode b_H_asked 32 = .ok (.invokevirtual 70, 3) := by decide +kernel
theorem d_H_asked_35 : decode b_H_asked 35 = .ok (.aload_n 0, 1) := by decide +kernel
theorem d_H_asked_36 : decode b_H_asked 36 = .ok (.getfield 21, 3) := by decide +kernel
theorem d_H_asked_39 : decode b_H_asked 39 = .ok (.iload_n 1, 1) := by decide +kernel
theorem d_H_asked_40 : decode b_H_asked 40 = .ok (.iload_n 2, 1) := by decide +kernel
theorem d_H_asked_41 : decode b_H_asked 41 = .ok (.iload_n 3, 1) := by decide +kernel
theorem d_H_asked_42 : decode b_H_asked 42 = .ok (.invokevirtual 125, 3) := by decide +kernel
theorem d_H_asked_45 : decode b_H_asked 45 = .ok (.ireturn, 1) := by decide +kernel
theorem d_H_questions_0 : decode b_H_questions 0 = .ok (.iload_n 1, 1) := by decide +kernel
theorem d_H_questions_1 : decode b_H_questions 1 = .ok (.invokestatic 39, 3) := by decide +kernel
theorem d_H_questions_4 : decode b_H_questions 4 = .ok (.aload_n 0, 1) := by decide +kernel
theorem d_H_questions_5 : decode b_H_questions 5 = .ok (.getfield 21, 3) := by decide +kernel
theorem d_H_questions_8 : decode b_H_questions 8 = .ok (.ldc 69, 2) := by decide +kernel
theorem d_H_questions_10 : decode b_H_questions 10 = .ok (.invokevirtual 70, 3) := by decide +kernel
theorem d_H_questions_13 : decode b_H_questions 13 = .ok (.aload_n 0, 1) := by decide +kernel
theorem d_H_questions_14 : decode b_H_questions 14 = .ok (.getfield 21, 3) := by decide +kernel
theorem d_H_questions_17 : decode b_H_questions 17 = .ok (.iload_n 1, 1) := by decide +kernel
theorem d_H_questions_18 : decode b_H_questions 18 = .ok (.invokevirtual 129, 3) := by decide +kernel
theorem d_H_questions_21 : decode b_H_questions 21 = .ok (.ireturn, 1) := by decide +kernel
theorem d_H_needPlace_0 : decode b_H_needPlace 0 = .ok (.iload_n 0, 1) := by decide +kernel
theorem d_H_needPlace_1 : decode b_H_needPlace 1 = .ok (.ifCond .lt 9, 3) := by decide +kernel
theorem d_H_needPlace_4 : decode b_H_needPlace 4 = .ok (.iload_n 0, 1) := by decide +kernel
theorem d_H_needPlace_5 : decode b_H_needPlace 5 = .ok (.bipush 24, 2) := by decide +kernel
theorem d_H_needPlace_7 : decode b_H_needPlace 7 = .ok (.if_icmp .lt 13, 3) := by decide +kernel
theorem d_H_needPlace_10 : decode b_H_needPlace 10 = .ok (.new 93, 3) := by decide +kernel
theorem d_H_needPlace_13 : decode b_H_needPlace 13 = .ok (.dup, 1) := by decide +kernel
theorem d_H_needPlace_14 : decode b_H_needPlace 14 = .ok (.ldc 132, 2) := by decide +kernel
theorem d_H_needPlace_16 : decode b_H_needPlace 16 = .ok (.invokespecial 97, 3) := by decide +kernel
theorem d_H_needPlace_19 : decode b_H_needPlace 19 = .ok (.athrow, 1) := by decide +kernel
theorem d_H_needPlace_20 : decode b_H_needPlace 20 = .ok (.return_, 1) := by decide +kernel
theorem d_H_needPlaces_0 : decode b_H_needPlaces 0 = .ok (.iload_n 0, 1) := by decide +kernel
theorem d_H_needPlaces_1 : decode b_H_needPlaces 1 = .ok (.ifCond .lt 29, 3) := by decide +kernel
theorem d_H_needPlaces_4 : decode b_H_needPlaces 4 = .ok (.iload_n 0, 1) := by decide +kernel
theorem d_H_needPlaces_5 : decode b_H_needPlaces 5 = .ok (.bipush 24, 2) := by decide +kernel
theorem d_H_needPlaces_7 : decode b_H_needPlaces 7 = .ok (.if_icmp .ge 23, 3) := by decide +kernel
theorem d_H_needPlaces_10 : decode b_H_needPlaces 10 = .ok (.iload_n 1, 1) := by decide +kernel
theorem d_H_needPlaces_11 : decode b_H_needPlaces 11 = .ok (.ifCond .lt 19, 3) := by decide +kernel
theorem d_H_needPlaces_14 : decode b_H_needPlaces 14 = .ok (.iload_n 1, 1) := by decide +kernel
theorem d_H_needPlaces_15 : decode b_H_needPlaces 15 = .ok (.bipush 24, 2) := by decide +kernel
theorem d_H_needPlaces_17 : decode b_H_needPlaces 17 = .ok (.if_icmp .ge 13, 3) := by decide +kernel
theorem d_H_needPlaces_20 : decode b_H_needPlaces 20 = .ok (.iload_n 2, 1) := by decide +kernel
theorem d_H_needPlaces_21 : decode b_H_needPlaces 21 = .ok (.ifCond .lt 9, 3) := by decide +kernel
theorem d_H_needPlaces_24 : decode b_H_needPlaces 24 = .ok (.iload_n 2, 1) := by decide +kernel
theorem d_H_needPlaces_25 : decode b_H_needPlaces 25 = .ok (.bipush 24, 2) := by decide +kernel
theorem d_H_needPlaces_27 : decode b_H_needPlaces 27 = .ok (.if_icmp .lt 13, 3) := by decide +kernel
theorem d_H_needPlaces_30 : decode b_H_needPlaces 30 = .ok (.new 93, 3) := by decide +kernel
theorem d_H_needPlaces_33 : decode b_H_needPlaces 33 = .ok (.dup, 1) := by decide +kernel
theorem d_H_needPlaces_34 : decode b_H_needPlaces 34 = .ok (.ldc 132, 2) := by decide +kernel
theorem d_H_needPlaces_36 : decode b_H_needPlaces 36 = .ok (.invokespecial 97, 3) := by decide +kernel
theorem d_H_needPlaces_39 : decode b_H_needPlaces 39 = .ok (.athrow, 1) := by decide +kernel
theorem d_H_needPlaces_40 : decode b_H_needPlaces 40 = .ok (.return_, 1) := by decide +kernel
theorem d_H_needInput_0 : decode b_H_needInput 0 = .ok (.iload_n 0, 1) := by decide +kernel
theorem d_H_needInput_1 : decode b_H_needInput 1 = .ok (.ifCond .lt 9, 3) := by decide +kernel
theorem d_H_needInput_4 : decode b_H_needInput 4 = .ok (.iload_n 0, 1) := by decide +kernel
theorem d_H_needInput_5 : decode b_H_needInput 5 = .ok (.bipush 10, 2) := by decide +kernel
theorem d_H_needInput_7 : decode b_H_needInput 7 = .ok (.if_icmp .lt 13, 3) := by decide +kernel
theorem d_H_needInput_10 : decode b_H_needInput 10 = .ok (.new 134, 3) := by decide +kernel
theorem d_H_needInput_13 : decode b_H_needInput 13 = .ok (.dup, 1) := by decide +kernel
theorem d_H_needInput_14 : decode b_H_needInput 14 = .ok (.ldc 136, 2) := by decide +kernel
theorem d_H_needInput_16 : decode b_H_needInput 16 = .ok (.invokespecial 138, 3) := by decide +kernel
theorem d_H_needInput_19 : decode b_H_needInput 19 = .ok (.athrow, 1) := by decide +kernel
theorem d_H_needInput_20 : decode b_H_needInput 20 = .ok (.return_, 1) := by decide +kernel
theorem d_H_needTruth_0 : decode b_H_needTruth 0 = .ok (.iload_n 0, 1) := by decide +kernel
theorem d_H_needTruth_1 : decode b_H_needTruth 1 = .ok (.ifCond .eq 18, 3) := by decide +kernel
theorem d_H_needTruth_4 : decode b_H_needTruth 4 = .ok (.iload_n 0, 1) := by decide +kernel
theorem d_H_needTruth_5 : decode b_H_needTruth 5 = .ok (.iconst 1, 1) := by decide +kernel
theorem d_H_needTruth_6 : decode b_H_needTruth 6 = .ok (.if_icmp .eq 13, 3) := by decide +kernel
theorem d_H_needTruth_9 : decode b_H_needTruth 9 = .ok (.new 134, 3) := by decide +kernel
theorem d_H_needTruth_12 : decode b_H_needTruth 12 = .ok (.dup, 1) := by decide +kernel
theorem d_H_needTruth_13 : decode b_H_needTruth 13 = .ok (.ldc 139, 2) := by decide +kernel
theorem d_H_needTruth_15 : decode b_H_needTruth 15 = .ok (.invokespecial 138, 3) := by decide +kernel
theorem d_H_needTruth_18 : decode b_H_needTruth 18 = .ok (.athrow, 1) := by decide +kernel
theorem d_H_needTruth_19 : decode b_H_needTruth 19 = .ok (.return_, 1) := by decide +kernel
theorem d_H_needBelow_0 : decode b_H_needBelow 0 = .ok (.iload_n 0, 1) := by decide +kernel
theorem d_H_needBelow_1 : decode b_H_needBelow 1 = .ok (.ifCond .lt 8, 3) := by decide +kernel
theorem d_H_needBelow_4 : decode b_H_needBelow 4 = .ok (.iload_n 0, 1) := by decide +kernel
theorem d_H_needBelow_5 : decode b_H_needBelow 5 = .ok (.iload_n 1, 1) := by decide +kernel
theorem d_H_needBelow_6 : decode b_H_needBelow 6 = .ok (.if_icmp .lt 13, 3) := by decide +kernel
theorem d_H_needBelow_9 : decode b_H_needBelow 9 = .ok (.new 134, 3) := by decide +kernel
theorem d_H_needBelow_12 : decode b_H_needBelow 12 = .ok (.dup, 1) := by decide +kernel
theorem d_H_needBelow_13 : decode b_H_needBelow 13 = .ok (.ldc 141, 2) := by decide +kernel
theorem d_H_needBelow_15 : decode b_H_needBelow 15 = .ok (.invokespecial 138, 3) := by decide +kernel
theorem d_H_needBelow_18 : decode b_H_needBelow 18 = .ok (.athrow, 1) := by decide +kernel
theorem d_H_needBelow_19 : decode b_H_needBelow 19 = .ok (.return_, 1) := by decide +kernel
