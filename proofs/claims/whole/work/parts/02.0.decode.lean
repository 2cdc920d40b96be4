theorem dX0_init_0 : decode cX0_init 0 = .ok (.aload_n 0, 1) := by decide +kernel
theorem dX0_init_1 : decode cX0_init 1 = .ok (.invokespecial 3, 3) := by decide +kernel
theorem dX0_init_4 : decode cX0_init 4 = .ok (.aload_n 0, 1) := by decide +kernel
theorem dX0_init_5 : decode cX0_init 5 = .ok (.bipush 10, 2) := by decide +kernel
theorem dX0_init_7 : decode cX0_init 7 = .ok (.newarray .int, 2) := by decide +kernel
theorem dX0_init_9 : decode cX0_init 9 = .ok (.putfield 9, 3) := by decide +kernel
theorem dX0_init_12 : decode cX0_init 12 = .ok (.aload_n 0, 1) := by decide +kernel
theorem dX0_init_13 : decode cX0_init 13 = .ok (.iconst 0, 1) := by decide +kernel
theorem dX0_init_14 : decode cX0_init 14 = .ok (.putfield 15, 3) := by decide +kernel
theorem dX0_init_17 : decode cX0_init 17 = .ok (.return_, 1) := by decide +kernel
theorem dX0_empty_0 : decode cX0_empty 0 = .ok (.aload_n 0, 1) := by decide +kernel
theorem dX0_empty_1 : decode cX0_empty 1 = .ok (.iconst 0, 1) := by decide +kernel
theorem dX0_empty_2 : decode cX0_empty 2 = .ok (.putfield 15, 3) := by decide +kernel
theorem dX0_empty_5 : decode cX0_empty 5 = .ok (.return_, 1) := by decide +kernel
theorem dX0_add_0 : decode cX0_add 0 = .ok (.aload_n 0, 1) := by decide +kernel
theorem dX0_add_1 : decode cX0_add 1 = .ok (.getfield 15, 3) := by decide +kernel
theorem dX0_add_4 : decode cX0_add 4 = .ok (.bipush 10, 2) := by decide +kernel
theorem dX0_add_6 : decode cX0_add 6 = .ok (.if_icmp .ne 28, 3) := by decide +kernel
theorem dX0_add_9 : decode cX0_add 9 = .ok (.aload_n 0, 1) := by decide +kernel
theorem dX0_add_10 : decode cX0_add 10 = .ok (.getfield 9, 3) := by decide +kernel
theorem dX0_add_13 : decode cX0_add 13 = .ok (.iconst 1, 1) := by decide +kernel
theorem dX0_add_14 : decode cX0_add 14 = .ok (.aload_n 0, 1) := by decide +kernel
theorem dX0_add_15 : decode cX0_add 15 = .ok (.getfield 9, 3) := by decide +kernel
theorem dX0_add_18 : decode cX0_add 18 = .ok (.iconst 0, 1) := by decide +kernel
theorem dX0_add_19 : decode cX0_add 19 = .ok (.bipush 9, 2) := by decide +kernel
theorem dX0_add_21 : decode cX0_add 21 = .ok (.invokestatic 19, 3) := by decide +kernel
theorem dX0_add_24 : decode cX0_add 24 = .ok (.aload_n 0, 1) := by decide +kernel
theorem dX0_add_25 : decode cX0_add 25 = .ok (.dup, 1) := by decide +kernel
theorem dX0_add_26 : decode cX0_add 26 = .ok (.getfield 15, 3) := by decide +kernel
theorem dX0_add_29 : decode cX0_add 29 = .ok (.iconst 1, 1) := by decide +kernel
theorem dX0_add_30 : decode cX0_add 30 = .ok (.isub, 1) := by decide +kernel
theorem dX0_add_31 : decode cX0_add 31 = .ok (.putfield 15, 3) := by decide +kernel
theorem dX0_add_34 : decode cX0_add 34 = .ok (.aload_n 0, 1) := by decide +kernel
theorem dX0_add_35 : decode cX0_add 35 = .ok (.getfield 15, 3) := by decide +kernel
theorem dX0_add_38 : decode cX0_add 38 = .ok (.bipush 10, 2) := by decide +kernel
theorem dX0_add_40 : decode cX0_add 40 = .ok (.invokestatic 25, 3) := by decide +kernel
theorem dX0_add_43 : decode cX0_add 43 = .ok (.ifCond .eq 23, 3) := by decide +kernel
theorem dX0_add_46 : decode cX0_add 46 = .ok (.aload_n 0, 1) := by decide +kernel
theorem dX0_add_47 : decode cX0_add 47 = .ok (.getfield 9, 3) := by decide +kernel
theorem dX0_add_50 : decode cX0_add 50 = .ok (.aload_n 0, 1) := by decide +kernel
theorem dX0_add_51 : decode cX0_add 51 = .ok (.getfield 15, 3) := by decide +kernel
theorem dX0_add_54 : decode cX0_add 54 = .ok (.iload_n 1, 1) := by decide +kernel
theorem dX0_add_55 : decode cX0_add 55 = .ok (.iastore, 1) := by decide +kernel
theorem dX0_add_56 : decode cX0_add 56 = .ok (.aload_n 0, 1) := by decide +kernel
theorem dX0_add_57 : decode cX0_add 57 = .ok (.dup, 1) := by decide +kernel
theorem dX0_add_58 : decode cX0_add 58 = .ok (.getfield 15, 3) := by decide +kernel
theorem dX0_add_61 : decode cX0_add 61 = .ok (.iconst 1, 1) := by decide +kernel
theorem dX0_add_62 : decode cX0_add 62 = .ok (.iadd, 1) := by decide +kernel
theorem dX0_add_63 : decode cX0_add 63 = .ok (.putfield 15, 3) := by decide +kernel
theorem dX0_add_66 : decode cX0_add 66 = .ok (.return_, 1) := by decide +kernel
theorem dX0_takeLatest_0 : decode cX0_takeLatest 0 = .ok (.aload_n 0, 1) := by decide +kernel
theorem dX0_takeLatest_1 : decode cX0_takeLatest 1 = .ok (.getfield 15, 3) := by decide +kernel
theorem dX0_takeLatest_4 : decode cX0_takeLatest 4 = .ok (.iconst 1, 1) := by decide +kernel
theorem dX0_takeLatest_5 : decode cX0_takeLatest 5 = .ok (.isub, 1) := by decide +kernel
theorem dX0_takeLatest_6 : decode cX0_takeLatest 6 = .ok (.bipush 10, 2) := by decide +kernel
theorem dX0_takeLatest_8 : decode cX0_takeLatest 8 = .ok (.invokestatic 25, 3) := by decide +kernel
theorem dX0_takeLatest_11 : decode cX0_takeLatest 11 = .ok (.ifCond .ne 6, 3) := by decide +kernel
theorem dX0_takeLatest_14 : decode cX0_takeLatest 14 = .ok (.bipush (-9), 2) := by decide +kernel
theorem dX0_takeLatest_16 : decode cX0_takeLatest 16 = .ok (.ireturn, 1) := by decide +kernel
theorem dX0_takeLatest_17 : decode cX0_takeLatest 17 = .ok (.aload_n 0, 1) := by decide +kernel
theorem dX0_takeLatest_18 : decode cX0_takeLatest 18 = .ok (.dup, 1) := by decide +kernel
theorem dX0_takeLatest_19 : decode cX0_takeLatest 19 = .ok (.getfield 15, 3) := by decide +kernel
theorem dX0_takeLatest_22 : decode cX0_takeLatest 22 = .ok (.iconst 1, 1) := by decide +kernel
theorem dX0_takeLatest_23 : decode cX0_takeLatest 23 = .ok (.isub, 1) := by decide +kernel
theorem dX0_takeLatest_24 : decode cX0_takeLatest 24 = .ok (.putfield 15, 3) := by decide +kernel
theorem dX0_takeLatest_27 : decode cX0_takeLatest 27 = .ok (.aload_n 0, 1) := by decide +kernel
theorem dX0_takeLatest_28 : decode cX0_takeLatest 28 = .ok (.getfield 9, 3) := by decide +kernel
theorem dX0_takeLatest_31 : decode cX0_takeLatest 31 = .ok (.aload_n 0, 1) := by decide +kernel
theorem dX0_takeLatest_32 : decode cX0_takeLatest 32 = .ok (.getfield 15, 3) := by decide +kernel
theorem dX0_takeLatest_35 : decode cX0_takeLatest 35 = .ok (.iaload, 1) := by decide +kernel
theorem dX0_takeLatest_36 : decode cX0_takeLatest 36 = .ok (.ireturn, 1) := by decide +kernel
theorem dX1_init_0 : decode cX1_init 0 = .ok (.aload_n 0, 1) := by decide +kernel
theorem dX1_init_1 : decode cX1_init 1 = .ok (.invokespecial 3, 3) := by decide +kernel
theorem dX1_init_4 : decode cX1_init 4 = .ok (.aload_n 0, 1) := by decide +kernel
theorem dX1_init_5 : decode cX1_init 5 = .ok (.bipush 9, 2) := by decide +kernel
theorem dX1_init_7 : decode cX1_init 7 = .ok (.newarray .int, 2) := by decide +kernel
theorem dX1_init_9 : decode cX1_init 9 = .ok (.putfield 9, 3) := by decide +kernel
theorem dX1_init_12 : decode cX1_init 12 = .ok (.aload_n 0, 1) := by decide +kernel
theorem dX1_init_13 : decode cX1_init 13 = .ok (.bipush 9, 2) := by decide +kernel
theorem dX1_init_15 : decode cX1_init 15 = .ok (.newarray .int, 2) := by decide +kernel
theorem dX1_init_17 : decode cX1_init 17 = .ok (.putfield 15, 3) := by decide +kernel
theorem dX1_init_20 : decode cX1_init 20 = .ok (.aload_n 0, 1) := by decide +kernel
theorem dX1_init_21 : decode cX1_init 21 = .ok (.iconst 0, 1) := by decide +kernel
theorem dX1_init_22 : decode cX1_init 22 = .ok (.putfield 18, 3) := by decide +kernel
theorem dX1_init_25 : decode cX1_init 25 = .ok (.return_, 1) := by decide +kernel
theorem dX1_copyFrom_0 : decode cX1_copyFrom 0 = .ok (.aload_n 1, 1) := by decide +kernel
theorem dX1_copyFrom_1 : decode cX1_copyFrom 1 = .ok (.getfield 9, 3) := by decide +kernel
theorem dX1_copyFrom_4 : decode cX1_copyFrom 4 = .ok (.iconst 0, 1) := by decide +kernel
theorem dX1_copyFrom_5 : decode cX1_copyFrom 5 = .ok (.aload_n 0, 1) := by decide +kernel
theorem dX1_copyFrom_6 : decode cX1_copyFrom 6 = .ok (.getfield 9, 3) := by decide +kernel
theorem dX1_copyFrom_9 : decode cX1_copyFrom 9 = .ok (.iconst 0, 1) := by decide +kernel
theorem dX1_copyFrom_10 : decode cX1_copyFrom 10 = .ok (.bipush 9, 2) := by decide +kernel
theorem dX1_copyFrom_12 : decode cX1_copyFrom 12 = .ok (.invokestatic 22, 3) := by decide +kernel
theorem dX1_copyFrom_15 : decode cX1_copyFrom 15 = .ok (.aload_n 1, 1) := by decide +kernel
theorem dX1_copyFrom_16 : decode cX1_copyFrom 16 = .ok (.getfield 15, 3) := by decide +kernel
theorem dX1_copyFrom_19 : decode cX1_copyFrom 19 = .ok (.iconst 0, 1) := by decide +kernel
theorem dX1_copyFrom_20 : decode cX1_copyFrom 20 = .ok (.aload_n 0, 1) := by decide +kernel
theorem dX1_copyFrom_21 : decode cX1_copyFrom 21 = .ok (.getfield 15, 3) := by decide +kernel
theorem dX1_copyFrom_24 : decode cX1_copyFrom 24 = .ok (.iconst 0, 1) := by decide +kernel
theorem dX1_copyFrom_25 : decode cX1_copyFrom 25 = .ok (.bipush 9, 2) := by decide +kernel
theorem dX1_copyFrom_27 : decode cX1_copyFrom 27 = .ok (.invokestatic 22, 3) := by decide +kernel
theorem dX1_copyFrom_30 : decode cX1_copyFrom 30 = .ok (.aload_n 0, 1) := by decide +kernel
theorem dX1_copyFrom_31 : decode cX1_copyFrom 31 = .ok (.aload_n 1, 1) := by decide +kernel
theorem dX1_copyFrom_32 : decode cX1_copyFrom 32 = .ok (.getfield 18, 3) := by decide +kernel
theorem dX1_copyFrom_35 : decode cX1_copyFrom 35 = .ok (.putfield 18, 3) := by decide +kernel
theorem dX1_copyFrom_38 : decode cX1_copyFrom 38 = .ok (.return_, 1) := by decide +kernel
theorem dX1_hasOn_0 : decode cX1_hasOn 0 = .ok (.aload_n 0, 1) := by decide +kernel
theorem dX1_hasOn_1 : decode cX1_hasOn 1 = .ok (.getfield 18, 3) := by decide +kernel
theorem dX1_hasOn_4 : decode cX1_hasOn 4 = .ok (.iload_n 1, 1) := by decide +kernel
theorem dX1_hasOn_5 : decode cX1_hasOn 5 = .ok (.invokestatic 28, 3) := by decide +kernel
theorem dX1_hasOn_8 : decode cX1_hasOn 8 = .ok (.ireturn, 1) := by decide +kernel
theorem dX1_apply_0 : decode cX1_apply 0 = .ok (.iload_n 1, 1) := by decide +kernel
theorem dX1_apply_1 : decode cX1_apply 1 = .ok (.sipush 200, 3) := by decide +kernel
theorem dX1_apply_4 : decode cX1_apply 4 = .ok (.if_icmp .lt 24, 3) := by decide +kernel
theorem dX1_apply_7 : decode cX1_apply 7 = .ok (.aload_n 0, 1) := by decide +kernel
theorem dX1_apply_8 : decode cX1_apply 8 = .ok (.iload_n 1, 1) := by decide +kernel
theorem dX1_apply_9 : decode cX1_apply 9 = .ok (.sipush 200, 3) := by decide +kernel
theorem dX1_apply_12 : decode cX1_apply 12 = .ok (.isub, 1) := by decide +kernel
theorem dX1_apply_13 : decode cX1_apply 13 = .ok (.iconst 4, 1) := by decide +kernel
theorem dX1_apply_14 : decode cX1_apply 14 = .ok (.idiv, 1) := by decide +kernel
theorem dX1_apply_15 : decode cX1_apply 15 = .ok (.iload_n 1, 1) := by decide +kernel
theorem dX1_apply_16 : decode cX1_apply 16 = .ok (.sipush 200, 3) := by decide +kernel
theorem dX1_apply_19 : decode cX1_apply 19 = .ok (.isub, 1) := by decide +kernel
theorem dX1_apply_20 : decode cX1_apply 20 = .ok (.iconst 4, 1) := by decide +kernel
theorem dX1_apply_21 : decode cX1_apply 21 = .ok (.irem, 1) := by decide +kernel
theorem dX1_apply_22 : decode cX1_apply 22 = .ok (.invokevirtual 32, 3) := by decide +kernel
theorem dX1_apply_25 : decode cX1_apply 25 = .ok (.goto 37, 3) := by decide +kernel
theorem dX1_apply_28 : decode cX1_apply 28 = .ok (.iload_n 1, 1) := by decide +kernel
theorem dX1_apply_29 : decode cX1_apply 29 = .ok (.bipush 100, 2) := by decide +kernel
theorem dX1_apply_31 : decode cX1_apply 31 = .ok (.if_icmp .lt 21, 3) := by decide +kernel
theorem dX1_apply_34 : decode cX1_apply 34 = .ok (.aload_n 0, 1) := by decide +kernel
theorem dX1_apply_35 : decode cX1_apply 35 = .ok (.dup, 1) := by decide +kernel
theorem dX1_apply_36 : decode cX1_apply 36 = .ok (.getfield 18, 3) := by decide +kernel
theorem dX1_apply_39 : decode cX1_apply 39 = .ok (.iconst 1, 1) := by decide +kernel
theorem dX1_apply_40 : decode cX1_apply 40 = .ok (.iload_n 1, 1) := by decide +kernel
theorem dX1_apply_41 : decode cX1_apply 41 = .ok (.bipush 100, 2) := by decide +kernel
theorem dX1_apply_43 : decode cX1_apply 43 = .ok (.isub, 1) := by decide +kernel
theorem dX1_apply_44 : decode cX1_apply 44 = .ok (.ishl, 1) := by decide +kernel
theorem dX1_apply_45 : decode cX1_apply 45 = .ok (.ixor, 1) := by decide +kernel
theorem dX1_apply_46 : decode cX1_apply 46 = .ok (.putfield 18, 3) := by decide +kernel
theorem dX1_apply_49 : decode cX1_apply 49 = .ok (.goto 13, 3) := by decide +kernel
theorem dX1_apply_52 : decode cX1_apply 52 = .ok (.aload_n 0, 1) := by decide +kernel
theorem dX1_apply_53 : decode cX1_apply 53 = .ok (.iload_n 1, 1) := by decide +kernel
theorem dX1_apply_54 : decode cX1_apply 54 = .ok (.iconst 4, 1) := by decide +kernel
theorem dX1_apply_55 : decode cX1_apply 55 = .ok (.idiv, 1) := by decide +kernel
theorem dX1_apply_56 : decode cX1_apply 56 = .ok (.iload_n 1, 1) := by decide +kernel
theorem dX1_apply_57 : decode cX1_apply 57 = .ok (.iconst 4, 1) := by decide +kernel
theorem dX1_apply_58 : decode cX1_apply 58 = .ok (.irem, 1) := by decide +kernel
theorem dX1_apply_59 : decode cX1_apply 59 = .ok (.invokevirtual 36, 3) := by decide +kernel
theorem dX1_apply_62 : decode cX1_apply 62 = .ok (.return_, 1) := by decide +kernel
theorem dX1_putTag_0 : decode cX1_putTag 0 = .ok (.iload_n 1, 1) := by decide +kernel
theorem dX1_putTag_1 : decode cX1_putTag 1 = .ok (.bipush 9, 2) := by decide +kernel
theorem dX1_putTag_3 : decode cX1_putTag 3 = .ok (.invokestatic 39, 3) := by decide +kernel
theorem dX1_putTag_6 : decode cX1_putTag 6 = .ok (.ifCond .eq 10, 3) := by decide +kernel
theorem dX1_putTag_9 : decode cX1_putTag 9 = .ok (.aload_n 0, 1) := by decide +kernel
theorem dX1_putTag_10 : decode cX1_putTag 10 = .ok (.getfield 9, 3) := by decide +kernel
theorem dX1_putTag_13 : decode cX1_putTag 13 = .ok (.iload_n 1, 1) := by decide +kernel
theorem dX1_putTag_14 : decode cX1_putTag 14 = .ok (.iload_n 2, 1) := by decide +kernel
theorem dX1_putTag_15 : decode cX1_putTag 15 = .ok (.iastore, 1) := by decide +kernel
theorem dX1_putTag_16 : decode cX1_putTag 16 = .ok (.return_, 1) := by decide +kernel
theorem dX1_flipClass_0 : decode cX1_flipClass 0 = .ok (.iload_n 1, 1) := by decide +kernel
theorem dX1_flipClass_1 : decode cX1_flipClass 1 = .ok (.bipush 9, 2) := by decide +kernel
theorem dX1_flipClass_3 : decode cX1_flipClass 3 = .ok (.invokestatic 39, 3) := by decide +kernel
theorem dX1_flipClass_6 : decode cX1_flipClass 6 = .ok (.ifCond .eq 15, 3) := by decide +kernel
theorem dX1_flipClass_9 : decode cX1_flipClass 9 = .ok (.aload_n 0, 1) := by decide +kernel
theorem dX1_flipClass_10 : decode cX1_flipClass 10 = .ok (.getfield 15, 3) := by decide +kernel
theorem dX1_flipClass_13 : decode cX1_flipClass 13 = .ok (.iload_n 1, 1) := by decide +kernel
theorem dX1_flipClass_14 : decode cX1_flipClass 14 = .ok (.dup2, 1) := by decide +kernel
theorem dX1_flipClass_15 : decode cX1_flipClass 15 = .ok (.iaload, 1) := by decide +kernel
theorem dX1_flipClass_16 : decode cX1_flipClass 16 = .ok (.iconst 1, 1) := by decide +kernel
theorem dX1_flipClass_17 : decode cX1_flipClass 17 = .ok (.iload_n 2, 1) := by decide +kernel
theorem dX1_flipClass_18 : decode cX1_flipClass 18 = .ok (.ishl, 1) := by decide +kernel
theorem dX1_flipClass_19 : decode cX1_flipClass 19 = .ok (.ixor, 1) := by decide +kernel
theorem dX1_flipClass_20 : decode cX1_flipClass 20 = .ok (.iastore, 1) := by decide +kernel
theorem dX1_flipClass_21 : decode cX1_flipClass 21 = .ok (.return_, 1) := by decide +kernel
theorem dX2_init_0 : decode cX2_init 0 = .ok (.aload_n 0, 1) := by decide +kernel
theorem dX2_init_1 : decode cX2_init 1 = .ok (.invokespecial 3, 3) := by decide +kernel
theorem dX2_init_4 : decode cX2_init 4 = .ok (.aload_n 0, 1) := by decide +kernel
theorem dX2_init_5 : decode cX2_init 5 = .ok (.iconst 0, 1) := by decide +kernel
theorem dX2_init_6 : decode cX2_init 6 = .ok (.newarray .char, 2) := by decide +kernel
theorem dX2_init_8 : decode cX2_init 8 = .ok (.putfield 9, 3) := by decide +kernel
theorem dX2_init_11 : decode cX2_init 11 = .ok (.aload_n 0, 1) := by decide +kernel
theorem dX2_init_12 : decode cX2_init 12 = .ok (.iconst 0, 1) := by decide +kernel
theorem dX2_init_13 : decode cX2_init 13 = .ok (.putfield 15, 3) := by decide +kernel
theorem dX2_init_16 : decode cX2_init 16 = .ok (.aload_n 0, 1) := by decide +kernel
theorem dX2_init_17 : decode cX2_init 17 = .ok (.iconst 0, 1) := by decide +kernel
theorem dX2_init_18 : decode cX2_init 18 = .ok (.putfield 19, 3) := by decide +kernel
theorem dX2_init_21 : decode cX2_init 21 = .ok (.aload_n 0, 1) := by decide +kernel
theorem dX2_init_22 : decode cX2_init 22 = .ok (.iconst 0, 1) := by decide +kernel
theorem dX2_init_23 : decode cX2_init 23 = .ok (.putfield 22, 3) := by decide +kernel
theorem dX2_init_26 : decode cX2_init 26 = .ok (.aload_n 0, 1) := by decide +kernel
theorem dX2_init_27 : decode cX2_init 27 = .ok (.iconst (-1), 1) := by decide +kernel
theorem dX2_init_28 : decode cX2_init 28 = .ok (.putfield 25, 3) := by decide +kernel
theorem dX2_init_31 : decode cX2_init 31 = .ok (.aload_n 0, 1) := by decide +kernel
theorem dX2_init_32 : decode cX2_init 32 = .ok (.new 28, 3) := by decide +kernel
theorem dX2_init_35 : decode cX2_init 35 = .ok (.dup, 1) := by decide +kernel
theorem dX2_init_36 : decode cX2_init 36 = .ok (.invokespecial 30, 3) := by decide +kernel
theorem dX2_init_39 : decode cX2_init 39 = .ok (.putfield 31, 3) := by decide +kernel
theorem dX2_init_42 : decode cX2_init 42 = .ok (.return_, 1) := by decide +kernel
theorem dX2_readAll_0 : decode cX2_readAll 0 = .ok (.aload_n 0, 1) := by decide +kernel
theorem dX2_readAll_1 : decode cX2_readAll 1 = .ok (.aload_n 1, 1) := by decide +kernel
theorem dX2_readAll_2 : decode cX2_readAll 2 = .ok (.putfield 9, 3) := by decide +kernel
theorem dX2_readAll_5 : decode cX2_readAll 5 = .ok (.aload_n 0, 1) := by decide +kernel
theorem dX2_readAll_6 : decode cX2_readAll 6 = .ok (.iload_n 2, 1) := by decide +kernel
theorem dX2_readAll_7 : decode cX2_readAll 7 = .ok (.aload_n 1, 1) := by decide +kernel
theorem dX2_readAll_8 : decode cX2_readAll 8 = .ok (.arraylength, 1) := by decide +kernel
theorem dX2_readAll_9 : decode cX2_readAll 9 = .ok (.invokestatic 35, 3) := by decide +kernel
theorem dX2_readAll_12 : decode cX2_readAll 12 = .ok (.putfield 15, 3) := by decide +kernel
theorem dX2_readAll_15 : decode cX2_readAll 15 = .ok (.aload_n 0, 1) := by decide +kernel
theorem dX2_readAll_16 : decode cX2_readAll 16 = .ok (.iconst 0, 1) := by decide +kernel
theorem dX2_readAll_17 : decode cX2_readAll 17 = .ok (.putfield 19, 3) := by decide +kernel
theorem dX2_readAll_20 : decode cX2_readAll 20 = .ok (.aload_n 0, 1) := by decide +kernel
theorem dX2_readAll_21 : decode cX2_readAll 21 = .ok (.getfield 31, 3) := by decide +kernel
theorem dX2_readAll_24 : decode cX2_readAll 24 = .ok (.invokevirtual 41, 3) := by decide +kernel
theorem dX2_readAll_27 : decode cX2_readAll 27 = .ok (.aload_n 0, 1) := by decide +kernel
theorem dX2_readAll_28 : decode cX2_readAll 28 = .ok (.invokevirtual 44, 3) := by decide +kernel
theorem dX2_readAll_31 : decode cX2_readAll 31 = .ok (.iconst 0, 1) := by decide +kernel
theorem dX2_readAll_32 : decode cX2_readAll 32 = .ok (.istore_n 3, 1) := by decide +kernel
theorem dX2_readAll_33 : decode cX2_readAll 33 = .ok (.iload_n 3, 1) := by decide +kernel
theorem dX2_readAll_34 : decode cX2_readAll 34 = .ok (.aload_n 0, 1) := by decide +kernel
theorem dX2_readAll_35 : decode cX2_readAll 35 = .ok (.getfield 15, 3) := by decide +kernel
theorem dX2_readAll_38 : decode cX2_readAll 38 = .ok (.if_icmp .gt 49, 3) := by decide +kernel
theorem dX2_readAll_41 : decode cX2_readAll 41 = .ok (.aload_n 0, 1) := by decide +kernel
theorem dX2_readAll_42 : decode cX2_readAll 42 = .ok (.getfield 25, 3) := by decide +kernel
theorem dX2_readAll_45 : decode cX2_readAll 45 = .ok (.iconst (-1), 1) := by decide +kernel
theorem dX2_readAll_46 : decode cX2_readAll 46 = .ok (.if_icmp .ne 5, 3) := by decide +kernel
theorem dX2_readAll_49 : decode cX2_readAll 49 = .ok (.iload_n 3, 1) := by decide +kernel
theorem dX2_readAll_50 : decode cX2_readAll 50 = .ok (.ireturn, 1) := by decide +kernel
theorem dX2_readAll_51 : decode cX2_readAll 51 = .ok (.aload_n 0, 1) := by decide +kernel
theorem dX2_readAll_52 : decode cX2_readAll 52 = .ok (.getfield 25, 3) := by decide +kernel
theorem dX2_readAll_55 : decode cX2_readAll 55 = .ok (.bipush 78, 2) := by decide +kernel
theorem dX2_readAll_57 : decode cX2_readAll 57 = .ok (.if_icmp .ne 10, 3) := by decide +kernel
theorem dX2_readAll_60 : decode cX2_readAll 60 = .ok (.aload_n 0, 1) := by decide +kernel
theorem dX2_readAll_61 : decode cX2_readAll 61 = .ok (.invokevirtual 47, 3) := by decide +kernel
theorem dX2_readAll_64 : decode cX2_readAll 64 = .ok (.goto 7, 3) := by decide +kernel
theorem dX2_readAll_67 : decode cX2_readAll 67 = .ok (.aload_n 0, 1) := by decide +kernel
theorem dX2_readAll_68 : decode cX2_readAll 68 = .ok (.invokevirtual 51, 3) := by decide +kernel
theorem dX2_readAll_71 : decode cX2_readAll 71 = .ok (.istore 4, 2) := by decide +kernel
theorem dX2_readAll_73 : decode cX2_readAll 73 = .ok (.iload 4, 2) := by decide +kernel
theorem dX2_readAll_75 : decode cX2_readAll 75 = .ok (.ifCond .ne 6, 3) := by decide +kernel
theorem dX2_readAll_78 : decode cX2_readAll 78 = .ok (.bipush (-9), 2) := by decide +kernel
theorem dX2_readAll_80 : decode cX2_readAll 80 = .ok (.ireturn, 1) := by decide +kernel
theorem dX2_readAll_81 : decode cX2_readAll 81 = .ok (.iinc 3 1, 3) := by decide +kernel
theorem dX2_readAll_84 : decode cX2_readAll 84 = .ok (.goto (-51), 3) := by decide +kernel
theorem dX2_readAll_87 : decode cX2_readAll 87 = .ok (.bipush (-9), 2) := by decide +kernel
theorem dX2_readAll_89 : decode cX2_readAll 89 = .ok (.ireturn, 1) := by decide +kernel
theorem dX2_exchange_0 : decode cX2_exchange 0 = .ok (.aload_n 0, 1) := by decide +kernel
theorem dX2_exchange_1 : decode cX2_exchange 1 = .ok (.getfield 31, 3) := by decide +kernel
theorem dX2_exchange_4 : decode cX2_exchange 4 = .ok (.astore_n 2, 1) := by decide +kernel
theorem dX2_exchange_5 : decode cX2_exchange 5 = .ok (.aload_n 0, 1) := by decide +kernel
theorem dX2_exchange_6 : decode cX2_exchange 6 = .ok (.aload_n 1, 1) := by decide +kernel
theorem dX2_exchange_7 : decode cX2_exchange 7 = .ok (.putfield 31, 3) := by decide +kernel
theorem dX2_exchange_10 : decode cX2_exchange 10 = .ok (.aload_n 2, 1) := by decide +kernel
theorem dX2_exchange_11 : decode cX2_exchange 11 = .ok (.areturn, 1) := by decide +kernel
theorem dX2_fault_0 : decode cX2_fault 0 = .ok (.aload_n 0, 1) := by decide +kernel
theorem dX2_fault_1 : decode cX2_fault 1 = .ok (.getfield 22, 3) := by decide +kernel
theorem dX2_fault_4 : decode cX2_fault 4 = .ok (.ireturn, 1) := by decide +kernel
theorem dX2_advance_0 : decode cX2_advance 0 = .ok (.aload_n 0, 1) := by decide +kernel
theorem dX2_advance_1 : decode cX2_advance 1 = .ok (.getfield 19, 3) := by decide +kernel
theorem dX2_advance_4 : decode cX2_advance 4 = .ok (.aload_n 0, 1) := by decide +kernel
theorem dX2_advance_5 : decode cX2_advance 5 = .ok (.getfield 15, 3) := by decide +kernel
theorem dX2_advance_8 : decode cX2_advance 8 = .ok (.if_icmp .ge 30, 3) := by decide +kernel
theorem dX2_advance_11 : decode cX2_advance 11 = .ok (.aload_n 0, 1) := by decide +kernel
theorem dX2_advance_12 : decode cX2_advance 12 = .ok (.getfield 9, 3) := by decide +kernel
theorem dX2_advance_15 : decode cX2_advance 15 = .ok (.aload_n 0, 1) := by decide +kernel
theorem dX2_advance_16 : decode cX2_advance 16 = .ok (.getfield 19, 3) := by decide +kernel
theorem dX2_advance_19 : decode cX2_advance 19 = .ok (.caload, 1) := by decide +kernel
theorem dX2_advance_20 : decode cX2_advance 20 = .ok (.bipush 32, 2) := by decide +kernel
theorem dX2_advance_22 : decode cX2_advance 22 = .ok (.if_icmp .ne 16, 3) := by decide +kernel
theorem dX2_advance_25 : decode cX2_advance 25 = .ok (.aload_n 0, 1) := by decide +kernel
theorem dX2_advance_26 : decode cX2_advance 26 = .ok (.dup, 1) := by decide +kernel
theorem dX2_advance_27 : decode cX2_advance 27 = .ok (.getfield 19, 3) := by decide +kernel
theorem dX2_advance_30 : decode cX2_advance 30 = .ok (.iconst 1, 1) := by decide +kernel
theorem dX2_advance_31 : decode cX2_advance 31 = .ok (.iadd, 1) := by decide +kernel
theorem dX2_advance_32 : decode cX2_advance 32 = .ok (.putfield 19, 3) := by decide +kernel
theorem dX2_advance_35 : decode cX2_advance 35 = .ok (.goto (-35), 3) := by decide +kernel
theorem dX2_advance_38 : decode cX2_advance 38 = .ok (.aload_n 0, 1) := by decide +kernel
theorem dX2_advance_39 : decode cX2_advance 39 = .ok (.aload_n 0, 1) := by decide +kernel
theorem dX2_advance_40 : decode cX2_advance 40 = .ok (.getfield 19, 3) := by decide +kernel
theorem dX2_advance_43 : decode cX2_advance 43 = .ok (.putfield 22, 3) := by decide +kernel
theorem dX2_advance_46 : decode cX2_advance 46 = .ok (.aload_n 0, 1) := by decide +kernel
theorem dX2_advance_47 : decode cX2_advance 47 = .ok (.getfield 19, 3) := by decide +kernel
theorem dX2_advance_50 : decode cX2_advance 50 = .ok (.aload_n 0, 1) := by decide +kernel
theorem dX2_advance_51 : decode cX2_advance 51 = .ok (.getfield 15, 3) := by decide +kernel
theorem dX2_advance_54 : decode cX2_advance 54 = .ok (.if_icmp .lt 9, 3) := by decide +kernel
theorem dX2_advance_57 : decode cX2_advance 57 = .ok (.aload_n 0, 1) := by decide +kernel
theorem dX2_advance_58 : decode cX2_advance 58 = .ok (.iconst (-1), 1) := by decide +kernel
theorem dX2_advance_59 : decode cX2_advance 59 = .ok (.putfield 25, 3) := by decide +kernel
theorem dX2_advance_62 : decode cX2_advance 62 = .ok (.return_, 1) := by decide +kernel
theorem dX2_advance_63 : decode cX2_advance 63 = .ok (.aload_n 0, 1) := by decide +kernel
theorem dX2_advance_64 : decode cX2_advance 64 = .ok (.aload_n 0, 1) := by decide +kernel
theorem dX2_advance_65 : decode cX2_advance 65 = .ok (.getfield 9, 3) := by decide +kernel
theorem dX2_advance_68 : decode cX2_advance 68 = .ok (.aload_n 0, 1) := by decide +kernel
theorem dX2_advance_69 : decode cX2_advance 69 = .ok (.getfield 19, 3) := by decide +kernel
theorem dX2_advance_72 : decode cX2_advance 72 = .ok (.caload, 1) := by decide +kernel
theorem dX2_advance_73 : decode cX2_advance 73 = .ok (.putfield 25, 3) := by decide +kernel
theorem dX2_advance_76 : decode cX2_advance 76 = .ok (.aload_n 0, 1) := by decide +kernel
theorem dX2_advance_77 : decode cX2_advance 77 = .ok (.dup, 1) := by decide +kernel
theorem dX2_advance_78 : decode cX2_advance 78 = .ok (.getfield 19, 3) := by decide +kernel
theorem dX2_advance_81 : decode cX2_advance 81 = .ok (.iconst 1, 1) := by decide +kernel
theorem dX2_advance_82 : decode cX2_advance 82 = .ok (.iadd, 1) := by decide +kernel
theorem dX2_advance_83 : decode cX2_advance 83 = .ok (.putfield 19, 3) := by decide +kernel
theorem dX2_advance_86 : decode cX2_advance 86 = .ok (.aload_n 0, 1) := by decide +kernel
theorem dX2_advance_87 : decode cX2_advance 87 = .ok (.getfield 19, 3) := by decide +kernel
theorem dX2_advance_90 : decode cX2_advance 90 = .ok (.aload_n 0, 1) := by decide +kernel
theorem dX2_advance_91 : decode cX2_advance 91 = .ok (.getfield 15, 3) := by decide +kernel
theorem dX2_advance_94 : decode cX2_advance 94 = .ok (.if_icmp .ge 44, 3) := by decide +kernel
theorem dX2_advance_97 : decode cX2_advance 97 = .ok (.aload_n 0, 1) := by decide +kernel
theorem dX2_advance_98 : decode cX2_advance 98 = .ok (.aload_n 0, 1) := by decide +kernel
theorem dX2_advance_99 : decode cX2_advance 99 = .ok (.getfield 22, 3) := by decide +kernel
theorem dX2_advance_102 : decode cX2_advance 102 = .ok (.invokevirtual 54, 3) := by decide +kernel
theorem dX2_advance_105 : decode cX2_advance 105 = .ok (.ifCond .eq 33, 3) := by decide +kernel
theorem dX2_advance_108 : decode cX2_advance 108 = .ok (.aload_n 0, 1) := by decide +kernel
theorem dX2_advance_109 : decode cX2_advance 109 = .ok (.aload_n 0, 1) := by decide +kernel
theorem dX2_advance_110 : decode cX2_advance 110 = .ok (.getfield 19, 3) := by decide +kernel
theorem dX2_advance_113 : decode cX2_advance 113 = .ok (.invokevirtual 54, 3) := by decide +kernel
theorem dX2_advance_116 : decode cX2_advance 116 = .ok (.ifCond .eq 22, 3) := by decide +kernel
theorem dX2_advance_119 : decode cX2_advance 119 = .ok (.aload_n 0, 1) := by decide +kernel
theorem dX2_advance_120 : decode cX2_advance 120 = .ok (.bipush (-2), 2) := by decide +kernel
theorem dX2_advance_122 : decode cX2_advance 122 = .ok (.putfield 25, 3) := by decide +kernel
theorem dX2_advance_125 : decode cX2_advance 125 = .ok (.aload_n 0, 1) := by decide +kernel
theorem dX2_advance_126 : decode cX2_advance 126 = .ok (.dup, 1) := by decide +kernel
theorem dX2_advance_127 : decode cX2_advance 127 = .ok (.getfield 19, 3) := by decide +kernel
theorem dX2_advance_130 : decode cX2_advance 130 = .ok (.iconst 1, 1) := by decide +kernel
theorem dX2_advance_131 : decode cX2_advance 131 = .ok (.iadd, 1) := by decide +kernel
theorem dX2_advance_132 : decode cX2_advance 132 = .ok (.putfield 19, 3) := by decide +kernel
theorem dX2_advance_135 : decode cX2_advance 135 = .ok (.goto (-49), 3) := by decide +kernel
theorem dX2_advance_138 : decode cX2_advance 138 = .ok (.return_, 1) := by decide +kernel
theorem dX2_isDigitAt_0 : decode cX2_isDigitAt 0 = .ok (.iload_n 1, 1) := by decide +kernel
theorem dX2_isDigitAt_1 : decode cX2_isDigitAt 1 = .ok (.aload_n 0, 1) := by decide +kernel
theorem dX2_isDigitAt_2 : decode cX2_isDigitAt 2 = .ok (.getfield 15, 3) := by decide +kernel
theorem dX2_isDigitAt_5 : decode cX2_isDigitAt 5 = .ok (.if_icmp .ge 29, 3) := by decide +kernel
theorem dX2_isDigitAt_8 : decode cX2_isDigitAt 8 = .ok (.aload_n 0, 1) := by decide +kernel
theorem dX2_isDigitAt_9 : decode cX2_isDigitAt 9 = .ok (.getfield 9, 3) := by decide +kernel
theorem dX2_isDigitAt_12 : decode cX2_isDigitAt 12 = .ok (.iload_n 1, 1) := by decide +kernel
theorem dX2_isDigitAt_13 : decode cX2_isDigitAt 13 = .ok (.caload, 1) := by decide +kernel
theorem dX2_isDigitAt_14 : decode cX2_isDigitAt 14 = .ok (.bipush 48, 2) := by decide +kernel
theorem dX2_isDigitAt_16 : decode cX2_isDigitAt 16 = .ok (.if_icmp .lt 18, 3) := by decide +kernel
theorem dX2_isDigitAt_19 : decode cX2_isDigitAt 19 = .ok (.aload_n 0, 1) := by decide +kernel
theorem dX2_isDigitAt_20 : decode cX2_isDigitAt 20 = .ok (.getfield 9, 3) := by decide +kernel
theorem dX2_isDigitAt_23 : decode cX2_isDigitAt 23 = .ok (.iload_n 1, 1) := by decide +kernel
theorem dX2_isDigitAt_24 : decode cX2_isDigitAt 24 = .ok (.caload, 1) := by decide +kernel
theorem dX2_isDigitAt_25 : decode cX2_isDigitAt 25 = .ok (.bipush 57, 2) := by decide +kernel
theorem dX2_isDigitAt_27 : decode cX2_isDigitAt 27 = .ok (.if_icmp .gt 7, 3) := by decide +kernel
theorem dX2_isDigitAt_30 : decode cX2_isDigitAt 30 = .ok (.iconst 1, 1) := by decide +kernel
theorem dX2_isDigitAt_31 : decode cX2_isDigitAt 31 = .ok (.goto 4, 3) := by decide +kernel
theorem dX2_isDigitAt_34 : decode cX2_isDigitAt 34 = .ok (.iconst 0, 1) := by decide +kernel
theorem dX2_isDigitAt_35 : decode cX2_isDigitAt 35 = .ok (.ireturn, 1) := by decide +kernel
theorem dX2_isDigit_0 : decode cX2_isDigit 0 = .ok (.aload_n 0, 1) := by decide +kernel
theorem dX2_isDigit_1 : decode cX2_isDigit 1 = .ok (.getfield 25, 3) := by decide +kernel
theorem dX2_isDigit_4 : decode cX2_isDigit 4 = .ok (.bipush 48, 2) := by decide +kernel
theorem dX2_isDigit_6 : decode cX2_isDigit 6 = .ok (.if_icmp .lt 16, 3) := by decide +kernel
theorem dX2_isDigit_9 : decode cX2_isDigit 9 = .ok (.aload_n 0, 1) := by decide +kernel
theorem dX2_isDigit_10 : decode cX2_isDigit 10 = .ok (.getfield 25, 3) := by decide +kernel
theorem dX2_isDigit_13 : decode cX2_isDigit 13 = .ok (.bipush 57, 2) := by decide +kernel
theorem dX2_isDigit_15 : decode cX2_isDigit 15 = .ok (.if_icmp .gt 7, 3) := by decide +kernel
theorem dX2_isDigit_18 : decode cX2_isDigit 18 = .ok (.iconst 1, 1) := by decide +kernel
theorem dX2_isDigit_19 : decode cX2_isDigit 19 = .ok (.goto 4, 3) := by decide +kernel
theorem dX2_isDigit_22 : decode cX2_isDigit 22 = .ok (.iconst 0, 1) := by decide +kernel
theorem dX2_isDigit_23 : decode cX2_isDigit 23 = .ok (.ireturn, 1) := by decide +kernel
theorem dX2_isTag_0 : decode cX2_isTag 0 = .ok (.aload_n 0, 1) := by decide +kernel
theorem dX2_isTag_1 : decode cX2_isTag 1 = .ok (.getfield 25, 3) := by decide +kernel
theorem dX2_isTag_4 : decode cX2_isTag 4 = .ok (.bipush 97, 2) := by decide +kernel
theorem dX2_isTag_6 : decode cX2_isTag 6 = .ok (.if_icmp .lt 16, 3) := by decide +kernel
theorem dX2_isTag_9 : decode cX2_isTag 9 = .ok (.aload_n 0, 1) := by decide +kernel
theorem dX2_isTag_10 : decode cX2_isTag 10 = .ok (.getfield 25, 3) := by decide +kernel
theorem dX2_isTag_13 : decode cX2_isTag 13 = .ok (.bipush 100, 2) := by decide +kernel
theorem dX2_isTag_15 : decode cX2_isTag 15 = .ok (.if_icmp .gt 7, 3) := by decide +kernel
theorem dX2_isTag_18 : decode cX2_isTag 18 = .ok (.iconst 1, 1) := by decide +kernel
theorem dX2_isTag_19 : decode cX2_isTag 19 = .ok (.goto 4, 3) := by decide +kernel
theorem dX2_isTag_22 : decode cX2_isTag 22 = .ok (.iconst 0, 1) := by decide +kernel
theorem dX2_isTag_23 : decode cX2_isTag 23 = .ok (.ireturn, 1) := by decide +kernel
theorem dX2_isClass_0 : decode cX2_isClass 0 = .ok (.aload_n 0, 1) := by decide +kernel
theorem dX2_isClass_1 : decode cX2_isClass 1 = .ok (.getfield 25, 3) := by decide +kernel
theorem dX2_isClass_4 : decode cX2_isClass 4 = .ok (.bipush 112, 2) := by decide +kernel
theorem dX2_isClass_6 : decode cX2_isClass 6 = .ok (.if_icmp .lt 16, 3) := by decide +kernel
theorem dX2_isClass_9 : decode cX2_isClass 9 = .ok (.aload_n 0, 1) := by decide +kernel
theorem dX2_isClass_10 : decode cX2_isClass 10 = .ok (.getfield 25, 3) := by decide +kernel
theorem dX2_isClass_13 : decode cX2_isClass 13 = .ok (.bipush 115, 2) := by decide +kernel
theorem dX2_isClass_15 : decode cX2_isClass 15 = .ok (.if_icmp .gt 7, 3) := by decide +kernel
theorem dX2_isClass_18 : decode cX2_isClass 18 = .ok (.iconst 1, 1) := by decide +kernel
theorem dX2_isClass_19 : decode cX2_isClass 19 = .ok (.goto 4, 3) := by decide +kernel
theorem dX2_isClass_22 : decode cX2_isClass 22 = .ok (.iconst 0, 1) := by decide +kernel
theorem dX2_isClass_23 : decode cX2_isClass 23 = .ok (.ireturn, 1) := by decide +kernel
theorem dX2_isProperty_0 : decode cX2_isProperty 0 = .ok (.aload_n 0, 1) := by decide +kernel
theorem dX2_isProperty_1 : decode cX2_isProperty 1 = .ok (.getfield 25, 3) := by decide +kernel
theorem dX2_isProperty_4 : decode cX2_isProperty 4 = .ok (.bipush 119, 2) := by decide +kernel
theorem dX2_isProperty_6 : decode cX2_isProperty 6 = .ok (.if_icmp .lt 16, 3) := by decide +kernel
theorem dX2_isProperty_9 : decode cX2_isProperty 9 = .ok (.aload_n 0, 1) := by decide +kernel
theorem dX2_isProperty_10 : decode cX2_isProperty 10 = .ok (.getfield 25, 3) := by decide +kernel
theorem dX2_isProperty_13 : decode cX2_isProperty 13 = .ok (.bipush 122, 2) := by decide +kernel
theorem dX2_isProperty_15 : decode cX2_isProperty 15 = .ok (.if_icmp .gt 7, 3) := by decide +kernel
theorem dX2_isProperty_18 : decode cX2_isProperty 18 = .ok (.iconst 1, 1) := by decide +kernel
theorem dX2_isProperty_19 : decode cX2_isProperty 19 = .ok (.goto 4, 3) := by decide +kernel
theorem dX2_isProperty_22 : decode cX2_isProperty 22 = .ok (.iconst 0, 1) := by decide +kernel
theorem dX2_isProperty_23 : decode cX2_isProperty 23 = .ok (.ireturn, 1) := by decide +kernel
theorem dX2_isJoint_0 : decode cX2_isJoint 0 = .ok (.aload_n 0, 1) := by decide +kernel
theorem dX2_isJoint_1 : decode cX2_isJoint 1 = .ok (.getfield 25, 3) := by decide +kernel
theorem dX2_isJoint_4 : decode cX2_isJoint 4 = .ok (.bipush 62, 2) := by decide +kernel
theorem dX2_isJoint_6 : decode cX2_isJoint 6 = .ok (.if_icmp .eq 12, 3) := by decide +kernel
theorem dX2_isJoint_9 : decode cX2_isJoint 9 = .ok (.aload_n 0, 1) := by decide +kernel
theorem dX2_isJoint_10 : decode cX2_isJoint 10 = .ok (.getfield 25, 3) := by decide +kernel
theorem dX2_isJoint_13 : decode cX2_isJoint 13 = .ok (.bipush 47, 2) := by decide +kernel
theorem dX2_isJoint_15 : decode cX2_isJoint 15 = .ok (.if_icmp .ne 7, 3) := by decide +kernel
theorem dX2_isJoint_18 : decode cX2_isJoint 18 = .ok (.iconst 1, 1) := by decide +kernel
theorem dX2_isJoint_19 : decode cX2_isJoint 19 = .ok (.goto 4, 3) := by decide +kernel
theorem dX2_isJoint_22 : decode cX2_isJoint 22 = .ok (.iconst 0, 1) := by decide +kernel
theorem dX2_isJoint_23 : decode cX2_isJoint 23 = .ok (.ireturn, 1) := by decide +kernel
theorem dX2_take_0 : decode cX2_take 0 = .ok (.aload_n 0, 1) := by decide +kernel
theorem dX2_take_1 : decode cX2_take 1 = .ok (.getfield 25, 3) := by decide +kernel
theorem dX2_take_4 : decode cX2_take 4 = .ok (.iload_n 1, 1) := by decide +kernel
theorem dX2_take_5 : decode cX2_take 5 = .ok (.if_icmp .eq 5, 3) := by decide +kernel
theorem dX2_take_8 : decode cX2_take 8 = .ok (.iconst 0, 1) := by decide +kernel
theorem dX2_take_9 : decode cX2_take 9 = .ok (.ireturn, 1) := by decide +kernel
theorem dX2_take_10 : decode cX2_take 10 = .ok (.aload_n 0, 1) := by decide +kernel
theorem dX2_take_11 : decode cX2_take 11 = .ok (.invokevirtual 44, 3) := by decide +kernel
theorem dX2_take_14 : decode cX2_take 14 = .ok (.iconst 1, 1) := by decide +kernel
theorem dX2_take_15 : decode cX2_take 15 = .ok (.ireturn, 1) := by decide +kernel
theorem dX2_readNode_0 : decode cX2_readNode 0 = .ok (.aload_n 0, 1) := by decide +kernel
theorem dX2_readNode_1 : decode cX2_readNode 1 = .ok (.getfield 25, 3) := by decide +kernel
theorem dX2_readNode_4 : decode cX2_readNode 4 = .ok (.bipush 78, 2) := by decide +kernel
theorem dX2_readNode_6 : decode cX2_readNode 6 = .ok (.if_icmp .ne 15, 3) := by decide +kernel
theorem dX2_readNode_9 : decode cX2_readNode 9 = .ok (.aload_n 0, 1) := by decide +kernel
theorem dX2_readNode_10 : decode cX2_readNode 10 = .ok (.getfield 31, 3) := by decide +kernel
theorem dX2_readNode_13 : decode cX2_readNode 13 = .ok (.getfield 58, 3) := by decide +kernel
theorem dX2_readNode_16 : decode cX2_readNode 16 = .ok (.bipush 9, 2) := by decide +kernel
theorem dX2_readNode_18 : decode cX2_readNode 18 = .ok (.if_icmp .lt 5, 3) := by decide +kernel
theorem dX2_readNode_21 : decode cX2_readNode 21 = .ok (.iconst 0, 1) := by decide +kernel
theorem dX2_readNode_22 : decode cX2_readNode 22 = .ok (.ireturn, 1) := by decide +kernel
theorem dX2_readNode_23 : decode cX2_readNode 23 = .ok (.aload_n 0, 1) := by decide +kernel
theorem dX2_readNode_24 : decode cX2_readNode 24 = .ok (.invokevirtual 44, 3) := by decide +kernel
theorem dX2_readNode_27 : decode cX2_readNode 27 = .ok (.bipush (-9), 2) := by decide +kernel
theorem dX2_readNode_29 : decode cX2_readNode 29 = .ok (.istore_n 1, 1) := by decide +kernel
theorem dX2_readNode_30 : decode cX2_readNode 30 = .ok (.aload_n 0, 1) := by decide +kernel
theorem dX2_readNode_31 : decode cX2_readNode 31 = .ok (.getfield 31, 3) := by decide +kernel
theorem dX2_readNode_34 : decode cX2_readNode 34 = .ok (.getfield 58, 3) := by decide +kernel
theorem dX2_readNode_37 : decode cX2_readNode 37 = .ok (.ifCond .le 35, 3) := by decide +kernel
theorem dX2_readNode_40 : decode cX2_readNode 40 = .ok (.aload_n 0, 1) := by decide +kernel
theorem dX2_readNode_41 : decode cX2_readNode 41 = .ok (.getfield 25, 3) := by decide +kernel
theorem dX2_readNode_44 : decode cX2_readNode 44 = .ok (.bipush 48, 2) := by decide +kernel
theorem dX2_readNode_46 : decode cX2_readNode 46 = .ok (.isub, 1) := by decide +kernel
theorem dX2_readNode_47 : decode cX2_readNode 47 = .ok (.istore_n 1, 1) := by decide +kernel
theorem dX2_readNode_48 : decode cX2_readNode 48 = .ok (.aload_n 0, 1) := by decide +kernel
theorem dX2_readNode_49 : decode cX2_readNode 49 = .ok (.invokevirtual 61, 3) := by decide +kernel
theorem dX2_readNode_52 : decode cX2_readNode 52 = .ok (.ifCond .eq 14, 3) := by decide +kernel
theorem dX2_readNode_55 : decode cX2_readNode 55 = .ok (.iload_n 1, 1) := by decide +kernel
theorem dX2_readNode_56 : decode cX2_readNode 56 = .ok (.aload_n 0, 1) := by decide +kernel
theorem dX2_readNode_57 : decode cX2_readNode 57 = .ok (.getfield 31, 3) := by decide +kernel
theorem dX2_readNode_60 : decode cX2_readNode 60 = .ok (.getfield 58, 3) := by decide +kernel
theorem dX2_readNode_63 : decode cX2_readNode 63 = .ok (.if_icmp .lt 5, 3) := by decide +kernel
theorem dX2_readNode_66 : decode cX2_readNode 66 = .ok (.iconst 0, 1) := by decide +kernel
theorem dX2_readNode_67 : decode cX2_readNode 67 = .ok (.ireturn, 1) := by decide +kernel
theorem dX2_readNode_68 : decode cX2_readNode 68 = .ok (.aload_n 0, 1) := by decide +kernel
theorem dX2_readNode_69 : decode cX2_readNode 69 = .ok (.invokevirtual 44, 3) := by decide +kernel
theorem dX2_readNode_72 : decode cX2_readNode 72 = .ok (.aload_n 0, 1) := by decide +kernel
theorem dX2_readNode_73 : decode cX2_readNode 73 = .ok (.invokevirtual 64, 3) := by decide +kernel
theorem dX2_readNode_76 : decode cX2_readNode 76 = .ok (.ifCond .ne 5, 3) := by decide +kernel
theorem dX2_readNode_79 : decode cX2_readNode 79 = .ok (.iconst 0, 1) := by decide +kernel
theorem dX2_readNode_80 : decode cX2_readNode 80 = .ok (.ireturn, 1) := by decide +kernel
theorem dX2_readNode_81 : decode cX2_readNode 81 = .ok (.aload_n 0, 1) := by decide +kernel
theorem dX2_readNode_82 : decode cX2_readNode 82 = .ok (.getfield 25, 3) := by decide +kernel
theorem dX2_readNode_85 : decode cX2_readNode 85 = .ok (.bipush 97, 2) := by decide +kernel
theorem dX2_readNode_87 : decode cX2_readNode 87 = .ok (.isub, 1) := by decide +kernel
theorem dX2_readNode_88 : decode cX2_readNode 88 = .ok (.istore_n 2, 1) := by decide +kernel
theorem dX2_readNode_89 : decode cX2_readNode 89 = .ok (.aload_n 0, 1) := by decide +kernel
theorem dX2_readNode_90 : decode cX2_readNode 90 = .ok (.invokevirtual 44, 3) := by decide +kernel
theorem dX2_readNode_93 : decode cX2_readNode 93 = .ok (.iconst 0, 1) := by decide +kernel
theorem dX2_readNode_94 : decode cX2_readNode 94 = .ok (.istore_n 3, 1) := by decide +kernel
theorem dX2_readNode_95 : decode cX2_readNode 95 = .ok (.iconst 0, 1) := by decide +kernel
theorem dX2_readNode_96 : decode cX2_readNode 96 = .ok (.istore 4, 2) := by decide +kernel
theorem dX2_readNode_98 : decode cX2_readNode 98 = .ok (.iload 4, 2) := by decide +kernel
theorem dX2_readNode_100 : decode cX2_readNode 100 = .ok (.iconst 4, 1) := by decide +kernel
theorem dX2_readNode_101 : decode cX2_readNode 101 = .ok (.if_icmp .ge 45, 3) := by decide +kernel
theorem dX2_readNode_104 : decode cX2_readNode 104 = .ok (.aload_n 0, 1) := by decide +kernel
theorem dX2_readNode_105 : decode cX2_readNode 105 = .ok (.invokevirtual 67, 3) := by decide +kernel
theorem dX2_readNode_108 : decode cX2_readNode 108 = .ok (.ifCond .eq 38, 3) := by decide +kernel
theorem dX2_readNode_111 : decode cX2_readNode 111 = .ok (.iconst 1, 1) := by decide +kernel
theorem dX2_readNode_112 : decode cX2_readNode 112 = .ok (.aload_n 0, 1) := by decide +kernel
theorem dX2_readNode_113 : decode cX2_readNode 113 = .ok (.getfield 25, 3) := by decide +kernel
theorem dX2_readNode_116 : decode cX2_readNode 116 = .ok (.bipush 112, 2) := by decide +kernel
theorem dX2_readNode_118 : decode cX2_readNode 118 = .ok (.isub, 1) := by decide +kernel
theorem dX2_readNode_119 : decode cX2_readNode 119 = .ok (.ishl, 1) := by decide +kernel
theorem dX2_readNode_120 : decode cX2_readNode 120 = .ok (.istore 5, 2) := by decide +kernel
theorem dX2_readNode_122 : decode cX2_readNode 122 = .ok (.iload_n 3, 1) := by decide +kernel
theorem dX2_readNode_123 : decode cX2_readNode 123 = .ok (.iload 5, 2) := by decide +kernel
theorem dX2_readNode_125 : decode cX2_readNode 125 = .ok (.iand, 1) := by decide +kernel
theorem dX2_readNode_126 : decode cX2_readNode 126 = .ok (.ifCond .eq 5, 3) := by decide +kernel
theorem dX2_readNode_129 : decode cX2_readNode 129 = .ok (.iconst 0, 1) := by decide +kernel
theorem dX2_readNode_130 : decode cX2_readNode 130 = .ok (.ireturn, 1) := by decide +kernel
theorem dX2_readNode_131 : decode cX2_readNode 131 = .ok (.iload_n 3, 1) := by decide +kernel
theorem dX2_readNode_132 : decode cX2_readNode 132 = .ok (.iload 5, 2) := by decide +kernel
theorem dX2_readNode_134 : decode cX2_readNode 134 = .ok (.ior, 1) := by decide +kernel
theorem dX2_readNode_135 : decode cX2_readNode 135 = .ok (.istore_n 3, 1) := by decide +kernel
theorem dX2_readNode_136 : decode cX2_readNode 136 = .ok (.aload_n 0, 1) := by decide +kernel
theorem dX2_readNode_137 : decode cX2_readNode 137 = .ok (.invokevirtual 44, 3) := by decide +kernel
theorem dX2_readNode_140 : decode cX2_readNode 140 = .ok (.iinc 4 1, 3) := by decide +kernel
theorem dX2_readNode_143 : decode cX2_readNode 143 = .ok (.goto (-45), 3) := by decide +kernel
theorem dX2_readNode_146 : decode cX2_readNode 146 = .ok (.aload_n 0, 1) := by decide +kernel
theorem dX2_readNode_147 : decode cX2_readNode 147 = .ok (.bipush 59, 2) := by decide +kernel
theorem dX2_readNode_149 : decode cX2_readNode 149 = .ok (.invokevirtual 70, 3) := by decide +kernel
theorem dX2_readNode_152 : decode cX2_readNode 152 = .ok (.ifCond .ne 5, 3) := by decide +kernel
theorem dX2_readNode_155 : decode cX2_readNode 155 = .ok (.iconst 0, 1) := by decide +kernel
theorem dX2_readNode_156 : decode cX2_readNode 156 = .ok (.ireturn, 1) := by decide +kernel
theorem dX2_readNode_157 : decode cX2_readNode 157 = .ok (.aload_n 0, 1) := by decide +kernel
theorem dX2_readNode_158 : decode cX2_readNode 158 = .ok (.getfield 31, 3) := by decide +kernel
theorem dX2_readNode_161 : decode cX2_readNode 161 = .ok (.iload_n 1, 1) := by decide +kernel
theorem dX2_readNode_162 : decode cX2_readNode 162 = .ok (.iload_n 2, 1) := by decide +kernel
theorem dX2_readNode_163 : decode cX2_readNode 163 = .ok (.iload_n 3, 1) := by decide +kernel
theorem dX2_readNode_164 : decode cX2_readNode 164 = .ok (.invokevirtual 73, 3) := by decide +kernel
theorem dX2_readNode_167 : decode cX2_readNode 167 = .ok (.iconst 1, 1) := by decide +kernel
theorem dX2_readNode_168 : decode cX2_readNode 168 = .ok (.ireturn, 1) := by decide +kernel
theorem dX2_readRule_0 : decode cX2_readRule 0 = .ok (.aload_n 0, 1) := by decide +kernel
theorem dX2_readRule_1 : decode cX2_readRule 1 = .ok (.getfield 25, 3) := by decide +kernel
theorem dX2_readRule_4 : decode cX2_readRule 4 = .ok (.bipush 82, 2) := by decide +kernel
theorem dX2_readRule_6 : decode cX2_readRule 6 = .ok (.if_icmp .ne 18, 3) := by decide +kernel
theorem dX2_readRule_9 : decode cX2_readRule 9 = .ok (.aload_n 0, 1) := by decide +kernel
theorem dX2_readRule_10 : decode cX2_readRule 10 = .ok (.getfield 31, 3) := by decide +kernel
theorem dX2_readRule_13 : decode cX2_readRule 13 = .ok (.getfield 77, 3) := by decide +kernel
theorem dX2_readRule_16 : decode cX2_readRule 16 = .ok (.bipush 8, 2) := by decide +kernel
theorem dX2_readRule_18 : decode cX2_readRule 18 = .ok (.invokestatic 80, 3) := by decide +kernel
theorem dX2_readRule_21 : decode cX2_readRule 21 = .ok (.ifCond .ne 5, 3) := by decide +kernel
theorem dX2_readRule_24 : decode cX2_readRule 24 = .ok (.iconst 0, 1) := by decide +kernel
theorem dX2_readRule_25 : decode cX2_readRule 25 = .ok (.ireturn, 1) := by decide +kernel
theorem dX2_readRule_26 : decode cX2_readRule 26 = .ok (.aload_n 0, 1) := by decide +kernel
theorem dX2_readRule_27 : decode cX2_readRule 27 = .ok (.getfield 31, 3) := by decide +kernel
theorem dX2_readRule_30 : decode cX2_readRule 30 = .ok (.getfield 84, 3) := by decide +kernel
theorem dX2_readRule_33 : decode cX2_readRule 33 = .ok (.aload_n 0, 1) := by decide +kernel
theorem dX2_readRule_34 : decode cX2_readRule 34 = .ok (.getfield 31, 3) := by decide +kernel
theorem dX2_readRule_37 : decode cX2_readRule 37 = .ok (.getfield 77, 3) := by decide +kernel
theorem dX2_readRule_40 : decode cX2_readRule 40 = .ok (.aaload, 1) := by decide +kernel
theorem dX2_readRule_41 : decode cX2_readRule 41 = .ok (.astore_n 1, 1) := by decide +kernel
theorem dX2_readRule_42 : decode cX2_readRule 42 = .ok (.aload_n 0, 1) := by decide +kernel
theorem dX2_readRule_43 : decode cX2_readRule 43 = .ok (.invokevirtual 44, 3) := by decide +kernel
theorem dX2_readRule_46 : decode cX2_readRule 46 = .ok (.aload_n 1, 1) := by decide +kernel
theorem dX2_readRule_47 : decode cX2_readRule 47 = .ok (.aload_n 0, 1) := by decide +kernel
theorem dX2_readRule_48 : decode cX2_readRule 48 = .ok (.bipush 85, 2) := by decide +kernel
theorem dX2_readRule_50 : decode cX2_readRule 50 = .ok (.invokevirtual 70, 3) := by decide +kernel
theorem dX2_readRule_53 : decode cX2_readRule 53 = .ok (.invokevirtual 88, 3) := by decide +kernel
theorem dX2_readRule_56 : decode cX2_readRule 56 = .ok (.aload_n 0, 1) := by decide +kernel
theorem dX2_readRule_57 : decode cX2_readRule 57 = .ok (.aload_n 1, 1) := by decide +kernel
theorem dX2_readRule_58 : decode cX2_readRule 58 = .ok (.invokevirtual 94, 3) := by decide +kernel
theorem dX2_readRule_61 : decode cX2_readRule 61 = .ok (.ifCond .eq 29, 3) := by decide +kernel
theorem dX2_readRule_64 : decode cX2_readRule 64 = .ok (.aload_n 0, 1) := by decide +kernel
theorem dX2_readRule_65 : decode cX2_readRule 65 = .ok (.bipush 58, 2) := by decide +kernel
theorem dX2_readRule_67 : decode cX2_readRule 67 = .ok (.invokevirtual 70, 3) := by decide +kernel
theorem dX2_readRule_70 : decode cX2_readRule 70 = .ok (.ifCond .eq 20, 3) := by decide +kernel
theorem dX2_readRule_73 : decode cX2_readRule 73 = .ok (.aload_n 0, 1) := by decide +kernel
theorem dX2_readRule_74 : decode cX2_readRule 74 = .ok (.aload_n 1, 1) := by decide +kernel
theorem dX2_readRule_75 : decode cX2_readRule 75 = .ok (.invokevirtual 98, 3) := by decide +kernel
theorem dX2_readRule_78 : decode cX2_readRule 78 = .ok (.ifCond .eq 12, 3) := by decide +kernel
theorem dX2_readRule_81 : decode cX2_readRule 81 = .ok (.aload_n 0, 1) := by decide +kernel
theorem dX2_readRule_82 : decode cX2_readRule 82 = .ok (.bipush 59, 2) := by decide +kernel
theorem dX2_readRule_84 : decode cX2_readRule 84 = .ok (.invokevirtual 70, 3) := by decide +kernel
theorem dX2_readRule_87 : decode cX2_readRule 87 = .ok (.ifCond .ne 5, 3) := by decide +kernel
theorem dX2_readRule_90 : decode cX2_readRule 90 = .ok (.iconst 0, 1) := by decide +kernel
theorem dX2_readRule_91 : decode cX2_readRule 91 = .ok (.ireturn, 1) := by decide +kernel
theorem dX2_readRule_92 : decode cX2_readRule 92 = .ok (.aload_n 0, 1) := by decide +kernel
theorem dX2_readRule_93 : decode cX2_readRule 93 = .ok (.getfield 31, 3) := by decide +kernel
theorem dX2_readRule_96 : decode cX2_readRule 96 = .ok (.invokevirtual 101, 3) := by decide +kernel
theorem dX2_readRule_99 : decode cX2_readRule 99 = .ok (.iconst 1, 1) := by decide +kernel
theorem dX2_readRule_100 : decode cX2_readRule 100 = .ok (.ireturn, 1) := by decide +kernel
theorem dX2_readSelector_0 : decode cX2_readSelector 0 = .ok (.aload_n 0, 1) := by decide +kernel
theorem dX2_readSelector_1 : decode cX2_readSelector 1 = .ok (.aload_n 1, 1) := by decide +kernel
theorem dX2_readSelector_2 : decode cX2_readSelector 2 = .ok (.iconst 0, 1) := by decide +kernel
theorem dX2_readSelector_3 : decode cX2_readSelector 3 = .ok (.invokevirtual 104, 3) := by decide +kernel
theorem dX2_readSelector_6 : decode cX2_readSelector 6 = .ok (.ifCond .ne 5, 3) := by decide +kernel
theorem dX2_readSelector_9 : decode cX2_readSelector 9 = .ok (.iconst 0, 1) := by decide +kernel
theorem dX2_readSelector_10 : decode cX2_readSelector 10 = .ok (.ireturn, 1) := by decide +kernel
theorem dX2_readSelector_11 : decode cX2_readSelector 11 = .ok (.iconst 1, 1) := by decide +kernel
theorem dX2_readSelector_12 : decode cX2_readSelector 12 = .ok (.istore_n 2, 1) := by decide +kernel
theorem dX2_readSelector_13 : decode cX2_readSelector 13 = .ok (.iload_n 2, 1) := by decide +kernel
theorem dX2_readSelector_14 : decode cX2_readSelector 14 = .ok (.iconst 3, 1) := by decide +kernel
theorem dX2_readSelector_15 : decode cX2_readSelector 15 = .ok (.if_icmp .ge 46, 3) := by decide +kernel
theorem dX2_readSelector_18 : decode cX2_readSelector 18 = .ok (.aload_n 0, 1) := by decide +kernel
theorem dX2_readSelector_19 : decode cX2_readSelector 19 = .ok (.invokevirtual 108, 3) := by decide +kernel
theorem dX2_readSelector_22 : decode cX2_readSelector 22 = .ok (.ifCond .eq 39, 3) := by decide +kernel
theorem dX2_readSelector_25 : decode cX2_readSelector 25 = .ok (.aload_n 0, 1) := by decide +kernel
theorem dX2_readSelector_26 : decode cX2_readSelector 26 = .ok (.getfield 25, 3) := by decide +kernel
theorem dX2_readSelector_29 : decode cX2_readSelector 29 = .ok (.bipush 62, 2) := by decide +kernel
theorem dX2_readSelector_31 : decode cX2_readSelector 31 = .ok (.if_icmp .ne 7, 3) := by decide +kernel
theorem dX2_readSelector_34 : decode cX2_readSelector 34 = .ok (.iconst 1, 1) := by decide +kernel
theorem dX2_readSelector_35 : decode cX2_readSelector 35 = .ok (.goto 4, 3) := by decide +kernel
theorem dX2_readSelector_38 : decode cX2_readSelector 38 = .ok (.iconst 0, 1) := by decide +kernel
theorem dX2_readSelector_39 : decode cX2_readSelector 39 = .ok (.istore_n 3, 1) := by decide +kernel
theorem dX2_readSelector_40 : decode cX2_readSelector 40 = .ok (.aload_n 0, 1) := by decide +kernel
theorem dX2_readSelector_41 : decode cX2_readSelector 41 = .ok (.invokevirtual 44, 3) := by decide +kernel
theorem dX2_readSelector_44 : decode cX2_readSelector 44 = .ok (.aload_n 0, 1) := by decide +kernel
theorem dX2_readSelector_45 : decode cX2_readSelector 45 = .ok (.aload_n 1, 1) := by decide +kernel
theorem dX2_readSelector_46 : decode cX2_readSelector 46 = .ok (.iload_n 3, 1) := by decide +kernel
theorem dX2_readSelector_47 : decode cX2_readSelector 47 = .ok (.invokevirtual 104, 3) := by decide +kernel
theorem dX2_readSelector_50 : decode cX2_readSelector 50 = .ok (.ifCond .ne 5, 3) := by decide +kernel
theorem dX2_readSelector_53 : decode cX2_readSelector 53 = .ok (.iconst 0, 1) := by decide +kernel
theorem dX2_readSelector_54 : decode cX2_readSelector 54 = .ok (.ireturn, 1) := by decide +kernel
theorem dX2_readSelector_55 : decode cX2_readSelector 55 = .ok (.iinc 2 1, 3) := by decide +kernel
theorem dX2_readSelector_58 : decode cX2_readSelector 58 = .ok (.goto (-45), 3) := by decide +kernel
theorem dX2_readSelector_61 : decode cX2_readSelector 61 = .ok (.iconst 1, 1) := by decide +kernel
theorem dX2_readSelector_62 : decode cX2_readSelector 62 = .ok (.ireturn, 1) := by decide +kernel
theorem dX2_readCompound_0 : decode cX2_readCompound 0 = .ok (.bipush (-9), 2) := by decide +kernel
theorem dX2_readCompound_2 : decode cX2_readCompound 2 = .ok (.istore_n 3, 1) := by decide +kernel
theorem dX2_readCompound_3 : decode cX2_readCompound 3 = .ok (.aload_n 0, 1) := by decide +kernel
theorem dX2_readCompound_4 : decode cX2_readCompound 4 = .ok (.invokevirtual 64, 3) := by decide +kernel
theorem dX2_readCompound_7 : decode cX2_readCompound 7 = .ok (.ifCond .eq 18, 3) := by decide +kernel
theorem dX2_readCompound_10 : decode cX2_readCompound 10 = .ok (.aload_n 0, 1) := by decide +kernel
theorem dX2_readCompound_11 : decode cX2_readCompound 11 = .ok (.getfield 25, 3) := by decide +kernel
theorem dX2_readCompound_14 : decode cX2_readCompound 14 = .ok (.bipush 97, 2) := by decide +kernel
theorem dX2_readCompound_16 : decode cX2_readCompound 16 = .ok (.isub, 1) := by decide +kernel
theorem dX2_readCompound_17 : decode cX2_readCompound 17 = .ok (.istore_n 3, 1) := by decide +kernel
theorem dX2_readCompound_18 : decode cX2_readCompound 18 = .ok (.aload_n 0, 1) := by decide +kernel
theorem dX2_readCompound_19 : decode cX2_readCompound 19 = .ok (.invokevirtual 44, 3) := by decide +kernel
theorem dX2_readCompound_22 : decode cX2_readCompound 22 = .ok (.goto 14, 3) := by decide +kernel
theorem dX2_readCompound_25 : decode cX2_readCompound 25 = .ok (.aload_n 0, 1) := by decide +kernel
theorem dX2_readCompound_26 : decode cX2_readCompound 26 = .ok (.getfield 25, 3) := by decide +kernel
theorem dX2_readCompound_29 : decode cX2_readCompound 29 = .ok (.bipush 46, 2) := by decide +kernel
theorem dX2_readCompound_31 : decode cX2_readCompound 31 = .ok (.if_icmp .eq 5, 3) := by decide +kernel
theorem dX2_readCompound_34 : decode cX2_readCompound 34 = .ok (.iconst 0, 1) := by decide +kernel
theorem dX2_readCompound_35 : decode cX2_readCompound 35 = .ok (.ireturn, 1) := by decide +kernel
theorem dX2_readCompound_36 : decode cX2_readCompound 36 = .ok (.iconst 0, 1) := by decide +kernel
theorem dX2_readCompound_37 : decode cX2_readCompound 37 = .ok (.istore 4, 2) := by decide +kernel
theorem dX2_readCompound_39 : decode cX2_readCompound 39 = .ok (.iconst 0, 1) := by decide +kernel
theorem dX2_readCompound_40 : decode cX2_readCompound 40 = .ok (.istore 5, 2) := by decide +kernel
theorem dX2_readCompound_42 : decode cX2_readCompound 42 = .ok (.iload 5, 2) := by decide +kernel
theorem dX2_readCompound_44 : decode cX2_readCompound 44 = .ok (.iconst 4, 1) := by decide +kernel
theorem dX2_readCompound_45 : decode cX2_readCompound 45 = .ok (.if_icmp .gt 70, 3) := by decide +kernel
theorem dX2_readCompound_48 : decode cX2_readCompound 48 = .ok (.aload_n 0, 1) := by decide +kernel
theorem dX2_readCompound_49 : decode cX2_readCompound 49 = .ok (.getfield 25, 3) := by decide +kernel
theorem dX2_readCompound_52 : decode cX2_readCompound 52 = .ok (.bipush 46, 2) := by decide +kernel
theorem dX2_readCompound_54 : decode cX2_readCompound 54 = .ok (.if_icmp .ne 61, 3) := by decide +kernel
theorem dX2_readCompound_57 : decode cX2_readCompound 57 = .ok (.aload_n 0, 1) := by decide +kernel
theorem dX2_readCompound_58 : decode cX2_readCompound 58 = .ok (.invokevirtual 44, 3) := by decide +kernel
theorem dX2_readCompound_61 : decode cX2_readCompound 61 = .ok (.aload_n 0, 1) := by decide +kernel
theorem dX2_readCompound_62 : decode cX2_readCompound 62 = .ok (.invokevirtual 67, 3) := by decide +kernel
theorem dX2_readCompound_65 : decode cX2_readCompound 65 = .ok (.ifCond .eq 15, 3) := by decide +kernel
theorem dX2_readCompound_68 : decode cX2_readCompound 68 = .ok (.iconst 1, 1) := by decide +kernel
theorem dX2_readCompound_69 : decode cX2_readCompound 69 = .ok (.aload_n 0, 1) := by decide +kernel
theorem dX2_readCompound_70 : decode cX2_readCompound 70 = .ok (.getfield 25, 3) := by decide +kernel
theorem dX2_readCompound_73 : decode cX2_readCompound 73 = .ok (.bipush 112, 2) := by decide +kernel
theorem dX2_readCompound_75 : decode cX2_readCompound 75 = .ok (.isub, 1) := by decide +kernel
theorem dX2_readCompound_76 : decode cX2_readCompound 76 = .ok (.ishl, 1) := by decide +kernel
theorem dX2_readCompound_77 : decode cX2_readCompound 77 = .ok (.goto 4, 3) := by decide +kernel
theorem dX2_readCompound_80 : decode cX2_readCompound 80 = .ok (.iconst 0, 1) := by decide +kernel
theorem dX2_readCompound_81 : decode cX2_readCompound 81 = .ok (.istore 6, 2) := by decide +kernel
theorem dX2_readCompound_83 : decode cX2_readCompound 83 = .ok (.iload 6, 2) := by decide +kernel
theorem dX2_readCompound_85 : decode cX2_readCompound 85 = .ok (.ifCond .eq 11, 3) := by decide +kernel
theorem dX2_readCompound_88 : decode cX2_readCompound 88 = .ok (.iload 4, 2) := by decide +kernel
theorem dX2_readCompound_90 : decode cX2_readCompound 90 = .ok (.iload 6, 2) := by decide +kernel
theorem dX2_readCompound_92 : decode cX2_readCompound 92 = .ok (.iand, 1) := by decide +kernel
theorem dX2_readCompound_93 : decode cX2_readCompound 93 = .ok (.ifCond .eq 5, 3) := by decide +kernel
theorem dX2_readCompound_96 : decode cX2_readCompound 96 = .ok (.iconst 0, 1) := by decide +kernel
theorem dX2_readCompound_97 : decode cX2_readCompound 97 = .ok (.ireturn, 1) := by decide +kernel
theorem dX2_readCompound_98 : decode cX2_readCompound 98 = .ok (.iload 4, 2) := by decide +kernel
theorem dX2_readCompound_100 : decode cX2_readCompound 100 = .ok (.iload 6, 2) := by decide +kernel
theorem dX2_readCompound_102 : decode cX2_readCompound 102 = .ok (.ior, 1) := by decide +kernel
theorem dX2_readCompound_103 : decode cX2_readCompound 103 = .ok (.istore 4, 2) := by decide +kernel
theorem dX2_readCompound_105 : decode cX2_readCompound 105 = .ok (.aload_n 0, 1) := by decide +kernel
theorem dX2_readCompound_106 : decode cX2_readCompound 106 = .ok (.invokevirtual 44, 3) := by decide +kernel
theorem dX2_readCompound_109 : decode cX2_readCompound 109 = .ok (.iinc 5 1, 3) := by decide +kernel
theorem dX2_readCompound_112 : decode cX2_readCompound 112 = .ok (.goto (-70), 3) := by decide +kernel
theorem dX2_readCompound_115 : decode cX2_readCompound 115 = .ok (.aload_n 1, 1) := by decide +kernel
theorem dX2_readCompound_116 : decode cX2_readCompound 116 = .ok (.iload_n 3, 1) := by decide +kernel
theorem dX2_readCompound_117 : decode cX2_readCompound 117 = .ok (.iload 4, 2) := by decide +kernel
theorem dX2_readCompound_119 : decode cX2_readCompound 119 = .ok (.iload_n 2, 1) := by decide +kernel
theorem dX2_readCompound_120 : decode cX2_readCompound 120 = .ok (.invokevirtual 111, 3) := by decide +kernel
theorem dX2_readCompound_123 : decode cX2_readCompound 123 = .ok (.iconst 1, 1) := by decide +kernel
theorem dX2_readCompound_124 : decode cX2_readCompound 124 = .ok (.ireturn, 1) := by decide +kernel
theorem dX2_readDeclarations_0 : decode cX2_readDeclarations 0 = .ok (.aload_n 0, 1) := by decide +kernel
theorem dX2_readDeclarations_1 : decode cX2_readDeclarations 1 = .ok (.aload_n 1, 1) := by decide +kernel
theorem dX2_readDeclarations_2 : decode cX2_readDeclarations 2 = .ok (.invokevirtual 115, 3) := by decide +kernel
theorem dX2_readDeclarations_5 : decode cX2_readDeclarations 5 = .ok (.ifCond .ne 5, 3) := by decide +kernel
theorem dX2_readDeclarations_8 : decode cX2_readDeclarations 8 = .ok (.iconst 0, 1) := by decide +kernel
theorem dX2_readDeclarations_9 : decode cX2_readDeclarations 9 = .ok (.ireturn, 1) := by decide +kernel
theorem dX2_readDeclarations_10 : decode cX2_readDeclarations 10 = .ok (.iconst 1, 1) := by decide +kernel
theorem dX2_readDeclarations_11 : decode cX2_readDeclarations 11 = .ok (.istore_n 2, 1) := by decide +kernel
theorem dX2_readDeclarations_12 : decode cX2_readDeclarations 12 = .ok (.iload_n 2, 1) := by decide +kernel
theorem dX2_readDeclarations_13 : decode cX2_readDeclarations 13 = .ok (.iconst 4, 1) := by decide +kernel
theorem dX2_readDeclarations_14 : decode cX2_readDeclarations 14 = .ok (.if_icmp .ge 26, 3) := by decide +kernel
theorem dX2_readDeclarations_17 : decode cX2_readDeclarations 17 = .ok (.aload_n 0, 1) := by decide +kernel
theorem dX2_readDeclarations_18 : decode cX2_readDeclarations 18 = .ok (.invokevirtual 118, 3) := by decide +kernel
theorem dX2_readDeclarations_21 : decode cX2_readDeclarations 21 = .ok (.ifCond .eq 19, 3) := by decide +kernel
theorem dX2_readDeclarations_24 : decode cX2_readDeclarations 24 = .ok (.aload_n 0, 1) := by decide +kernel
theorem dX2_readDeclarations_25 : decode cX2_readDeclarations 25 = .ok (.aload_n 1, 1) := by decide +kernel
theorem dX2_readDeclarations_26 : decode cX2_readDeclarations 26 = .ok (.invokevirtual 115, 3) := by decide +kernel
theorem dX2_readDeclarations_29 : decode cX2_readDeclarations 29 = .ok (.ifCond .ne 5, 3) := by decide +kernel
theorem dX2_readDeclarations_32 : decode cX2_readDeclarations 32 = .ok (.iconst 0, 1) := by decide +kernel
theorem dX2_readDeclarations_33 : decode cX2_readDeclarations 33 = .ok (.ireturn, 1) := by decide +kernel
theorem dX2_readDeclarations_34 : decode cX2_readDeclarations 34 = .ok (.iinc 2 1, 3) := by decide +kernel
theorem dX2_readDeclarations_37 : decode cX2_readDeclarations 37 = .ok (.goto (-25), 3) := by decide +kernel
theorem dX2_readDeclarations_40 : decode cX2_readDeclarations 40 = .ok (.iconst 1, 1) := by decide +kernel
theorem dX2_readDeclarations_41 : decode cX2_readDeclarations 41 = .ok (.ireturn, 1) := by decide +kernel
theorem dX2_readDeclaration_0 : decode cX2_readDeclaration 0 = .ok (.aload_n 0, 1) := by decide +kernel
theorem dX2_readDeclaration_1 : decode cX2_readDeclaration 1 = .ok (.getfield 25, 3) := by decide +kernel
theorem dX2_readDeclaration_4 : decode cX2_readDeclaration 4 = .ok (.bipush 119, 2) := by decide +kernel
theorem dX2_readDeclaration_6 : decode cX2_readDeclaration 6 = .ok (.isub, 1) := by decide +kernel
theorem dX2_readDeclaration_7 : decode cX2_readDeclaration 7 = .ok (.istore_n 2, 1) := by decide +kernel
theorem dX2_readDeclaration_8 : decode cX2_readDeclaration 8 = .ok (.aload_n 0, 1) := by decide +kernel
theorem dX2_readDeclaration_9 : decode cX2_readDeclaration 9 = .ok (.invokevirtual 118, 3) := by decide +kernel
theorem dX2_readDeclaration_12 : decode cX2_readDeclaration 12 = .ok (.ifCond .eq 14, 3) := by decide +kernel
theorem dX2_readDeclaration_15 : decode cX2_readDeclaration 15 = .ok (.aload_n 1, 1) := by decide +kernel
theorem dX2_readDeclaration_16 : decode cX2_readDeclaration 16 = .ok (.getfield 121, 3) := by decide +kernel
theorem dX2_readDeclaration_19 : decode cX2_readDeclaration 19 = .ok (.iload_n 2, 1) := by decide +kernel
theorem dX2_readDeclaration_20 : decode cX2_readDeclaration 20 = .ok (.invokestatic 124, 3) := by decide +kernel
theorem dX2_readDeclaration_23 : decode cX2_readDeclaration 23 = .ok (.ifCond .eq 5, 3) := by decide +kernel
theorem dX2_readDeclaration_26 : decode cX2_readDeclaration 26 = .ok (.iconst 0, 1) := by decide +kernel
theorem dX2_readDeclaration_27 : decode cX2_readDeclaration 27 = .ok (.ireturn, 1) := by decide +kernel
theorem dX2_readDeclaration_28 : decode cX2_readDeclaration 28 = .ok (.aload_n 0, 1) := by decide +kernel
theorem dX2_readDeclaration_29 : decode cX2_readDeclaration 29 = .ok (.invokevirtual 44, 3) := by decide +kernel
theorem dX2_readDeclaration_32 : decode cX2_readDeclaration 32 = .ok (.aload_n 0, 1) := by decide +kernel
theorem dX2_readDeclaration_33 : decode cX2_readDeclaration 33 = .ok (.invokevirtual 61, 3) := by decide +kernel
theorem dX2_readDeclaration_36 : decode cX2_readDeclaration 36 = .ok (.ifCond .ne 5, 3) := by decide +kernel
theorem dX2_readDeclaration_39 : decode cX2_readDeclaration 39 = .ok (.iconst 0, 1) := by decide +kernel
theorem dX2_readDeclaration_40 : decode cX2_readDeclaration 40 = .ok (.ireturn, 1) := by decide +kernel
theorem dX2_readDeclaration_41 : decode cX2_readDeclaration 41 = .ok (.aload_n 0, 1) := by decide +kernel
theorem dX2_readDeclaration_42 : decode cX2_readDeclaration 42 = .ok (.getfield 25, 3) := by decide +kernel
theorem dX2_readDeclaration_45 : decode cX2_readDeclaration 45 = .ok (.bipush 48, 2) := by decide +kernel
theorem dX2_readDeclaration_47 : decode cX2_readDeclaration 47 = .ok (.isub, 1) := by decide +kernel
theorem dX2_readDeclaration_48 : decode cX2_readDeclaration 48 = .ok (.istore_n 3, 1) := by decide +kernel
theorem dX2_readDeclaration_49 : decode cX2_readDeclaration 49 = .ok (.aload_n 0, 1) := by decide +kernel
theorem dX2_readDeclaration_50 : decode cX2_readDeclaration 50 = .ok (.invokevirtual 44, 3) := by decide +kernel
theorem dX2_readDeclaration_53 : decode cX2_readDeclaration 53 = .ok (.aload_n 1, 1) := by decide +kernel
theorem dX2_readDeclaration_54 : decode cX2_readDeclaration 54 = .ok (.iload_n 2, 1) := by decide +kernel
theorem dX2_readDeclaration_55 : decode cX2_readDeclaration 55 = .ok (.iload_n 3, 1) := by decide +kernel
theorem dX2_readDeclaration_56 : decode cX2_readDeclaration 56 = .ok (.aload_n 0, 1) := by decide +kernel
theorem dX2_readDeclaration_57 : decode cX2_readDeclaration 57 = .ok (.bipush 33, 2) := by decide +kernel
theorem dX2_readDeclaration_59 : decode cX2_readDeclaration 59 = .ok (.invokevirtual 70, 3) := by decide +kernel
theorem dX2_readDeclaration_62 : decode cX2_readDeclaration 62 = .ok (.invokevirtual 127, 3) := by decide +kernel
theorem dX2_readDeclaration_65 : decode cX2_readDeclaration 65 = .ok (.iconst 1, 1) := by decide +kernel
theorem dX2_readDeclaration_66 : decode cX2_readDeclaration 66 = .ok (.ireturn, 1) := by decide +kernel
theorem dX3_init_0 : decode cX3_init 0 = .ok (.aload_n 0, 1) := by decide +kernel
theorem dX3_init_1 : decode cX3_init 1 = .ok (.invokespecial 3, 3) := by decide +kernel
theorem dX3_init_4 : decode cX3_init 4 = .ok (.aload_n 0, 1) := by decide +kernel
theorem dX3_init_5 : decode cX3_init 5 = .ok (.iconst 3, 1) := by decide +kernel
theorem dX3_init_6 : decode cX3_init 6 = .ok (.newarray .int, 2) := by decide +kernel
theorem dX3_init_8 : decode cX3_init 8 = .ok (.putfield 9, 3) := by decide +kernel
theorem dX3_init_11 : decode cX3_init 11 = .ok (.aload_n 0, 1) := by decide +kernel
theorem dX3_init_12 : decode cX3_init 12 = .ok (.iconst 3, 1) := by decide +kernel
theorem dX3_init_13 : decode cX3_init 13 = .ok (.newarray .int, 2) := by decide +kernel
theorem dX3_init_15 : decode cX3_init 15 = .ok (.putfield 15, 3) := by decide +kernel
theorem dX3_init_18 : decode cX3_init 18 = .ok (.aload_n 0, 1) := by decide +kernel
theorem dX3_init_19 : decode cX3_init 19 = .ok (.iconst 3, 1) := by decide +kernel
theorem dX3_init_20 : decode cX3_init 20 = .ok (.newarray .boolean, 2) := by decide +kernel
theorem dX3_init_22 : decode cX3_init 22 = .ok (.putfield 18, 3) := by decide +kernel
theorem dX3_init_25 : decode cX3_init 25 = .ok (.aload_n 0, 1) := by decide +kernel
theorem dX3_init_26 : decode cX3_init 26 = .ok (.iconst 4, 1) := by decide +kernel
theorem dX3_init_27 : decode cX3_init 27 = .ok (.newarray .int, 2) := by decide +kernel
theorem dX3_init_29 : decode cX3_init 29 = .ok (.putfield 22, 3) := by decide +kernel
theorem dX3_init_32 : decode cX3_init 32 = .ok (.aload_n 0, 1) := by decide +kernel
theorem dX3_init_33 : decode cX3_init 33 = .ok (.iconst 4, 1) := by decide +kernel
theorem dX3_init_34 : decode cX3_init 34 = .ok (.newarray .int, 2) := by decide +kernel
theorem dX3_init_36 : decode cX3_init 36 = .ok (.putfield 25, 3) := by decide +kernel
theorem dX3_init_39 : decode cX3_init 39 = .ok (.return_, 1) := by decide +kernel
theorem dX3_begin_0 : decode cX3_begin 0 = .ok (.aload_n 0, 1) := by decide +kernel
theorem dX3_begin_1 : decode cX3_begin 1 = .ok (.iload_n 1, 1) := by decide +kernel
theorem dX3_begin_2 : decode cX3_begin 2 = .ok (.putfield 28, 3) := by decide +kernel
theorem dX3_begin_5 : decode cX3_begin 5 = .ok (.aload_n 0, 1) := by decide +kernel
theorem dX3_begin_6 : decode cX3_begin 6 = .ok (.iconst 0, 1) := by decide +kernel
theorem dX3_begin_7 : decode cX3_begin 7 = .ok (.putfield 32, 3) := by decide +kernel
theorem dX3_begin_10 : decode cX3_begin 10 = .ok (.aload_n 0, 1) := by decide +kernel
theorem dX3_begin_11 : decode cX3_begin 11 = .ok (.iconst 0, 1) := by decide +kernel
theorem dX3_begin_12 : decode cX3_begin 12 = .ok (.putfield 36, 3) := by decide +kernel
theorem dX3_begin_15 : decode cX3_begin 15 = .ok (.aload_n 0, 1) := by decide +kernel
theorem dX3_begin_16 : decode cX3_begin 16 = .ok (.iconst 0, 1) := by decide +kernel
theorem dX3_begin_17 : decode cX3_begin 17 = .ok (.putfield 39, 3) := by decide +kernel
theorem dX3_begin_20 : decode cX3_begin 20 = .ok (.aload_n 0, 1) := by decide +kernel
theorem dX3_begin_21 : decode cX3_begin 21 = .ok (.iconst 0, 1) := by decide +kernel
theorem dX3_begin_22 : decode cX3_begin 22 = .ok (.putfield 42, 3) := by decide +kernel
theorem dX3_begin_25 : decode cX3_begin 25 = .ok (.return_, 1) := by decide +kernel
theorem dX3_addCompound_0 : decode cX3_addCompound 0 = .ok (.aload_n 0, 1) := by decide +kernel
theorem dX3_addCompound_1 : decode cX3_addCompound 1 = .ok (.getfield 32, 3) := by decide +kernel
theorem dX3_addCompound_4 : decode cX3_addCompound 4 = .ok (.iconst 3, 1) := by decide +kernel
theorem dX3_addCompound_5 : decode cX3_addCompound 5 = .ok (.invokestatic 45, 3) := by decide +kernel
theorem dX3_addCompound_8 : decode cX3_addCompound 8 = .ok (.ifCond .eq 71, 3) := by decide +kernel
theorem dX3_addCompound_11 : decode cX3_addCompound 11 = .ok (.aload_n 0, 1) := by decide +kernel
theorem dX3_addCompound_12 : decode cX3_addCompound 12 = .ok (.getfield 9, 3) := by decide +kernel
theorem dX3_addCompound_15 : decode cX3_addCompound 15 = .ok (.aload_n 0, 1) := by decide +kernel
theorem dX3_addCompound_16 : decode cX3_addCompound 16 = .ok (.getfield 32, 3) := by decide +kernel
theorem dX3_addCompound_19 : decode cX3_addCompound 19 = .ok (.iload_n 1, 1) := by decide +kernel
theorem dX3_addCompound_20 : decode cX3_addCompound 20 = .ok (.iastore, 1) := by decide +kernel
theorem dX3_addCompound_21 : decode cX3_addCompound 21 = .ok (.aload_n 0, 1) := by decide +kernel
theorem dX3_addCompound_22 : decode cX3_addCompound 22 = .ok (.getfield 15, 3) := by decide +kernel
theorem dX3_addCompound_25 : decode cX3_addCompound 25 = .ok (.aload_n 0, 1) := by decide +kernel
theorem dX3_addCompound_26 : decode cX3_addCompound 26 = .ok (.getfield 32, 3) := by decide +kernel
theorem dX3_addCompound_29 : decode cX3_addCompound 29 = .ok (.iload_n 2, 1) := by decide +kernel
theorem dX3_addCompound_30 : decode cX3_addCompound 30 = .ok (.iastore, 1) := by decide +kernel
theorem dX3_addCompound_31 : decode cX3_addCompound 31 = .ok (.aload_n 0, 1) := by decide +kernel
theorem dX3_addCompound_32 : decode cX3_addCompound 32 = .ok (.getfield 18, 3) := by decide +kernel
theorem dX3_addCompound_35 : decode cX3_addCompound 35 = .ok (.aload_n 0, 1) := by decide +kernel
theorem dX3_addCompound_36 : decode cX3_addCompound 36 = .ok (.getfield 32, 3) := by decide +kernel
theorem dX3_addCompound_39 : decode cX3_addCompound 39 = .ok (.iload_n 3, 1) := by decide +kernel
theorem dX3_addCompound_40 : decode cX3_addCompound 40 = .ok (.bastore, 1) := by decide +kernel
theorem dX3_addCompound_41 : decode cX3_addCompound 41 = .ok (.aload_n 0, 1) := by decide +kernel
theorem dX3_addCompound_42 : decode cX3_addCompound 42 = .ok (.dup, 1) := by decide +kernel
theorem dX3_addCompound_43 : decode cX3_addCompound 43 = .ok (.getfield 32, 3) := by decide +kernel
theorem dX3_addCompound_46 : decode cX3_addCompound 46 = .ok (.iconst 1, 1) := by decide +kernel
theorem dX3_addCompound_47 : decode cX3_addCompound 47 = .ok (.iadd, 1) := by decide +kernel
theorem dX3_addCompound_48 : decode cX3_addCompound 48 = .ok (.putfield 32, 3) := by decide +kernel
theorem dX3_addCompound_51 : decode cX3_addCompound 51 = .ok (.aload_n 0, 1) := by decide +kernel
theorem dX3_addCompound_52 : decode cX3_addCompound 52 = .ok (.dup, 1) := by decide +kernel
theorem dX3_addCompound_53 : decode cX3_addCompound 53 = .ok (.getfield 36, 3) := by decide +kernel
theorem dX3_addCompound_56 : decode cX3_addCompound 56 = .ok (.bipush 10, 2) := by decide +kernel
theorem dX3_addCompound_58 : decode cX3_addCompound 58 = .ok (.iload_n 2, 1) := by decide +kernel
theorem dX3_addCompound_59 : decode cX3_addCompound 59 = .ok (.invokestatic 49, 3) := by decide +kernel
theorem dX3_addCompound_62 : decode cX3_addCompound 62 = .ok (.imul, 1) := by decide +kernel
theorem dX3_addCompound_63 : decode cX3_addCompound 63 = .ok (.iload_n 1, 1) := by decide +kernel
theorem dX3_addCompound_64 : decode cX3_addCompound 64 = .ok (.bipush (-9), 2) := by decide +kernel
theorem dX3_addCompound_66 : decode cX3_addCompound 66 = .ok (.if_icmp .ne 7, 3) := by decide +kernel
theorem dX3_addCompound_69 : decode cX3_addCompound 69 = .ok (.iconst 0, 1) := by decide +kernel
theorem dX3_addCompound_70 : decode cX3_addCompound 70 = .ok (.goto 4, 3) := by decide +kernel
theorem dX3_addCompound_73 : decode cX3_addCompound 73 = .ok (.iconst 1, 1) := by decide +kernel
theorem dX3_addCompound_74 : decode cX3_addCompound 74 = .ok (.iadd, 1) := by decide +kernel
theorem dX3_addCompound_75 : decode cX3_addCompound 75 = .ok (.iadd, 1) := by decide +kernel
theorem dX3_addCompound_76 : decode cX3_addCompound 76 = .ok (.putfield 36, 3) := by decide +kernel
theorem dX3_addCompound_79 : decode cX3_addCompound 79 = .ok (.return_, 1) := by decide +kernel
theorem dX3_declare_0 : decode cX3_declare 0 = .ok (.iload_n 1, 1) := by decide +kernel
theorem dX3_declare_1 : decode cX3_declare 1 = .ok (.iconst 4, 1) := by decide +kernel
theorem dX3_declare_2 : decode cX3_declare 2 = .ok (.invokestatic 45, 3) := by decide +kernel
theorem dX3_declare_5 : decode cX3_declare 5 = .ok (.ifCond .eq 62, 3) := by decide +kernel
theorem dX3_declare_8 : decode cX3_declare 8 = .ok (.aload_n 0, 1) := by decide +kernel
theorem dX3_declare_9 : decode cX3_declare 9 = .ok (.getfield 22, 3) := by decide +kernel
theorem dX3_declare_12 : decode cX3_declare 12 = .ok (.iload_n 1, 1) := by decide +kernel
theorem dX3_declare_13 : decode cX3_declare 13 = .ok (.iload_n 2, 1) := by decide +kernel
theorem dX3_declare_14 : decode cX3_declare 14 = .ok (.iastore, 1) := by decide +kernel
theorem dX3_declare_15 : decode cX3_declare 15 = .ok (.aload_n 0, 1) := by decide +kernel
theorem dX3_declare_16 : decode cX3_declare 16 = .ok (.dup, 1) := by decide +kernel
theorem dX3_declare_17 : decode cX3_declare 17 = .ok (.getfield 39, 3) := by decide +kernel
theorem dX3_declare_20 : decode cX3_declare 20 = .ok (.iconst 1, 1) := by decide +kernel
theorem dX3_declare_21 : decode cX3_declare 21 = .ok (.iload_n 1, 1) := by decide +kernel
theorem dX3_declare_22 : decode cX3_declare 22 = .ok (.ishl, 1) := by decide +kernel
theorem dX3_declare_23 : decode cX3_declare 23 = .ok (.ior, 1) := by decide +kernel
theorem dX3_declare_24 : decode cX3_declare 24 = .ok (.putfield 39, 3) := by decide +kernel
theorem dX3_declare_27 : decode cX3_declare 27 = .ok (.aload_n 0, 1) := by decide +kernel
theorem dX3_declare_28 : decode cX3_declare 28 = .ok (.dup, 1) := by decide +kernel
theorem dX3_declare_29 : decode cX3_declare 29 = .ok (.getfield 42, 3) := by decide +kernel
theorem dX3_declare_32 : decode cX3_declare 32 = .ok (.iload_n 3, 1) := by decide +kernel
theorem dX3_declare_33 : decode cX3_declare 33 = .ok (.ifCond .eq 9, 3) := by decide +kernel
theorem dX3_declare_36 : decode cX3_declare 36 = .ok (.iconst 1, 1) := by decide +kernel
theorem dX3_declare_37 : decode cX3_declare 37 = .ok (.iload_n 1, 1) := by decide +kernel
theorem dX3_declare_38 : decode cX3_declare 38 = .ok (.ishl, 1) := by decide +kernel
theorem dX3_declare_39 : decode cX3_declare 39 = .ok (.goto 4, 3) := by decide +kernel
theorem dX3_declare_42 : decode cX3_declare 42 = .ok (.iconst 0, 1) := by decide +kernel
theorem dX3_declare_43 : decode cX3_declare 43 = .ok (.ior, 1) := by decide +kernel
theorem dX3_declare_44 : decode cX3_declare 44 = .ok (.putfield 42, 3) := by decide +kernel
theorem dX3_declare_47 : decode cX3_declare 47 = .ok (.aload_n 0, 1) := by decide +kernel
theorem dX3_declare_48 : decode cX3_declare 48 = .ok (.getfield 25, 3) := by decide +kernel
theorem dX3_declare_51 : decode cX3_declare 51 = .ok (.iload_n 1, 1) := by decide +kernel
theorem dX3_declare_52 : decode cX3_declare 52 = .ok (.sipush 1000, 3) := by decide +kernel
theorem dX3_declare_55 : decode cX3_declare 55 = .ok (.aload_n 0, 1) := by decide +kernel
theorem dX3_declare_56 : decode cX3_declare 56 = .ok (.iload_n 3, 1) := by decide +kernel
theorem dX3_declare_57 : decode cX3_declare 57 = .ok (.invokevirtual 55, 3) := by decide +kernel
theorem dX3_declare_60 : decode cX3_declare 60 = .ok (.imul, 1) := by decide +kernel
theorem dX3_declare_61 : decode cX3_declare 61 = .ok (.aload_n 0, 1) := by decide +kernel
theorem dX3_declare_62 : decode cX3_declare 62 = .ok (.getfield 36, 3) := by decide +kernel
theorem dX3_declare_65 : decode cX3_declare 65 = .ok (.iadd, 1) := by decide +kernel
theorem dX3_declare_66 : decode cX3_declare 66 = .ok (.iastore, 1) := by decide +kernel
theorem dX3_declare_67 : decode cX3_declare 67 = .ok (.return_, 1) := by decide +kernel
theorem dX3_level_0 : decode cX3_level 0 = .ok (.iload_n 1, 1) := by decide +kernel
theorem dX3_level_1 : decode cX3_level 1 = .ok (.ifCond .eq 16, 3) := by decide +kernel
theorem dX3_level_4 : decode cX3_level 4 = .ok (.aload_n 0, 1) := by decide +kernel
theorem dX3_level_5 : decode cX3_level 5 = .ok (.getfield 28, 3) := by decide +kernel
theorem dX3_level_8 : decode cX3_level 8 = .ok (.ifCond .eq 7, 3) := by decide +kernel
theorem dX3_level_11 : decode cX3_level 11 = .ok (.iconst 3, 1) := by decide +kernel
theorem dX3_level_12 : decode cX3_level 12 = .ok (.goto 4, 3) := by decide +kernel
theorem dX3_level_15 : decode cX3_level 15 = .ok (.iconst 2, 1) := by decide +kernel
theorem dX3_level_16 : decode cX3_level 16 = .ok (.ireturn, 1) := by decide +kernel
theorem dX3_level_17 : decode cX3_level 17 = .ok (.aload_n 0, 1) := by decide +kernel
theorem dX3_level_18 : decode cX3_level 18 = .ok (.getfield 28, 3) := by decide +kernel
theorem dX3_level_21 : decode cX3_level 21 = .ok (.ifCond .eq 7, 3) := by decide +kernel
theorem dX3_level_24 : decode cX3_level 24 = .ok (.iconst 0, 1) := by decide +kernel
theorem dX3_level_25 : decode cX3_level 25 = .ok (.goto 4, 3) := by decide +kernel
theorem dX3_level_28 : decode cX3_level 28 = .ok (.iconst 1, 1) := by decide +kernel
theorem dX3_level_29 : decode cX3_level 29 = .ok (.ireturn, 1) := by decide +kernel
theorem dX3_fits_0 : decode cX3_fits 0 = .ok (.iload_n 1, 1) := by decide +kernel
theorem dX3_fits_1 : decode cX3_fits 1 = .ok (.ifCond .lt 11, 3) := by decide +kernel
theorem dX3_fits_4 : decode cX3_fits 4 = .ok (.iload_n 1, 1) := by decide +kernel
theorem dX3_fits_5 : decode cX3_fits 5 = .ok (.aload_n 0, 1) := by decide +kernel
theorem dX3_fits_6 : decode cX3_fits 6 = .ok (.getfield 32, 3) := by decide +kernel
theorem dX3_fits_9 : decode cX3_fits 9 = .ok (.if_icmp .lt 5, 3) := by decide +kernel
theorem dX3_fits_12 : decode cX3_fits 12 = .ok (.iconst 0, 1) := by decide +kernel
theorem dX3_fits_13 : decode cX3_fits 13 = .ok (.ireturn, 1) := by decide +kernel
theorem dX3_fits_14 : decode cX3_fits 14 = .ok (.aload_n 0, 1) := by decide +kernel
theorem dX3_fits_15 : decode cX3_fits 15 = .ok (.getfield 9, 3) := by decide +kernel
theorem dX3_fits_18 : decode cX3_fits 18 = .ok (.iload_n 1, 1) := by decide +kernel
theorem dX3_fits_19 : decode cX3_fits 19 = .ok (.iaload, 1) := by decide +kernel
theorem dX3_fits_20 : decode cX3_fits 20 = .ok (.bipush (-9), 2) := by decide +kernel
theorem dX3_fits_22 : decode cX3_fits 22 = .ok (.if_icmp .eq 13, 3) := by decide +kernel
theorem dX3_fits_25 : decode cX3_fits 25 = .ok (.aload_n 0, 1) := by decide +kernel
theorem dX3_fits_26 : decode cX3_fits 26 = .ok (.getfield 9, 3) := by decide +kernel
theorem dX3_fits_29 : decode cX3_fits 29 = .ok (.iload_n 1, 1) := by decide +kernel
theorem dX3_fits_30 : decode cX3_fits 30 = .ok (.iaload, 1) := by decide +kernel
theorem dX3_fits_31 : decode cX3_fits 31 = .ok (.iload_n 2, 1) := by decide +kernel
theorem dX3_fits_32 : decode cX3_fits 32 = .ok (.if_icmp .ne 7, 3) := by decide +kernel
theorem dX3_fits_35 : decode cX3_fits 35 = .ok (.iconst 1, 1) := by decide +kernel
theorem dX3_fits_36 : decode cX3_fits 36 = .ok (.goto 4, 3) := by decide +kernel
theorem dX3_fits_39 : decode cX3_fits 39 = .ok (.iconst 0, 1) := by decide +kernel
theorem dX3_fits_40 : decode cX3_fits 40 = .ok (.istore 4, 2) := by decide +kernel
theorem dX3_fits_42 : decode cX3_fits 42 = .ok (.iload 4, 2) := by decide +kernel
theorem dX3_fits_44 : decode cX3_fits 44 = .ok (.ifCond .eq 20, 3) := by decide +kernel
theorem dX3_fits_47 : decode cX3_fits 47 = .ok (.aload_n 0, 1) := by decide +kernel
theorem dX3_fits_48 : decode cX3_fits 48 = .ok (.getfield 15, 3) := by decide +kernel
theorem dX3_fits_51 : decode cX3_fits 51 = .ok (.iload_n 1, 1) := by decide +kernel
theorem dX3_fits_52 : decode cX3_fits 52 = .ok (.iaload, 1) := by decide +kernel
theorem dX3_fits_53 : decode cX3_fits 53 = .ok (.iload_n 3, 1) := by decide +kernel
theorem dX3_fits_54 : decode cX3_fits 54 = .ok (.iconst (-1), 1) := by decide +kernel
theorem dX3_fits_55 : decode cX3_fits 55 = .ok (.ixor, 1) := by decide +kernel
theorem dX3_fits_56 : decode cX3_fits 56 = .ok (.iand, 1) := by decide +kernel
theorem dX3_fits_57 : decode cX3_fits 57 = .ok (.ifCond .ne 7, 3) := by decide +kernel
theorem dX3_fits_60 : decode cX3_fits 60 = .ok (.iconst 1, 1) := by decide +kernel
theorem dX3_fits_61 : decode cX3_fits 61 = .ok (.goto 4, 3) := by decide +kernel
theorem dX3_fits_64 : decode cX3_fits 64 = .ok (.iconst 0, 1) := by decide +kernel
theorem dX3_fits_65 : decode cX3_fits 65 = .ok (.ireturn, 1) := by decide +kernel
theorem dX4_init_0 : decode cX4_init 0 = .ok (.aload_n 0, 1) := by decide +kernel
theorem dX4_init_1 : decode cX4_init 1 = .ok (.invokespecial 3, 3) := by decide +kernel
theorem dX4_init_4 : decode cX4_init 4 = .ok (.aload_n 0, 1) := by decide +kernel
theorem dX4_init_5 : decode cX4_init 5 = .ok (.iconst 0, 1) := by decide +kernel
theorem dX4_init_6 : decode cX4_init 6 = .ok (.putfield 9, 3) := by decide +kernel
theorem dX4_init_9 : decode cX4_init 9 = .ok (.aload_n 0, 1) := by decide +kernel
theorem dX4_init_10 : decode cX4_init 10 = .ok (.iconst 0, 1) := by decide +kernel
theorem dX4_init_11 : decode cX4_init 11 = .ok (.putfield 15, 3) := by decide +kernel
theorem dX4_init_14 : decode cX4_init 14 = .ok (.aload_n 0, 1) := by decide +kernel
theorem dX4_init_15 : decode cX4_init 15 = .ok (.bipush 9, 2) := by decide +kernel
theorem dX4_init_17 : decode cX4_init 17 = .ok (.newarray .int, 2) := by decide +kernel
theorem dX4_init_19 : decode cX4_init 19 = .ok (.putfield 18, 3) := by decide +kernel
theorem dX4_init_22 : decode cX4_init 22 = .ok (.aload_n 0, 1) := by decide +kernel
theorem dX4_init_23 : decode cX4_init 23 = .ok (.bipush 9, 2) := by decide +kernel
theorem dX4_init_25 : decode cX4_init 25 = .ok (.newarray .int, 2) := by decide +kernel
theorem dX4_init_27 : decode cX4_init 27 = .ok (.putfield 22, 3) := by decide +kernel
theorem dX4_init_30 : decode cX4_init 30 = .ok (.aload_n 0, 1) := by decide +kernel
theorem dX4_init_31 : decode cX4_init 31 = .ok (.new 25, 3) := by decide +kernel
theorem dX4_init_34 : decode cX4_init 34 = .ok (.dup, 1) := by decide +kernel
theorem dX4_init_35 : decode cX4_init 35 = .ok (.invokespecial 27, 3) := by decide +kernel
theorem dX4_init_38 : decode cX4_init 38 = .ok (.putfield 28, 3) := by decide +kernel
theorem dX4_init_41 : decode cX4_init 41 = .ok (.aload_n 0, 1) := by decide +kernel
theorem dX4_init_42 : decode cX4_init 42 = .ok (.bipush 8, 2) := by decide +kernel
theorem dX4_init_44 : decode cX4_init 44 = .ok (.anewarray 32, 3) := by decide +kernel
theorem dX4_init_47 : decode cX4_init 47 = .ok (.putfield 34, 3) := by decide +kernel
theorem dX4_init_50 : decode cX4_init 50 = .ok (.iconst 0, 1) := by decide +kernel
theorem dX4_init_51 : decode cX4_init 51 = .ok (.istore_n 1, 1) := by decide +kernel
theorem dX4_init_52 : decode cX4_init 52 = .ok (.iload_n 1, 1) := by decide +kernel
theorem dX4_init_53 : decode cX4_init 53 = .ok (.bipush 8, 2) := by decide +kernel
theorem dX4_init_55 : decode cX4_init 55 = .ok (.if_icmp .ge 22, 3) := by decide +kernel
theorem dX4_init_58 : decode cX4_init 58 = .ok (.aload_n 0, 1) := by decide +kernel
theorem dX4_init_59 : decode cX4_init 59 = .ok (.getfield 34, 3) := by decide +kernel
theorem dX4_init_62 : decode cX4_init 62 = .ok (.iload_n 1, 1) := by decide +kernel
theorem dX4_init_63 : decode cX4_init 63 = .ok (.new 32, 3) := by decide +kernel
theorem dX4_init_66 : decode cX4_init 66 = .ok (.dup, 1) := by decide +kernel
theorem dX4_init_67 : decode cX4_init 67 = .ok (.invokespecial 38, 3) := by decide +kernel
theorem dX4_init_70 : decode cX4_init 70 = .ok (.aastore, 1) := by decide +kernel
theorem dX4_init_71 : decode cX4_init 71 = .ok (.iinc 1 1, 3) := by decide +kernel
theorem dX4_init_74 : decode cX4_init 74 = .ok (.goto (-22), 3) := by decide +kernel
theorem dX4_init_77 : decode cX4_init 77 = .ok (.return_, 1) := by decide +kernel
theorem dX4_empty_0 : decode cX4_empty 0 = .ok (.aload_n 0, 1) := by decide +kernel
theorem dX4_empty_1 : decode cX4_empty 1 = .ok (.iconst 0, 1) := by decide +kernel
theorem dX4_empty_2 : decode cX4_empty 2 = .ok (.putfield 9, 3) := by decide +kernel
theorem dX4_empty_5 : decode cX4_empty 5 = .ok (.aload_n 0, 1) := by decide +kernel
theorem dX4_empty_6 : decode cX4_empty 6 = .ok (.iconst 0, 1) := by decide +kernel
theorem dX4_empty_7 : decode cX4_empty 7 = .ok (.putfield 15, 3) := by decide +kernel
theorem dX4_empty_10 : decode cX4_empty 10 = .ok (.aload_n 0, 1) := by decide +kernel
theorem dX4_empty_11 : decode cX4_empty 11 = .ok (.getfield 28, 3) := by decide +kernel
theorem dX4_empty_14 : decode cX4_empty 14 = .ok (.iconst 0, 1) := by decide +kernel
theorem dX4_empty_15 : decode cX4_empty 15 = .ok (.putfield 39, 3) := by decide +kernel
theorem dX4_empty_18 : decode cX4_empty 18 = .ok (.return_, 1) := by decide +kernel
theorem dX4_addNode_0 : decode cX4_addNode 0 = .ok (.aload_n 0, 1) := by decide +kernel
theorem dX4_addNode_1 : decode cX4_addNode 1 = .ok (.getfield 9, 3) := by decide +kernel
theorem dX4_addNode_4 : decode cX4_addNode 4 = .ok (.bipush 9, 2) := by decide +kernel
theorem dX4_addNode_6 : decode cX4_addNode 6 = .ok (.invokestatic 42, 3) := by decide +kernel
theorem dX4_addNode_9 : decode cX4_addNode 9 = .ok (.ifCond .eq 83, 3) := by decide +kernel
theorem dX4_addNode_12 : decode cX4_addNode 12 = .ok (.aload_n 0, 1) := by decide +kernel
theorem dX4_addNode_13 : decode cX4_addNode 13 = .ok (.getfield 18, 3) := by decide +kernel
theorem dX4_addNode_16 : decode cX4_addNode 16 = .ok (.aload_n 0, 1) := by decide +kernel
theorem dX4_addNode_17 : decode cX4_addNode 17 = .ok (.getfield 9, 3) := by decide +kernel
theorem dX4_addNode_20 : decode cX4_addNode 20 = .ok (.iload_n 1, 1) := by decide +kernel
theorem dX4_addNode_21 : decode cX4_addNode 21 = .ok (.iastore, 1) := by decide +kernel
theorem dX4_addNode_22 : decode cX4_addNode 22 = .ok (.aload_n 0, 1) := by decide +kernel
theorem dX4_addNode_23 : decode cX4_addNode 23 = .ok (.getfield 22, 3) := by decide +kernel
theorem dX4_addNode_26 : decode cX4_addNode 26 = .ok (.aload_n 0, 1) := by decide +kernel
theorem dX4_addNode_27 : decode cX4_addNode 27 = .ok (.getfield 9, 3) := by decide +kernel
theorem dX4_addNode_30 : decode cX4_addNode 30 = .ok (.iload_n 1, 1) := by decide +kernel
theorem dX4_addNode_31 : decode cX4_addNode 31 = .ok (.aload_n 0, 1) := by decide +kernel
theorem dX4_addNode_32 : decode cX4_addNode 32 = .ok (.getfield 9, 3) := by decide +kernel
theorem dX4_addNode_35 : decode cX4_addNode 35 = .ok (.invokestatic 42, 3) := by decide +kernel
theorem dX4_addNode_38 : decode cX4_addNode 38 = .ok (.ifCond .eq 16, 3) := by decide +kernel
theorem dX4_addNode_41 : decode cX4_addNode 41 = .ok (.aload_n 0, 1) := by decide +kernel
theorem dX4_addNode_42 : decode cX4_addNode 42 = .ok (.getfield 22, 3) := by decide +kernel
theorem dX4_addNode_45 : decode cX4_addNode 45 = .ok (.iload_n 1, 1) := by decide +kernel
theorem dX4_addNode_46 : decode cX4_addNode 46 = .ok (.iaload, 1) := by decide +kernel
theorem dX4_addNode_47 : decode cX4_addNode 47 = .ok (.iconst 1, 1) := by decide +kernel
theorem dX4_addNode_48 : decode cX4_addNode 48 = .ok (.iload_n 1, 1) := by decide +kernel
theorem dX4_addNode_49 : decode cX4_addNode 49 = .ok (.ishl, 1) := by decide +kernel
theorem dX4_addNode_50 : decode cX4_addNode 50 = .ok (.ior, 1) := by decide +kernel
theorem dX4_addNode_51 : decode cX4_addNode 51 = .ok (.goto 4, 3) := by decide +kernel
theorem dX4_addNode_54 : decode cX4_addNode 54 = .ok (.iconst 0, 1) := by decide +kernel
theorem dX4_addNode_55 : decode cX4_addNode 55 = .ok (.iastore, 1) := by decide +kernel
theorem dX4_addNode_56 : decode cX4_addNode 56 = .ok (.aload_n 0, 1) := by decide +kernel
theorem dX4_addNode_57 : decode cX4_addNode 57 = .ok (.getfield 28, 3) := by decide +kernel
theorem dX4_addNode_60 : decode cX4_addNode 60 = .ok (.getfield 46, 3) := by decide +kernel
theorem dX4_addNode_63 : decode cX4_addNode 63 = .ok (.aload_n 0, 1) := by decide +kernel
theorem dX4_addNode_64 : decode cX4_addNode 64 = .ok (.getfield 9, 3) := by decide +kernel
theorem dX4_addNode_67 : decode cX4_addNode 67 = .ok (.iload_n 2, 1) := by decide +kernel
theorem dX4_addNode_68 : decode cX4_addNode 68 = .ok (.iastore, 1) := by decide +kernel
theorem dX4_addNode_69 : decode cX4_addNode 69 = .ok (.aload_n 0, 1) := by decide +kernel
theorem dX4_addNode_70 : decode cX4_addNode 70 = .ok (.getfield 28, 3) := by decide +kernel
theorem dX4_addNode_73 : decode cX4_addNode 73 = .ok (.getfield 49, 3) := by decide +kernel
theorem dX4_addNode_76 : decode cX4_addNode 76 = .ok (.aload_n 0, 1) := by decide +kernel
theorem dX4_addNode_77 : decode cX4_addNode 77 = .ok (.getfield 9, 3) := by decide +kernel
theorem dX4_addNode_80 : decode cX4_addNode 80 = .ok (.iload_n 3, 1) := by decide +kernel
theorem dX4_addNode_81 : decode cX4_addNode 81 = .ok (.iastore, 1) := by decide +kernel
theorem dX4_addNode_82 : decode cX4_addNode 82 = .ok (.aload_n 0, 1) := by decide +kernel
theorem dX4_addNode_83 : decode cX4_addNode 83 = .ok (.dup, 1) := by decide +kernel
theorem dX4_addNode_84 : decode cX4_addNode 84 = .ok (.getfield 9, 3) := by decide +kernel
theorem dX4_addNode_87 : decode cX4_addNode 87 = .ok (.iconst 1, 1) := by decide +kernel
theorem dX4_addNode_88 : decode cX4_addNode 88 = .ok (.iadd, 1) := by decide +kernel
theorem dX4_addNode_89 : decode cX4_addNode 89 = .ok (.putfield 9, 3) := by decide +kernel
theorem dX4_addNode_92 : decode cX4_addNode 92 = .ok (.return_, 1) := by decide +kernel
theorem dX4_addRule_0 : decode cX4_addRule 0 = .ok (.aload_n 0, 1) := by decide +kernel
theorem dX4_addRule_1 : decode cX4_addRule 1 = .ok (.getfield 15, 3) := by decide +kernel
theorem dX4_addRule_4 : decode cX4_addRule 4 = .ok (.bipush 8, 2) := by decide +kernel
theorem dX4_addRule_6 : decode cX4_addRule 6 = .ok (.invokestatic 42, 3) := by decide +kernel
theorem dX4_addRule_9 : decode cX4_addRule 9 = .ok (.ifCond .eq 31, 3) := by decide +kernel
theorem dX4_addRule_12 : decode cX4_addRule 12 = .ok (.aload_n 0, 1) := by decide +kernel
theorem dX4_addRule_13 : decode cX4_addRule 13 = .ok (.getfield 28, 3) := by decide +kernel
theorem dX4_addRule_16 : decode cX4_addRule 16 = .ok (.dup, 1) := by decide +kernel
theorem dX4_addRule_17 : decode cX4_addRule 17 = .ok (.getfield 39, 3) := by decide +kernel
theorem dX4_addRule_20 : decode cX4_addRule 20 = .ok (.iconst 1, 1) := by decide +kernel
theorem dX4_addRule_21 : decode cX4_addRule 21 = .ok (.aload_n 0, 1) := by decide +kernel
theorem dX4_addRule_22 : decode cX4_addRule 22 = .ok (.getfield 15, 3) := by decide +kernel
theorem dX4_addRule_25 : decode cX4_addRule 25 = .ok (.ishl, 1) := by decide +kernel
theorem dX4_addRule_26 : decode cX4_addRule 26 = .ok (.ior, 1) := by decide +kernel
theorem dX4_addRule_27 : decode cX4_addRule 27 = .ok (.putfield 39, 3) := by decide +kernel
theorem dX4_addRule_30 : decode cX4_addRule 30 = .ok (.aload_n 0, 1) := by decide +kernel
theorem dX4_addRule_31 : decode cX4_addRule 31 = .ok (.dup, 1) := by decide +kernel
theorem dX4_addRule_32 : decode cX4_addRule 32 = .ok (.getfield 15, 3) := by decide +kernel
theorem dX4_addRule_35 : decode cX4_addRule 35 = .ok (.iconst 1, 1) := by decide +kernel
theorem dX4_addRule_36 : decode cX4_addRule 36 = .ok (.iadd, 1) := by decide +kernel
theorem dX4_addRule_37 : decode cX4_addRule 37 = .ok (.putfield 15, 3) := by decide +kernel
theorem dX4_addRule_40 : decode cX4_addRule 40 = .ok (.return_, 1) := by decide +kernel
theorem dX4_below_0 : decode cX4_below 0 = .ok (.iconst 0, 1) := by decide +kernel
theorem dX4_below_1 : decode cX4_below 1 = .ok (.istore_n 2, 1) := by decide +kernel
theorem dX4_below_2 : decode cX4_below 2 = .ok (.iconst 0, 1) := by decide +kernel
theorem dX4_below_3 : decode cX4_below 3 = .ok (.istore_n 3, 1) := by decide +kernel
theorem dX4_below_4 : decode cX4_below 4 = .ok (.iload_n 3, 1) := by decide +kernel
theorem dX4_below_5 : decode cX4_below 5 = .ok (.aload_n 0, 1) := by decide +kernel
theorem dX4_below_6 : decode cX4_below 6 = .ok (.getfield 9, 3) := by decide +kernel
theorem dX4_below_9 : decode cX4_below 9 = .ok (.if_icmp .ge 28, 3) := by decide +kernel
theorem dX4_below_12 : decode cX4_below 12 = .ok (.aload_n 0, 1) := by decide +kernel
theorem dX4_below_13 : decode cX4_below 13 = .ok (.getfield 22, 3) := by decide +kernel
theorem dX4_below_16 : decode cX4_below 16 = .ok (.iload_n 3, 1) := by decide +kernel
theorem dX4_below_17 : decode cX4_below 17 = .ok (.iaload, 1) := by decide +kernel
theorem dX4_below_18 : decode cX4_below 18 = .ok (.iload_n 1, 1) := by decide +kernel
theorem dX4_below_19 : decode cX4_below 19 = .ok (.invokestatic 52, 3) := by decide +kernel
theorem dX4_below_22 : decode cX4_below 22 = .ok (.ifCond .eq 9, 3) := by decide +kernel
theorem dX4_below_25 : decode cX4_below 25 = .ok (.iload_n 2, 1) := by decide +kernel
theorem dX4_below_26 : decode cX4_below 26 = .ok (.iconst 1, 1) := by decide +kernel
theorem dX4_below_27 : decode cX4_below 27 = .ok (.iload_n 3, 1) := by decide +kernel
theorem dX4_below_28 : decode cX4_below 28 = .ok (.ishl, 1) := by decide +kernel
theorem dX4_below_29 : decode cX4_below 29 = .ok (.ior, 1) := by decide +kernel
theorem dX4_below_30 : decode cX4_below 30 = .ok (.istore_n 2, 1) := by decide +kernel
theorem dX4_below_31 : decode cX4_below 31 = .ok (.iinc 3 1, 3) := by decide +kernel
theorem dX4_below_34 : decode cX4_below 34 = .ok (.goto (-30), 3) := by decide +kernel
theorem dX4_below_37 : decode cX4_below 37 = .ok (.iload_n 2, 1) := by decide +kernel
theorem dX4_below_38 : decode cX4_below 38 = .ok (.ireturn, 1) := by decide +kernel
theorem dX4_fitted_0 : decode cX4_fitted 0 = .ok (.iconst 0, 1) := by decide +kernel
theorem dX4_fitted_1 : decode cX4_fitted 1 = .ok (.istore 4, 2) := by decide +kernel
theorem dX4_fitted_3 : decode cX4_fitted 3 = .ok (.iconst 0, 1) := by decide +kernel
theorem dX4_fitted_4 : decode cX4_fitted 4 = .ok (.istore 5, 2) := by decide +kernel
theorem dX4_fitted_6 : decode cX4_fitted 6 = .ok (.iload 5, 2) := by decide +kernel
theorem dX4_fitted_8 : decode cX4_fitted 8 = .ok (.aload_n 0, 1) := by decide +kernel
theorem dX4_fitted_9 : decode cX4_fitted 9 = .ok (.getfield 9, 3) := by decide +kernel
theorem dX4_fitted_12 : decode cX4_fitted 12 = .ok (.if_icmp .ge 40, 3) := by decide +kernel
theorem dX4_fitted_15 : decode cX4_fitted 15 = .ok (.aload_n 2, 1) := by decide +kernel
theorem dX4_fitted_16 : decode cX4_fitted 16 = .ok (.iload_n 3, 1) := by decide +kernel
theorem dX4_fitted_17 : decode cX4_fitted 17 = .ok (.aload_n 1, 1) := by decide +kernel
theorem dX4_fitted_18 : decode cX4_fitted 18 = .ok (.getfield 46, 3) := by decide +kernel
theorem dX4_fitted_21 : decode cX4_fitted 21 = .ok (.iload 5, 2) := by decide +kernel
theorem dX4_fitted_23 : decode cX4_fitted 23 = .ok (.iaload, 1) := by decide +kernel
theorem dX4_fitted_24 : decode cX4_fitted 24 = .ok (.aload_n 1, 1) := by decide +kernel
theorem dX4_fitted_25 : decode cX4_fitted 25 = .ok (.getfield 49, 3) := by decide +kernel
theorem dX4_fitted_28 : decode cX4_fitted 28 = .ok (.iload 5, 2) := by decide +kernel
theorem dX4_fitted_30 : decode cX4_fitted 30 = .ok (.iaload, 1) := by decide +kernel
theorem dX4_fitted_31 : decode cX4_fitted 31 = .ok (.invokevirtual 55, 3) := by decide +kernel
theorem dX4_fitted_34 : decode cX4_fitted 34 = .ok (.ifCond .eq 12, 3) := by decide +kernel
theorem dX4_fitted_37 : decode cX4_fitted 37 = .ok (.iload 4, 2) := by decide +kernel
theorem dX4_fitted_39 : decode cX4_fitted 39 = .ok (.iconst 1, 1) := by decide +kernel
theorem dX4_fitted_40 : decode cX4_fitted 40 = .ok (.iload 5, 2) := by decide +kernel
theorem dX4_fitted_42 : decode cX4_fitted 42 = .ok (.ishl, 1) := by decide +kernel
theorem dX4_fitted_43 : decode cX4_fitted 43 = .ok (.ior, 1) := by decide +kernel
theorem dX4_fitted_44 : decode cX4_fitted 44 = .ok (.istore 4, 2) := by decide +kernel
theorem dX4_fitted_46 : decode cX4_fitted 46 = .ok (.iinc 5 1, 3) := by decide +kernel
theorem dX4_fitted_49 : decode cX4_fitted 49 = .ok (.goto (-43), 3) := by decide +kernel
theorem dX4_fitted_52 : decode cX4_fitted 52 = .ok (.iload 4, 2) := by decide +kernel
theorem dX4_fitted_54 : decode cX4_fitted 54 = .ok (.ireturn, 1) := by decide +kernel
theorem dX4_reached_0 : decode cX4_reached 0 = .ok (.aload_n 0, 1) := by decide +kernel
theorem dX4_reached_1 : decode cX4_reached 1 = .ok (.aload_n 1, 1) := by decide +kernel
theorem dX4_reached_2 : decode cX4_reached 2 = .ok (.aload_n 2, 1) := by decide +kernel
theorem dX4_reached_3 : decode cX4_reached 3 = .ok (.iconst 0, 1) := by decide +kernel
theorem dX4_reached_4 : decode cX4_reached 4 = .ok (.invokevirtual 59, 3) := by decide +kernel
theorem dX4_reached_7 : decode cX4_reached 7 = .ok (.istore_n 3, 1) := by decide +kernel
theorem dX4_reached_8 : decode cX4_reached 8 = .ok (.iconst 1, 1) := by decide +kernel
theorem dX4_reached_9 : decode cX4_reached 9 = .ok (.istore 4, 2) := by decide +kernel
theorem dX4_reached_11 : decode cX4_reached 11 = .ok (.iload 4, 2) := by decide +kernel
theorem dX4_reached_13 : decode cX4_reached 13 = .ok (.aload_n 2, 1) := by decide +kernel
theorem dX4_reached_14 : decode cX4_reached 14 = .ok (.getfield 63, 3) := by decide +kernel
theorem dX4_reached_17 : decode cX4_reached 17 = .ok (.if_icmp .ge 31, 3) := by decide +kernel
theorem dX4_reached_20 : decode cX4_reached 20 = .ok (.aload_n 0, 1) := by decide +kernel
theorem dX4_reached_21 : decode cX4_reached 21 = .ok (.aload_n 1, 1) := by decide +kernel
theorem dX4_reached_22 : decode cX4_reached 22 = .ok (.aload_n 2, 1) := by decide +kernel
theorem dX4_reached_23 : decode cX4_reached 23 = .ok (.iload 4, 2) := by decide +kernel
theorem dX4_reached_25 : decode cX4_reached 25 = .ok (.invokevirtual 59, 3) := by decide +kernel
theorem dX4_reached_28 : decode cX4_reached 28 = .ok (.aload_n 0, 1) := by decide +kernel
theorem dX4_reached_29 : decode cX4_reached 29 = .ok (.iload_n 3, 1) := by decide +kernel
theorem dX4_reached_30 : decode cX4_reached 30 = .ok (.aload_n 2, 1) := by decide +kernel
theorem dX4_reached_31 : decode cX4_reached 31 = .ok (.getfield 66, 3) := by decide +kernel
theorem dX4_reached_34 : decode cX4_reached 34 = .ok (.iload 4, 2) := by decide +kernel
theorem dX4_reached_36 : decode cX4_reached 36 = .ok (.baload, 1) := by decide +kernel
theorem dX4_reached_37 : decode cX4_reached 37 = .ok (.invokevirtual 70, 3) := by decide +kernel
theorem dX4_reached_40 : decode cX4_reached 40 = .ok (.iand, 1) := by decide +kernel
theorem dX4_reached_41 : decode cX4_reached 41 = .ok (.istore_n 3, 1) := by decide +kernel
theorem dX4_reached_42 : decode cX4_reached 42 = .ok (.iinc 4 1, 3) := by decide +kernel
theorem dX4_reached_45 : decode cX4_reached 45 = .ok (.goto (-34), 3) := by decide +kernel
theorem dX4_reached_48 : decode cX4_reached 48 = .ok (.iload_n 3, 1) := by decide +kernel
theorem dX4_reached_49 : decode cX4_reached 49 = .ok (.ireturn, 1) := by decide +kernel
theorem dX4_under_0 : decode cX4_under 0 = .ok (.iconst 0, 1) := by decide +kernel
theorem dX4_under_1 : decode cX4_under 1 = .ok (.istore_n 3, 1) := by decide +kernel
theorem dX4_under_2 : decode cX4_under 2 = .ok (.iconst 0, 1) := by decide +kernel
theorem dX4_under_3 : decode cX4_under 3 = .ok (.istore 4, 2) := by decide +kernel
theorem dX4_under_5 : decode cX4_under 5 = .ok (.iload 4, 2) := by decide +kernel
theorem dX4_under_7 : decode cX4_under 7 = .ok (.aload_n 0, 1) := by decide +kernel
theorem dX4_under_8 : decode cX4_under 8 = .ok (.getfield 9, 3) := by decide +kernel
theorem dX4_under_11 : decode cX4_under 11 = .ok (.if_icmp .ge 68, 3) := by decide +kernel
theorem dX4_under_14 : decode cX4_under 14 = .ok (.aload_n 0, 1) := by decide +kernel
theorem dX4_under_15 : decode cX4_under 15 = .ok (.getfield 22, 3) := by decide +kernel
theorem dX4_under_18 : decode cX4_under 18 = .ok (.iload 4, 2) := by decide +kernel
theorem dX4_under_20 : decode cX4_under 20 = .ok (.iaload, 1) := by decide +kernel
theorem dX4_under_21 : decode cX4_under 21 = .ok (.istore 5, 2) := by decide +kernel
theorem dX4_under_23 : decode cX4_under 23 = .ok (.iload_n 2, 1) := by decide +kernel
theorem dX4_under_24 : decode cX4_under 24 = .ok (.ifCond .eq 35, 3) := by decide +kernel
theorem dX4_under_27 : decode cX4_under 27 = .ok (.aload_n 0, 1) := by decide +kernel
theorem dX4_under_28 : decode cX4_under 28 = .ok (.getfield 18, 3) := by decide +kernel
theorem dX4_under_31 : decode cX4_under 31 = .ok (.iload 4, 2) := by decide +kernel
theorem dX4_under_33 : decode cX4_under 33 = .ok (.iaload, 1) := by decide +kernel
theorem dX4_under_34 : decode cX4_under 34 = .ok (.aload_n 0, 1) := by decide +kernel
theorem dX4_under_35 : decode cX4_under 35 = .ok (.getfield 9, 3) := by decide +kernel
theorem dX4_under_38 : decode cX4_under 38 = .ok (.invokestatic 42, 3) := by decide +kernel
theorem dX4_under_41 : decode cX4_under 41 = .ok (.ifCond .eq 15, 3) := by decide +kernel
theorem dX4_under_44 : decode cX4_under 44 = .ok (.iconst 1, 1) := by decide +kernel
theorem dX4_under_45 : decode cX4_under 45 = .ok (.aload_n 0, 1) := by decide +kernel
theorem dX4_under_46 : decode cX4_under 46 = .ok (.getfield 18, 3) := by decide +kernel
theorem dX4_under_49 : decode cX4_under 49 = .ok (.iload 4, 2) := by decide +kernel
theorem dX4_under_51 : decode cX4_under 51 = .ok (.iaload, 1) := by decide +kernel
theorem dX4_under_52 : decode cX4_under 52 = .ok (.ishl, 1) := by decide +kernel
theorem dX4_under_53 : decode cX4_under 53 = .ok (.goto 4, 3) := by decide +kernel
theorem dX4_under_56 : decode cX4_under 56 = .ok (.iconst 0, 1) := by decide +kernel
theorem dX4_under_57 : decode cX4_under 57 = .ok (.istore 5, 2) := by decide +kernel
theorem dX4_under_59 : decode cX4_under 59 = .ok (.iload 5, 2) := by decide +kernel
theorem dX4_under_61 : decode cX4_under 61 = .ok (.iload_n 1, 1) := by decide +kernel
theorem dX4_under_62 : decode cX4_under 62 = .ok (.iand, 1) := by decide +kernel
theorem dX4_under_63 : decode cX4_under 63 = .ok (.ifCond .eq 10, 3) := by decide +kernel
theorem dX4_under_66 : decode cX4_under 66 = .ok (.iload_n 3, 1) := by decide +kernel
theorem dX4_under_67 : decode cX4_under 67 = .ok (.iconst 1, 1) := by decide +kernel
theorem dX4_under_68 : decode cX4_under 68 = .ok (.iload 4, 2) := by decide +kernel
theorem dX4_under_70 : decode cX4_under 70 = .ok (.ishl, 1) := by decide +kernel
theorem dX4_under_71 : decode cX4_under 71 = .ok (.ior, 1) := by decide +kernel
theorem dX4_under_72 : decode cX4_under 72 = .ok (.istore_n 3, 1) := by decide +kernel
theorem dX4_under_73 : decode cX4_under 73 = .ok (.iinc 4 1, 3) := by decide +kernel
theorem dX4_under_76 : decode cX4_under 76 = .ok (.goto (-71), 3) := by decide +kernel
theorem dX4_under_79 : decode cX4_under 79 = .ok (.iload_n 3, 1) := by decide +kernel
theorem dX4_under_80 : decode cX4_under 80 = .ok (.ireturn, 1) := by decide +kernel
theorem dX4_strongest_0 : decode cX4_strongest 0 = .ok (.bipush (-9), 2) := by decide +kernel
theorem dX4_strongest_2 : decode cX4_strongest 2 = .ok (.istore_n 3, 1) := by decide +kernel
theorem dX4_strongest_3 : decode cX4_strongest 3 = .ok (.iconst 0, 1) := by decide +kernel
theorem dX4_strongest_4 : decode cX4_strongest 4 = .ok (.istore 4, 2) := by decide +kernel
theorem dX4_strongest_6 : decode cX4_strongest 6 = .ok (.iconst 0, 1) := by decide +kernel
theorem dX4_strongest_7 : decode cX4_strongest 7 = .ok (.istore 5, 2) := by decide +kernel
theorem dX4_strongest_9 : decode cX4_strongest 9 = .ok (.iload 5, 2) := by decide +kernel
theorem dX4_strongest_11 : decode cX4_strongest 11 = .ok (.aload_n 0, 1) := by decide +kernel
theorem dX4_strongest_12 : decode cX4_strongest 12 = .ok (.getfield 15, 3) := by decide +kernel
theorem dX4_strongest_15 : decode cX4_strongest 15 = .ok (.if_icmp .ge 63, 3) := by decide +kernel
theorem dX4_strongest_18 : decode cX4_strongest 18 = .ok (.iload_n 1, 1) := by decide +kernel
theorem dX4_strongest_19 : decode cX4_strongest 19 = .ok (.iload 5, 2) := by decide +kernel
theorem dX4_strongest_21 : decode cX4_strongest 21 = .ok (.invokestatic 52, 3) := by decide +kernel
theorem dX4_strongest_24 : decode cX4_strongest 24 = .ok (.ifCond .eq 48, 3) := by decide +kernel
theorem dX4_strongest_27 : decode cX4_strongest 27 = .ok (.aload_n 0, 1) := by decide +kernel
theorem dX4_strongest_28 : decode cX4_strongest 28 = .ok (.getfield 34, 3) := by decide +kernel
theorem dX4_strongest_31 : decode cX4_strongest 31 = .ok (.iload 5, 2) := by decide +kernel
theorem dX4_strongest_33 : decode cX4_strongest 33 = .ok (.aaload, 1) := by decide +kernel
theorem dX4_strongest_34 : decode cX4_strongest 34 = .ok (.getfield 74, 3) := by decide +kernel
theorem dX4_strongest_37 : decode cX4_strongest 37 = .ok (.iload_n 2, 1) := by decide +kernel
theorem dX4_strongest_38 : decode cX4_strongest 38 = .ok (.invokestatic 52, 3) := by decide +kernel
theorem dX4_strongest_41 : decode cX4_strongest 41 = .ok (.ifCond .eq 31, 3) := by decide +kernel
theorem dX4_strongest_44 : decode cX4_strongest 44 = .ok (.aload_n 0, 1) := by decide +kernel
theorem dX4_strongest_45 : decode cX4_strongest 45 = .ok (.getfield 34, 3) := by decide +kernel
theorem dX4_strongest_48 : decode cX4_strongest 48 = .ok (.iload 5, 2) := by decide +kernel
theorem dX4_strongest_50 : decode cX4_strongest 50 = .ok (.aaload, 1) := by decide +kernel
theorem dX4_strongest_51 : decode cX4_strongest 51 = .ok (.getfield 77, 3) := by decide +kernel
theorem dX4_strongest_54 : decode cX4_strongest 54 = .ok (.iload_n 2, 1) := by decide +kernel
theorem dX4_strongest_55 : decode cX4_strongest 55 = .ok (.iaload, 1) := by decide +kernel
theorem dX4_strongest_56 : decode cX4_strongest 56 = .ok (.istore 6, 2) := by decide +kernel
theorem dX4_strongest_58 : decode cX4_strongest 58 = .ok (.iload 6, 2) := by decide +kernel
theorem dX4_strongest_60 : decode cX4_strongest 60 = .ok (.iload 4, 2) := by decide +kernel
theorem dX4_strongest_62 : decode cX4_strongest 62 = .ok (.if_icmp .lt 10, 3) := by decide +kernel
theorem dX4_strongest_65 : decode cX4_strongest 65 = .ok (.iload 6, 2) := by decide +kernel
theorem dX4_strongest_67 : decode cX4_strongest 67 = .ok (.istore 4, 2) := by decide +kernel
theorem dX4_strongest_69 : decode cX4_strongest 69 = .ok (.iload 5, 2) := by decide +kernel
theorem dX4_strongest_71 : decode cX4_strongest 71 = .ok (.istore_n 3, 1) := by decide +kernel
theorem dX4_strongest_72 : decode cX4_strongest 72 = .ok (.iinc 5 1, 3) := by decide +kernel
theorem dX4_strongest_75 : decode cX4_strongest 75 = .ok (.goto (-66), 3) := by decide +kernel
theorem dX4_strongest_78 : decode cX4_strongest 78 = .ok (.iload_n 3, 1) := by decide +kernel
theorem dX4_strongest_79 : decode cX4_strongest 79 = .ok (.ireturn, 1) := by decide +kernel
theorem dX4_lookedAt_0 : decode cX4_lookedAt 0 = .ok (.iconst 0, 1) := by decide +kernel
theorem dX4_lookedAt_1 : decode cX4_lookedAt 1 = .ok (.istore 4, 2) := by decide +kernel
theorem dX4_lookedAt_3 : decode cX4_lookedAt 3 = .ok (.iconst 0, 1) := by decide +kernel
theorem dX4_lookedAt_4 : decode cX4_lookedAt 4 = .ok (.istore 5, 2) := by decide +kernel
theorem dX4_lookedAt_6 : decode cX4_lookedAt 6 = .ok (.iload 5, 2) := by decide +kernel
theorem dX4_lookedAt_8 : decode cX4_lookedAt 8 = .ok (.aload_n 0, 1) := by decide +kernel
theorem dX4_lookedAt_9 : decode cX4_lookedAt 9 = .ok (.getfield 15, 3) := by decide +kernel
theorem dX4_lookedAt_12 : decode cX4_lookedAt 12 = .ok (.if_icmp .ge 37, 3) := by decide +kernel
theorem dX4_lookedAt_15 : decode cX4_lookedAt 15 = .ok (.aload_n 1, 1) := by decide +kernel
theorem dX4_lookedAt_16 : decode cX4_lookedAt 16 = .ok (.iload 5, 2) := by decide +kernel
theorem dX4_lookedAt_18 : decode cX4_lookedAt 18 = .ok (.invokevirtual 80, 3) := by decide +kernel
theorem dX4_lookedAt_21 : decode cX4_lookedAt 21 = .ok (.ifCond .eq 22, 3) := by decide +kernel
theorem dX4_lookedAt_24 : decode cX4_lookedAt 24 = .ok (.iload 4, 2) := by decide +kernel
theorem dX4_lookedAt_26 : decode cX4_lookedAt 26 = .ok (.aload_n 0, 1) := by decide +kernel
theorem dX4_lookedAt_27 : decode cX4_lookedAt 27 = .ok (.aload_n 1, 1) := by decide +kernel
theorem dX4_lookedAt_28 : decode cX4_lookedAt 28 = .ok (.aload_n 0, 1) := by decide +kernel
theorem dX4_lookedAt_29 : decode cX4_lookedAt 29 = .ok (.getfield 34, 3) := by decide +kernel
theorem dX4_lookedAt_32 : decode cX4_lookedAt 32 = .ok (.iload 5, 2) := by decide +kernel
theorem dX4_lookedAt_34 : decode cX4_lookedAt 34 = .ok (.aaload, 1) := by decide +kernel
theorem dX4_lookedAt_35 : decode cX4_lookedAt 35 = .ok (.iload_n 2, 1) := by decide +kernel
theorem dX4_lookedAt_36 : decode cX4_lookedAt 36 = .ok (.iload_n 3, 1) := by decide +kernel
theorem dX4_lookedAt_37 : decode cX4_lookedAt 37 = .ok (.invokevirtual 84, 3) := by decide +kernel
theorem dX4_lookedAt_40 : decode cX4_lookedAt 40 = .ok (.ior, 1) := by decide +kernel
theorem dX4_lookedAt_41 : decode cX4_lookedAt 41 = .ok (.istore 4, 2) := by decide +kernel
theorem dX4_lookedAt_43 : decode cX4_lookedAt 43 = .ok (.iinc 5 1, 3) := by decide +kernel
theorem dX4_lookedAt_46 : decode cX4_lookedAt 46 = .ok (.goto (-40), 3) := by decide +kernel
theorem dX4_lookedAt_49 : decode cX4_lookedAt 49 = .ok (.iload 4, 2) := by decide +kernel
theorem dX4_lookedAt_51 : decode cX4_lookedAt 51 = .ok (.ireturn, 1) := by decide +kernel
theorem dX4_lookedAtBy_0 : decode cX4_lookedAtBy 0 = .ok (.aload_n 2, 1) := by decide +kernel
theorem dX4_lookedAtBy_1 : decode cX4_lookedAtBy 1 = .ok (.getfield 63, 3) := by decide +kernel
theorem dX4_lookedAtBy_4 : decode cX4_lookedAtBy 4 = .ok (.iconst 1, 1) := by decide +kernel
theorem dX4_lookedAtBy_5 : decode cX4_lookedAtBy 5 = .ok (.isub, 1) := by decide +kernel
theorem dX4_lookedAtBy_6 : decode cX4_lookedAtBy 6 = .ok (.istore 5, 2) := by decide +kernel
theorem dX4_lookedAtBy_8 : decode cX4_lookedAtBy 8 = .ok (.iconst 0, 1) := by decide +kernel
theorem dX4_lookedAtBy_9 : decode cX4_lookedAtBy 9 = .ok (.istore 6, 2) := by decide +kernel
theorem dX4_lookedAtBy_11 : decode cX4_lookedAtBy 11 = .ok (.iconst 0, 1) := by decide +kernel
theorem dX4_lookedAtBy_12 : decode cX4_lookedAtBy 12 = .ok (.istore 7, 2) := by decide +kernel
theorem dX4_lookedAtBy_14 : decode cX4_lookedAtBy 14 = .ok (.iload 7, 2) := by decide +kernel
theorem dX4_lookedAtBy_16 : decode cX4_lookedAtBy 16 = .ok (.iload 5, 2) := by decide +kernel
theorem dX4_lookedAtBy_18 : decode cX4_lookedAtBy 18 = .ok (.if_icmp .gt 56, 3) := by decide +kernel
theorem dX4_lookedAtBy_21 : decode cX4_lookedAtBy 21 = .ok (.aload_n 2, 1) := by decide +kernel
theorem dX4_lookedAtBy_22 : decode cX4_lookedAtBy 22 = .ok (.getfield 88, 3) := by decide +kernel
theorem dX4_lookedAtBy_25 : decode cX4_lookedAtBy 25 = .ok (.iload 7, 2) := by decide +kernel
theorem dX4_lookedAtBy_27 : decode cX4_lookedAtBy 27 = .ok (.iaload, 1) := by decide +kernel
theorem dX4_lookedAtBy_28 : decode cX4_lookedAtBy 28 = .ok (.iload 4, 2) := by decide +kernel
theorem dX4_lookedAtBy_30 : decode cX4_lookedAtBy 30 = .ok (.invokestatic 52, 3) := by decide +kernel
theorem dX4_lookedAtBy_33 : decode cX4_lookedAtBy 33 = .ok (.ifCond .eq 35, 3) := by decide +kernel
theorem dX4_lookedAtBy_36 : decode cX4_lookedAtBy 36 = .ok (.iload 6, 2) := by decide +kernel
theorem dX4_lookedAtBy_38 : decode cX4_lookedAtBy 38 = .ok (.iload 7, 2) := by decide +kernel
theorem dX4_lookedAtBy_40 : decode cX4_lookedAtBy 40 = .ok (.iload 5, 2) := by decide +kernel
theorem dX4_lookedAtBy_42 : decode cX4_lookedAtBy 42 = .ok (.if_icmp .ne 9, 3) := by decide +kernel
theorem dX4_lookedAtBy_45 : decode cX4_lookedAtBy 45 = .ok (.iconst 1, 1) := by decide +kernel
theorem dX4_lookedAtBy_46 : decode cX4_lookedAtBy 46 = .ok (.iload_n 3, 1) := by decide +kernel
theorem dX4_lookedAtBy_47 : decode cX4_lookedAtBy 47 = .ok (.ishl, 1) := by decide +kernel
theorem dX4_lookedAtBy_48 : decode cX4_lookedAtBy 48 = .ok (.goto 17, 3) := by decide +kernel
theorem dX4_lookedAtBy_51 : decode cX4_lookedAtBy 51 = .ok (.aload_n 0, 1) := by decide +kernel
theorem dX4_lookedAtBy_52 : decode cX4_lookedAtBy 52 = .ok (.iload_n 3, 1) := by decide +kernel
theorem dX4_lookedAtBy_53 : decode cX4_lookedAtBy 53 = .ok (.invokevirtual 89, 3) := by decide +kernel
theorem dX4_lookedAtBy_56 : decode cX4_lookedAtBy 56 = .ok (.aload_n 0, 1) := by decide +kernel
theorem dX4_lookedAtBy_57 : decode cX4_lookedAtBy 57 = .ok (.aload_n 1, 1) := by decide +kernel
theorem dX4_lookedAtBy_58 : decode cX4_lookedAtBy 58 = .ok (.aload_n 2, 1) := by decide +kernel
theorem dX4_lookedAtBy_59 : decode cX4_lookedAtBy 59 = .ok (.iload 5, 2) := by decide +kernel
theorem dX4_lookedAtBy_61 : decode cX4_lookedAtBy 61 = .ok (.invokevirtual 59, 3) := by decide +kernel
theorem dX4_lookedAtBy_64 : decode cX4_lookedAtBy 64 = .ok (.iand, 1) := by decide +kernel
theorem dX4_lookedAtBy_65 : decode cX4_lookedAtBy 65 = .ok (.ior, 1) := by decide +kernel
theorem dX4_lookedAtBy_66 : decode cX4_lookedAtBy 66 = .ok (.istore 6, 2) := by decide +kernel
theorem dX4_lookedAtBy_68 : decode cX4_lookedAtBy 68 = .ok (.iinc 7 1, 3) := by decide +kernel
theorem dX4_lookedAtBy_71 : decode cX4_lookedAtBy 71 = .ok (.goto (-57), 3) := by decide +kernel
theorem dX4_lookedAtBy_74 : decode cX4_lookedAtBy 74 = .ok (.iload 6, 2) := by decide +kernel
theorem dX4_lookedAtBy_76 : decode cX4_lookedAtBy 76 = .ok (.ireturn, 1) := by decide +kernel
theorem dX5_init_0 : decode cX5_init 0 = .ok (.aload_n 0, 1) := by decide +kernel
theorem dX5_init_1 : decode cX5_init 1 = .ok (.invokespecial 3, 3) := by decide +kernel
theorem dX5_init_4 : decode cX5_init 4 = .ok (.aload_n 0, 1) := by decide +kernel
theorem dX5_init_5 : decode cX5_init 5 = .ok (.bipush 6, 2) := by decide +kernel
theorem dX5_init_7 : decode cX5_init 7 = .ok (.newarray .int, 2) := by decide +kernel
theorem dX5_init_9 : decode cX5_init 9 = .ok (.putfield 9, 3) := by decide +kernel
theorem dX5_init_12 : decode cX5_init 12 = .ok (.aload_n 0, 1) := by decide +kernel
theorem dX5_init_13 : decode cX5_init 13 = .ok (.bipush 6, 2) := by decide +kernel
theorem dX5_init_15 : decode cX5_init 15 = .ok (.newarray .int, 2) := by decide +kernel
theorem dX5_init_17 : decode cX5_init 17 = .ok (.putfield 15, 3) := by decide +kernel
theorem dX5_init_20 : decode cX5_init 20 = .ok (.aload_n 0, 1) := by decide +kernel
theorem dX5_init_21 : decode cX5_init 21 = .ok (.bipush 6, 2) := by decide +kernel
theorem dX5_init_23 : decode cX5_init 23 = .ok (.newarray .int, 2) := by decide +kernel
theorem dX5_init_25 : decode cX5_init 25 = .ok (.putfield 18, 3) := by decide +kernel
theorem dX5_init_28 : decode cX5_init 28 = .ok (.aload_n 0, 1) := by decide +kernel
theorem dX5_init_29 : decode cX5_init 29 = .ok (.iconst 0, 1) := by decide +kernel
theorem dX5_init_30 : decode cX5_init 30 = .ok (.putfield 21, 3) := by decide +kernel
theorem dX5_init_33 : decode cX5_init 33 = .ok (.return_, 1) := by decide +kernel
theorem dX5_empty_0 : decode cX5_empty 0 = .ok (.aload_n 0, 1) := by decide +kernel
theorem dX5_empty_1 : decode cX5_empty 1 = .ok (.iconst 0, 1) := by decide +kernel
theorem dX5_empty_2 : decode cX5_empty 2 = .ok (.putfield 21, 3) := by decide +kernel
theorem dX5_empty_5 : decode cX5_empty 5 = .ok (.return_, 1) := by decide +kernel
theorem dX5_add_0 : decode cX5_add 0 = .ok (.aload_n 0, 1) := by decide +kernel
theorem dX5_add_1 : decode cX5_add 1 = .ok (.getfield 21, 3) := by decide +kernel
theorem dX5_add_4 : decode cX5_add 4 = .ok (.bipush 6, 2) := by decide +kernel
theorem dX5_add_6 : decode cX5_add 6 = .ok (.invokestatic 25, 3) := by decide +kernel
theorem dX5_add_9 : decode cX5_add 9 = .ok (.ifCond .ne 5, 3) := by decide +kernel
theorem dX5_add_12 : decode cX5_add 12 = .ok (.iconst 0, 1) := by decide +kernel
theorem dX5_add_13 : decode cX5_add 13 = .ok (.ireturn, 1) := by decide +kernel
theorem dX5_add_14 : decode cX5_add 14 = .ok (.aload_n 0, 1) := by decide +kernel
theorem dX5_add_15 : decode cX5_add 15 = .ok (.getfield 9, 3) := by decide +kernel
theorem dX5_add_18 : decode cX5_add 18 = .ok (.aload_n 0, 1) := by decide +kernel
theorem dX5_add_19 : decode cX5_add 19 = .ok (.getfield 21, 3) := by decide +kernel
theorem dX5_add_22 : decode cX5_add 22 = .ok (.iload_n 1, 1) := by decide +kernel
theorem dX5_add_23 : decode cX5_add 23 = .ok (.iastore, 1) := by decide +kernel
theorem dX5_add_24 : decode cX5_add 24 = .ok (.aload_n 0, 1) := by decide +kernel
theorem dX5_add_25 : decode cX5_add 25 = .ok (.getfield 15, 3) := by decide +kernel
theorem dX5_add_28 : decode cX5_add 28 = .ok (.aload_n 0, 1) := by decide +kernel
theorem dX5_add_29 : decode cX5_add 29 = .ok (.getfield 21, 3) := by decide +kernel
theorem dX5_add_32 : decode cX5_add 32 = .ok (.iload_n 2, 1) := by decide +kernel
theorem dX5_add_33 : decode cX5_add 33 = .ok (.iastore, 1) := by decide +kernel
theorem dX5_add_34 : decode cX5_add 34 = .ok (.aload_n 0, 1) := by decide +kernel
theorem dX5_add_35 : decode cX5_add 35 = .ok (.getfield 18, 3) := by decide +kernel
theorem dX5_add_38 : decode cX5_add 38 = .ok (.aload_n 0, 1) := by decide +kernel
theorem dX5_add_39 : decode cX5_add 39 = .ok (.getfield 21, 3) := by decide +kernel
theorem dX5_add_42 : decode cX5_add 42 = .ok (.iload_n 3, 1) := by decide +kernel
theorem dX5_add_43 : decode cX5_add 43 = .ok (.iastore, 1) := by decide +kernel
theorem dX5_add_44 : decode cX5_add 44 = .ok (.aload_n 0, 1) := by decide +kernel
theorem dX5_add_45 : decode cX5_add 45 = .ok (.dup, 1) := by decide +kernel
theorem dX5_add_46 : decode cX5_add 46 = .ok (.getfield 21, 3) := by decide +kernel
theorem dX5_add_49 : decode cX5_add 49 = .ok (.iconst 1, 1) := by decide +kernel
theorem dX5_add_50 : decode cX5_add 50 = .ok (.iadd, 1) := by decide +kernel
theorem dX5_add_51 : decode cX5_add 51 = .ok (.putfield 21, 3) := by decide +kernel
theorem dX5_add_54 : decode cX5_add 54 = .ok (.iconst 1, 1) := by decide +kernel
theorem dX5_add_55 : decode cX5_add 55 = .ok (.ireturn, 1) := by decide +kernel
theorem dX5_holdIn_0 : decode cX5_holdIn 0 = .ok (.iconst 0, 1) := by decide +kernel
theorem dX5_holdIn_1 : decode cX5_holdIn 1 = .ok (.istore_n 2, 1) := by decide +kernel
theorem dX5_holdIn_2 : decode cX5_holdIn 2 = .ok (.iload_n 2, 1) := by decide +kernel
theorem dX5_holdIn_3 : decode cX5_holdIn 3 = .ok (.aload_n 0, 1) := by decide +kernel
theorem dX5_holdIn_4 : decode cX5_holdIn 4 = .ok (.getfield 21, 3) := by decide +kernel
theorem dX5_holdIn_7 : decode cX5_holdIn 7 = .ok (.if_icmp .ge 36, 3) := by decide +kernel
theorem dX5_holdIn_10 : decode cX5_holdIn 10 = .ok (.aload_n 1, 1) := by decide +kernel
theorem dX5_holdIn_11 : decode cX5_holdIn 11 = .ok (.aload_n 0, 1) := by decide +kernel
theorem dX5_holdIn_12 : decode cX5_holdIn 12 = .ok (.getfield 9, 3) := by decide +kernel
theorem dX5_holdIn_15 : decode cX5_holdIn 15 = .ok (.iload_n 2, 1) := by decide +kernel
theorem dX5_holdIn_16 : decode cX5_holdIn 16 = .ok (.iaload, 1) := by decide +kernel
theorem dX5_holdIn_17 : decode cX5_holdIn 17 = .ok (.aload_n 0, 1) := by decide +kernel
theorem dX5_holdIn_18 : decode cX5_holdIn 18 = .ok (.getfield 15, 3) := by decide +kernel
theorem dX5_holdIn_21 : decode cX5_holdIn 21 = .ok (.iload_n 2, 1) := by decide +kernel
theorem dX5_holdIn_22 : decode cX5_holdIn 22 = .ok (.iaload, 1) := by decide +kernel
theorem dX5_holdIn_23 : decode cX5_holdIn 23 = .ok (.invokevirtual 29, 3) := by decide +kernel
theorem dX5_holdIn_26 : decode cX5_holdIn 26 = .ok (.aload_n 0, 1) := by decide +kernel
theorem dX5_holdIn_27 : decode cX5_holdIn 27 = .ok (.getfield 18, 3) := by decide +kernel
theorem dX5_holdIn_30 : decode cX5_holdIn 30 = .ok (.iload_n 2, 1) := by decide +kernel
theorem dX5_holdIn_31 : decode cX5_holdIn 31 = .ok (.iaload, 1) := by decide +kernel
theorem dX5_holdIn_32 : decode cX5_holdIn 32 = .ok (.if_icmp .eq 5, 3) := by decide +kernel
theorem dX5_holdIn_35 : decode cX5_holdIn 35 = .ok (.iconst 0, 1) := by decide +kernel
theorem dX5_holdIn_36 : decode cX5_holdIn 36 = .ok (.ireturn, 1) := by decide +kernel
theorem dX5_holdIn_37 : decode cX5_holdIn 37 = .ok (.iinc 2 1, 3) := by decide +kernel
theorem dX5_holdIn_40 : decode cX5_holdIn 40 = .ok (.goto (-38), 3) := by decide +kernel
theorem dX5_holdIn_43 : decode cX5_holdIn 43 = .ok (.iconst 1, 1) := by decide +kernel
theorem dX5_holdIn_44 : decode cX5_holdIn 44 = .ok (.ireturn, 1) := by decide +kernel
theorem dX6_init_0 : decode cX6_init 0 = .ok (.aload_n 0, 1) := by decide +kernel
theorem dX6_init_1 : decode cX6_init 1 = .ok (.invokespecial 3, 3) := by decide +kernel
theorem dX6_init_4 : decode cX6_init 4 = .ok (.aload_n 0, 1) := by decide +kernel
theorem dX6_init_5 : decode cX6_init 5 = .ok (.iconst 0, 1) := by decide +kernel
theorem dX6_init_6 : decode cX6_init 6 = .ok (.putfield 9, 3) := by decide +kernel
theorem dX6_init_9 : decode cX6_init 9 = .ok (.aload_n 0, 1) := by decide +kernel
theorem dX6_init_10 : decode cX6_init 10 = .ok (.bipush 8, 2) := by decide +kernel
theorem dX6_init_12 : decode cX6_init 12 = .ok (.newarray .int, 2) := by decide +kernel
theorem dX6_init_14 : decode cX6_init 14 = .ok (.putfield 15, 3) := by decide +kernel
theorem dX6_init_17 : decode cX6_init 17 = .ok (.aload_n 0, 1) := by decide +kernel
theorem dX6_init_18 : decode cX6_init 18 = .ok (.bipush 9, 2) := by decide +kernel
theorem dX6_init_20 : decode cX6_init 20 = .ok (.newarray .int, 2) := by decide +kernel
theorem dX6_init_22 : decode cX6_init 22 = .ok (.putfield 19, 3) := by decide +kernel
theorem dX6_init_25 : decode cX6_init 25 = .ok (.aload_n 0, 1) := by decide +kernel
theorem dX6_init_26 : decode cX6_init 26 = .ok (.bipush 36, 2) := by decide +kernel
theorem dX6_init_28 : decode cX6_init 28 = .ok (.newarray .int, 2) := by decide +kernel
theorem dX6_init_30 : decode cX6_init 30 = .ok (.putfield 22, 3) := by decide +kernel
theorem dX6_init_33 : decode cX6_init 33 = .ok (.aload_n 0, 1) := by decide +kernel
theorem dX6_init_34 : decode cX6_init 34 = .ok (.bipush 36, 2) := by decide +kernel
theorem dX6_init_36 : decode cX6_init 36 = .ok (.newarray .int, 2) := by decide +kernel
theorem dX6_init_38 : decode cX6_init 38 = .ok (.putfield 25, 3) := by decide +kernel
theorem dX6_init_41 : decode cX6_init 41 = .ok (.return_, 1) := by decide +kernel
theorem dX6_resolve_0 : decode cX6_resolve 0 = .ok (.aload_n 0, 1) := by decide +kernel
theorem dX6_resolve_1 : decode cX6_resolve 1 = .ok (.aload_n 1, 1) := by decide +kernel
theorem dX6_resolve_2 : decode cX6_resolve 2 = .ok (.getfield 28, 3) := by decide +kernel
theorem dX6_resolve_5 : decode cX6_resolve 5 = .ok (.putfield 9, 3) := by decide +kernel
theorem dX6_resolve_8 : decode cX6_resolve 8 = .ok (.iconst 0, 1) := by decide +kernel
theorem dX6_resolve_9 : decode cX6_resolve 9 = .ok (.istore_n 3, 1) := by decide +kernel
theorem dX6_resolve_10 : decode cX6_resolve 10 = .ok (.iload_n 3, 1) := by decide +kernel
theorem dX6_resolve_11 : decode cX6_resolve 11 = .ok (.aload_n 0, 1) := by decide +kernel
theorem dX6_resolve_12 : decode cX6_resolve 12 = .ok (.getfield 9, 3) := by decide +kernel
theorem dX6_resolve_15 : decode cX6_resolve 15 = .ok (.if_icmp .ge 16, 3) := by decide +kernel
theorem dX6_resolve_18 : decode cX6_resolve 18 = .ok (.aload_n 0, 1) := by decide +kernel
theorem dX6_resolve_19 : decode cX6_resolve 19 = .ok (.getfield 19, 3) := by decide +kernel
theorem dX6_resolve_22 : decode cX6_resolve 22 = .ok (.iload_n 3, 1) := by decide +kernel
theorem dX6_resolve_23 : decode cX6_resolve 23 = .ok (.iconst 0, 1) := by decide +kernel
theorem dX6_resolve_24 : decode cX6_resolve 24 = .ok (.iastore, 1) := by decide +kernel
theorem dX6_resolve_25 : decode cX6_resolve 25 = .ok (.iinc 3 1, 3) := by decide +kernel
theorem dX6_resolve_28 : decode cX6_resolve 28 = .ok (.goto (-18), 3) := by decide +kernel
theorem dX6_resolve_31 : decode cX6_resolve 31 = .ok (.iconst 0, 1) := by decide +kernel
theorem dX6_resolve_32 : decode cX6_resolve 32 = .ok (.istore_n 3, 1) := by decide +kernel
theorem dX6_resolve_33 : decode cX6_resolve 33 = .ok (.iload_n 3, 1) := by decide +kernel
theorem dX6_resolve_34 : decode cX6_resolve 34 = .ok (.aload_n 1, 1) := by decide +kernel
theorem dX6_resolve_35 : decode cX6_resolve 35 = .ok (.getfield 31, 3) := by decide +kernel
theorem dX6_resolve_38 : decode cX6_resolve 38 = .ok (.if_icmp .ge 43, 3) := by decide +kernel
theorem dX6_resolve_41 : decode cX6_resolve 41 = .ok (.aload_n 0, 1) := by decide +kernel
theorem dX6_resolve_42 : decode cX6_resolve 42 = .ok (.getfield 15, 3) := by decide +kernel
theorem dX6_resolve_45 : decode cX6_resolve 45 = .ok (.iload_n 3, 1) := by decide +kernel
theorem dX6_resolve_46 : decode cX6_resolve 46 = .ok (.aload_n 2, 1) := by decide +kernel
theorem dX6_resolve_47 : decode cX6_resolve 47 = .ok (.iload_n 3, 1) := by decide +kernel
theorem dX6_resolve_48 : decode cX6_resolve 48 = .ok (.invokevirtual 34, 3) := by decide +kernel
theorem dX6_resolve_51 : decode cX6_resolve 51 = .ok (.ifCond .eq 17, 3) := by decide +kernel
theorem dX6_resolve_54 : decode cX6_resolve 54 = .ok (.aload_n 1, 1) := by decide +kernel
theorem dX6_resolve_55 : decode cX6_resolve 55 = .ok (.aload_n 2, 1) := by decide +kernel
theorem dX6_resolve_56 : decode cX6_resolve 56 = .ok (.aload_n 1, 1) := by decide +kernel
theorem dX6_resolve_57 : decode cX6_resolve 57 = .ok (.getfield 40, 3) := by decide +kernel
theorem dX6_resolve_60 : decode cX6_resolve 60 = .ok (.iload_n 3, 1) := by decide +kernel
theorem dX6_resolve_61 : decode cX6_resolve 61 = .ok (.aaload, 1) := by decide +kernel
theorem dX6_resolve_62 : decode cX6_resolve 62 = .ok (.invokevirtual 44, 3) := by decide +kernel
theorem dX6_resolve_65 : decode cX6_resolve 65 = .ok (.goto 4, 3) := by decide +kernel
theorem dX6_resolve_68 : decode cX6_resolve 68 = .ok (.iconst 0, 1) := by decide +kernel
theorem dX6_resolve_69 : decode cX6_resolve 69 = .ok (.iastore, 1) := by decide +kernel
theorem dX6_resolve_70 : decode cX6_resolve 70 = .ok (.aload_n 0, 1) := by decide +kernel
theorem dX6_resolve_71 : decode cX6_resolve 71 = .ok (.iload_n 3, 1) := by decide +kernel
theorem dX6_resolve_72 : decode cX6_resolve 72 = .ok (.invokevirtual 48, 3) := by decide +kernel
theorem dX6_resolve_75 : decode cX6_resolve 75 = .ok (.iinc 3 1, 3) := by decide +kernel
theorem dX6_resolve_78 : decode cX6_resolve 78 = .ok (.goto (-45), 3) := by decide +kernel
theorem dX6_resolve_81 : decode cX6_resolve 81 = .ok (.iconst 0, 1) := by decide +kernel
theorem dX6_resolve_82 : decode cX6_resolve 82 = .ok (.istore_n 3, 1) := by decide +kernel
theorem dX6_resolve_83 : decode cX6_resolve 83 = .ok (.iload_n 3, 1) := by decide +kernel
theorem dX6_resolve_84 : decode cX6_resolve 84 = .ok (.aload_n 0, 1) := by decide +kernel
theorem dX6_resolve_85 : decode cX6_resolve 85 = .ok (.getfield 9, 3) := by decide +kernel
theorem dX6_resolve_88 : decode cX6_resolve 88 = .ok (.if_icmp .ge 32, 3) := by decide +kernel
theorem dX6_resolve_91 : decode cX6_resolve 91 = .ok (.iconst 0, 1) := by decide +kernel
theorem dX6_resolve_92 : decode cX6_resolve 92 = .ok (.istore 4, 2) := by decide +kernel
theorem dX6_resolve_94 : decode cX6_resolve 94 = .ok (.iload 4, 2) := by decide +kernel
theorem dX6_resolve_96 : decode cX6_resolve 96 = .ok (.iconst 4, 1) := by decide +kernel
theorem dX6_resolve_97 : decode cX6_resolve 97 = .ok (.if_icmp .ge 17, 3) := by decide +kernel
theorem dX6_resolve_100 : decode cX6_resolve 100 = .ok (.aload_n 0, 1) := by decide +kernel
theorem dX6_resolve_101 : decode cX6_resolve 101 = .ok (.aload_n 1, 1) := by decide +kernel
theorem dX6_resolve_102 : decode cX6_resolve 102 = .ok (.iload_n 3, 1) := by decide +kernel
theorem dX6_resolve_103 : decode cX6_resolve 103 = .ok (.iload 4, 2) := by decide +kernel
theorem dX6_resolve_105 : decode cX6_resolve 105 = .ok (.invokevirtual 52, 3) := by decide +kernel
theorem dX6_resolve_108 : decode cX6_resolve 108 = .ok (.iinc 4 1, 3) := by decide +kernel
theorem dX6_resolve_111 : decode cX6_resolve 111 = .ok (.goto (-17), 3) := by decide +kernel
theorem dX6_resolve_114 : decode cX6_resolve 114 = .ok (.iinc 3 1, 3) := by decide +kernel
theorem dX6_resolve_117 : decode cX6_resolve 117 = .ok (.goto (-34), 3) := by decide +kernel
theorem dX6_resolve_120 : decode cX6_resolve 120 = .ok (.return_, 1) := by decide +kernel
theorem dX6_noteRule_0 : decode cX6_noteRule 0 = .ok (.iconst 0, 1) := by decide +kernel
theorem dX6_noteRule_1 : decode cX6_noteRule 1 = .ok (.istore_n 2, 1) := by decide +kernel
theorem dX6_noteRule_2 : decode cX6_noteRule 2 = .ok (.iload_n 2, 1) := by decide +kernel
theorem dX6_noteRule_3 : decode cX6_noteRule 3 = .ok (.aload_n 0, 1) := by decide +kernel
theorem dX6_noteRule_4 : decode cX6_noteRule 4 = .ok (.getfield 9, 3) := by decide +kernel
theorem dX6_noteRule_7 : decode cX6_noteRule 7 = .ok (.if_icmp .ge 34, 3) := by decide +kernel
theorem dX6_noteRule_10 : decode cX6_noteRule 10 = .ok (.aload_n 0, 1) := by decide +kernel
theorem dX6_noteRule_11 : decode cX6_noteRule 11 = .ok (.getfield 15, 3) := by decide +kernel
theorem dX6_noteRule_14 : decode cX6_noteRule 14 = .ok (.iload_n 1, 1) := by decide +kernel
theorem dX6_noteRule_15 : decode cX6_noteRule 15 = .ok (.iaload, 1) := by decide +kernel
theorem dX6_noteRule_16 : decode cX6_noteRule 16 = .ok (.iload_n 2, 1) := by decide +kernel
theorem dX6_noteRule_17 : decode cX6_noteRule 17 = .ok (.invokestatic 56, 3) := by decide +kernel
theorem dX6_noteRule_20 : decode cX6_noteRule 20 = .ok (.ifCond .eq 15, 3) := by decide +kernel
theorem dX6_noteRule_23 : decode cX6_noteRule 23 = .ok (.aload_n 0, 1) := by decide +kernel
theorem dX6_noteRule_24 : decode cX6_noteRule 24 = .ok (.getfield 19, 3) := by decide +kernel
theorem dX6_noteRule_27 : decode cX6_noteRule 27 = .ok (.iload_n 2, 1) := by decide +kernel
theorem dX6_noteRule_28 : decode cX6_noteRule 28 = .ok (.dup2, 1) := by decide +kernel
theorem dX6_noteRule_29 : decode cX6_noteRule 29 = .ok (.iaload, 1) := by decide +kernel
theorem dX6_noteRule_30 : decode cX6_noteRule 30 = .ok (.iconst 1, 1) := by decide +kernel
theorem dX6_noteRule_31 : decode cX6_noteRule 31 = .ok (.iload_n 1, 1) := by decide +kernel
theorem dX6_noteRule_32 : decode cX6_noteRule 32 = .ok (.ishl, 1) := by decide +kernel
theorem dX6_noteRule_33 : decode cX6_noteRule 33 = .ok (.ior, 1) := by decide +kernel
theorem dX6_noteRule_34 : decode cX6_noteRule 34 = .ok (.iastore, 1) := by decide +kernel
theorem dX6_noteRule_35 : decode cX6_noteRule 35 = .ok (.iinc 2 1, 3) := by decide +kernel
theorem dX6_noteRule_38 : decode cX6_noteRule 38 = .ok (.goto (-36), 3) := by decide +kernel
theorem dX6_noteRule_41 : decode cX6_noteRule 41 = .ok (.return_, 1) := by decide +kernel
theorem dX6_settle_0 : decode cX6_settle 0 = .ok (.iconst 4, 1) := by decide +kernel
theorem dX6_settle_1 : decode cX6_settle 1 = .ok (.iload_n 2, 1) := by decide +kernel
theorem dX6_settle_2 : decode cX6_settle 2 = .ok (.imul, 1) := by decide +kernel
theorem dX6_settle_3 : decode cX6_settle 3 = .ok (.iload_n 3, 1) := by decide +kernel
theorem dX6_settle_4 : decode cX6_settle 4 = .ok (.iadd, 1) := by decide +kernel
theorem dX6_settle_5 : decode cX6_settle 5 = .ok (.istore 4, 2) := by decide +kernel
theorem dX6_settle_7 : decode cX6_settle 7 = .ok (.aload_n 1, 1) := by decide +kernel
theorem dX6_settle_8 : decode cX6_settle 8 = .ok (.aload_n 0, 1) := by decide +kernel
theorem dX6_settle_9 : decode cX6_settle 9 = .ok (.getfield 19, 3) := by decide +kernel
theorem dX6_settle_12 : decode cX6_settle 12 = .ok (.iload_n 2, 1) := by decide +kernel
theorem dX6_settle_13 : decode cX6_settle 13 = .ok (.iaload, 1) := by decide +kernel
theorem dX6_settle_14 : decode cX6_settle 14 = .ok (.iload_n 3, 1) := by decide +kernel
theorem dX6_settle_15 : decode cX6_settle 15 = .ok (.invokevirtual 60, 3) := by decide +kernel
theorem dX6_settle_18 : decode cX6_settle 18 = .ok (.istore 5, 2) := by decide +kernel
theorem dX6_settle_20 : decode cX6_settle 20 = .ok (.aload_n 1, 1) := by decide +kernel
theorem dX6_settle_21 : decode cX6_settle 21 = .ok (.getfield 64, 3) := by decide +kernel
theorem dX6_settle_24 : decode cX6_settle 24 = .ok (.iload_n 2, 1) := by decide +kernel
theorem dX6_settle_25 : decode cX6_settle 25 = .ok (.iaload, 1) := by decide +kernel
theorem dX6_settle_26 : decode cX6_settle 26 = .ok (.istore 6, 2) := by decide +kernel
theorem dX6_settle_28 : decode cX6_settle 28 = .ok (.iload 5, 2) := by decide +kernel
theorem dX6_settle_30 : decode cX6_settle 30 = .ok (.aload_n 1, 1) := by decide +kernel
theorem dX6_settle_31 : decode cX6_settle 31 = .ok (.getfield 31, 3) := by decide +kernel
theorem dX6_settle_34 : decode cX6_settle 34 = .ok (.invokestatic 67, 3) := by decide +kernel
theorem dX6_settle_37 : decode cX6_settle 37 = .ok (.ifCond .eq 33, 3) := by decide +kernel
theorem dX6_settle_40 : decode cX6_settle 40 = .ok (.aload_n 0, 1) := by decide +kernel
theorem dX6_settle_41 : decode cX6_settle 41 = .ok (.getfield 22, 3) := by decide +kernel
theorem dX6_settle_44 : decode cX6_settle 44 = .ok (.iload 4, 2) := by decide +kernel
theorem dX6_settle_46 : decode cX6_settle 46 = .ok (.aload_n 1, 1) := by decide +kernel
theorem dX6_settle_47 : decode cX6_settle 47 = .ok (.getfield 40, 3) := by decide +kernel
