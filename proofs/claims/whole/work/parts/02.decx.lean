theorem dX0_init_0 : decode cX0_init 0 = .ok (.aload_n 0, 1) := by decide +kernel
theorem dX0_init_1 : decode cX0_init 1 = .ok (.invokespecial 3, 3) := by decide +kernel
theorem dX0_init_4 : decode cX0_init 4 = .ok (.aload_n 0, 1) := by decide +kernel
theorem dX0_init_5 : decode cX0_init 5 = .ok (.bipush 10, 2) := by decide +kernel
theorem dX0_init_7 : decode cX0_init 7 = .ok (.anewarray 9, 3) := by decide +kernel
theorem dX0_init_10 : decode cX0_init 10 = .ok (.putfield 11, 3) := by decide +kernel
theorem dX0_init_13 : decode cX0_init 13 = .ok (.iconst 0, 1) := by decide +kernel
theorem dX0_init_14 : decode cX0_init 14 = .ok (.istore_n 1, 1) := by decide +kernel
theorem dX0_init_15 : decode cX0_init 15 = .ok (.iload_n 1, 1) := by decide +kernel
theorem dX0_init_16 : decode cX0_init 16 = .ok (.bipush 10, 2) := by decide +kernel
theorem dX0_init_18 : decode cX0_init 18 = .ok (.if_icmp .ge 22, 3) := by decide +kernel
theorem dX0_init_21 : decode cX0_init 21 = .ok (.aload_n 0, 1) := by decide +kernel
theorem dX0_init_22 : decode cX0_init 22 = .ok (.getfield 11, 3) := by decide +kernel
theorem dX0_init_25 : decode cX0_init 25 = .ok (.iload_n 1, 1) := by decide +kernel
theorem dX0_init_26 : decode cX0_init 26 = .ok (.new 9, 3) := by decide +kernel
theorem dX0_init_29 : decode cX0_init 29 = .ok (.dup, 1) := by decide +kernel
theorem dX0_init_30 : decode cX0_init 30 = .ok (.invokespecial 17, 3) := by decide +kernel
theorem dX0_init_33 : decode cX0_init 33 = .ok (.aastore, 1) := by decide +kernel
theorem dX0_init_34 : decode cX0_init 34 = .ok (.iinc 1 1, 3) := by decide +kernel
theorem dX0_init_37 : decode cX0_init 37 = .ok (.goto (-22), 3) := by decide +kernel
theorem dX0_init_40 : decode cX0_init 40 = .ok (.return_, 1) := by decide +kernel
theorem dX0_keep_0 : decode cX0_keep 0 = .ok (.aload_n 0, 1) := by decide +kernel
theorem dX0_keep_1 : decode cX0_keep 1 = .ok (.getfield 11, 3) := by decide +kernel
theorem dX0_keep_4 : decode cX0_keep 4 = .ok (.aload_n 0, 1) := by decide +kernel
theorem dX0_keep_5 : decode cX0_keep 5 = .ok (.getfield 18, 3) := by decide +kernel
theorem dX0_keep_8 : decode cX0_keep 8 = .ok (.aaload, 1) := by decide +kernel
theorem dX0_keep_9 : decode cX0_keep 9 = .ok (.aload_n 1, 1) := by decide +kernel
theorem dX0_keep_10 : decode cX0_keep 10 = .ok (.invokevirtual 22, 3) := by decide +kernel
theorem dX0_keep_13 : decode cX0_keep 13 = .ok (.aload_n 0, 1) := by decide +kernel
theorem dX0_keep_14 : decode cX0_keep 14 = .ok (.aload_n 0, 1) := by decide +kernel
theorem dX0_keep_15 : decode cX0_keep 15 = .ok (.getfield 18, 3) := by decide +kernel
theorem dX0_keep_18 : decode cX0_keep 18 = .ok (.iconst 1, 1) := by decide +kernel
theorem dX0_keep_19 : decode cX0_keep 19 = .ok (.iadd, 1) := by decide +kernel
theorem dX0_keep_20 : decode cX0_keep 20 = .ok (.bipush 10, 2) := by decide +kernel
theorem dX0_keep_22 : decode cX0_keep 22 = .ok (.if_icmp .ge 12, 3) := by decide +kernel
theorem dX0_keep_25 : decode cX0_keep 25 = .ok (.aload_n 0, 1) := by decide +kernel
theorem dX0_keep_26 : decode cX0_keep 26 = .ok (.getfield 18, 3) := by decide +kernel
theorem dX0_keep_29 : decode cX0_keep 29 = .ok (.iconst 1, 1) := by decide +kernel
theorem dX0_keep_30 : decode cX0_keep 30 = .ok (.iadd, 1) := by decide +kernel
theorem dX0_keep_31 : decode cX0_keep 31 = .ok (.goto 4, 3) := by decide +kernel
theorem dX0_keep_34 : decode cX0_keep 34 = .ok (.iconst 0, 1) := by decide +kernel
theorem dX0_keep_35 : decode cX0_keep 35 = .ok (.putfield 18, 3) := by decide +kernel
theorem dX0_keep_38 : decode cX0_keep 38 = .ok (.aload_n 0, 1) := by decide +kernel
theorem dX0_keep_39 : decode cX0_keep 39 = .ok (.aload_n 0, 1) := by decide +kernel
theorem dX0_keep_40 : decode cX0_keep 40 = .ok (.getfield 26, 3) := by decide +kernel
theorem dX0_keep_43 : decode cX0_keep 43 = .ok (.iconst 1, 1) := by decide +kernel
theorem dX0_keep_44 : decode cX0_keep 44 = .ok (.iadd, 1) := by decide +kernel
theorem dX0_keep_45 : decode cX0_keep 45 = .ok (.bipush 10, 2) := by decide +kernel
theorem dX0_keep_47 : decode cX0_keep 47 = .ok (.invokestatic 29, 3) := by decide +kernel
theorem dX0_keep_50 : decode cX0_keep 50 = .ok (.putfield 26, 3) := by decide +kernel
theorem dX0_keep_53 : decode cX0_keep 53 = .ok (.return_, 1) := by decide +kernel
theorem dX0_takeBack_0 : decode cX0_takeBack 0 = .ok (.aload_n 0, 1) := by decide +kernel
theorem dX0_takeBack_1 : decode cX0_takeBack 1 = .ok (.getfield 26, 3) := by decide +kernel
theorem dX0_takeBack_4 : decode cX0_takeBack 4 = .ok (.ifCond .ne 5, 3) := by decide +kernel
theorem dX0_takeBack_7 : decode cX0_takeBack 7 = .ok (.iconst (-1), 1) := by decide +kernel
theorem dX0_takeBack_8 : decode cX0_takeBack 8 = .ok (.ireturn, 1) := by decide +kernel
theorem dX0_takeBack_9 : decode cX0_takeBack 9 = .ok (.aload_n 0, 1) := by decide +kernel
theorem dX0_takeBack_10 : decode cX0_takeBack 10 = .ok (.aload_n 0, 1) := by decide +kernel
theorem dX0_takeBack_11 : decode cX0_takeBack 11 = .ok (.getfield 18, 3) := by decide +kernel
theorem dX0_takeBack_14 : decode cX0_takeBack 14 = .ok (.ifCond .le 12, 3) := by decide +kernel
theorem dX0_takeBack_17 : decode cX0_takeBack 17 = .ok (.aload_n 0, 1) := by decide +kernel
theorem dX0_takeBack_18 : decode cX0_takeBack 18 = .ok (.getfield 18, 3) := by decide +kernel
theorem dX0_takeBack_21 : decode cX0_takeBack 21 = .ok (.iconst 1, 1) := by decide +kernel
theorem dX0_takeBack_22 : decode cX0_takeBack 22 = .ok (.isub, 1) := by decide +kernel
theorem dX0_takeBack_23 : decode cX0_takeBack 23 = .ok (.goto 5, 3) := by decide +kernel
theorem dX0_takeBack_26 : decode cX0_takeBack 26 = .ok (.bipush 9, 2) := by decide +kernel
theorem dX0_takeBack_28 : decode cX0_takeBack 28 = .ok (.putfield 18, 3) := by decide +kernel
theorem dX0_takeBack_31 : decode cX0_takeBack 31 = .ok (.aload_n 0, 1) := by decide +kernel
theorem dX0_takeBack_32 : decode cX0_takeBack 32 = .ok (.dup, 1) := by decide +kernel
theorem dX0_takeBack_33 : decode cX0_takeBack 33 = .ok (.getfield 26, 3) := by decide +kernel
theorem dX0_takeBack_36 : decode cX0_takeBack 36 = .ok (.iconst 1, 1) := by decide +kernel
theorem dX0_takeBack_37 : decode cX0_takeBack 37 = .ok (.isub, 1) := by decide +kernel
theorem dX0_takeBack_38 : decode cX0_takeBack 38 = .ok (.putfield 26, 3) := by decide +kernel
theorem dX0_takeBack_41 : decode cX0_takeBack 41 = .ok (.aload_n 1, 1) := by decide +kernel
theorem dX0_takeBack_42 : decode cX0_takeBack 42 = .ok (.aload_n 0, 1) := by decide +kernel
theorem dX0_takeBack_43 : decode cX0_takeBack 43 = .ok (.getfield 11, 3) := by decide +kernel
theorem dX0_takeBack_46 : decode cX0_takeBack 46 = .ok (.aload_n 0, 1) := by decide +kernel
theorem dX0_takeBack_47 : decode cX0_takeBack 47 = .ok (.getfield 18, 3) := by decide +kernel
theorem dX0_takeBack_50 : decode cX0_takeBack 50 = .ok (.aaload, 1) := by decide +kernel
theorem dX0_takeBack_51 : decode cX0_takeBack 51 = .ok (.invokevirtual 22, 3) := by decide +kernel
theorem dX0_takeBack_54 : decode cX0_takeBack 54 = .ok (.aload_n 0, 1) := by decide +kernel
theorem dX0_takeBack_55 : decode cX0_takeBack 55 = .ok (.getfield 26, 3) := by decide +kernel
theorem dX0_takeBack_58 : decode cX0_takeBack 58 = .ok (.ireturn, 1) := by decide +kernel
theorem dX0_forget_0 : decode cX0_forget 0 = .ok (.aload_n 0, 1) := by decide +kernel
theorem dX0_forget_1 : decode cX0_forget 1 = .ok (.iconst 0, 1) := by decide +kernel
theorem dX0_forget_2 : decode cX0_forget 2 = .ok (.putfield 26, 3) := by decide +kernel
theorem dX0_forget_5 : decode cX0_forget 5 = .ok (.return_, 1) := by decide +kernel
theorem dX1_init_0 : decode cX1_init 0 = .ok (.aload_n 0, 1) := by decide +kernel
theorem dX1_init_1 : decode cX1_init 1 = .ok (.invokespecial 3, 3) := by decide +kernel
theorem dX1_init_4 : decode cX1_init 4 = .ok (.aload_n 0, 1) := by decide +kernel
theorem dX1_init_5 : decode cX1_init 5 = .ok (.bipush 8, 2) := by decide +kernel
theorem dX1_init_7 : decode cX1_init 7 = .ok (.newarray .int, 2) := by decide +kernel
theorem dX1_init_9 : decode cX1_init 9 = .ok (.putfield 9, 3) := by decide +kernel
theorem dX1_init_12 : decode cX1_init 12 = .ok (.aload_n 0, 1) := by decide +kernel
theorem dX1_init_13 : decode cX1_init 13 = .ok (.bipush 8, 2) := by decide +kernel
theorem dX1_init_15 : decode cX1_init 15 = .ok (.newarray .int, 2) := by decide +kernel
theorem dX1_init_17 : decode cX1_init 17 = .ok (.putfield 15, 3) := by decide +kernel
theorem dX1_init_20 : decode cX1_init 20 = .ok (.aload_n 0, 1) := by decide +kernel
theorem dX1_init_21 : decode cX1_init 21 = .ok (.bipush 64, 2) := by decide +kernel
theorem dX1_init_23 : decode cX1_init 23 = .ok (.newarray .int, 2) := by decide +kernel
theorem dX1_init_25 : decode cX1_init 25 = .ok (.putfield 18, 3) := by decide +kernel
theorem dX1_init_28 : decode cX1_init 28 = .ok (.aload_n 0, 1) := by decide +kernel
theorem dX1_init_29 : decode cX1_init 29 = .ok (.bipush 8, 2) := by decide +kernel
theorem dX1_init_31 : decode cX1_init 31 = .ok (.newarray .int, 2) := by decide +kernel
theorem dX1_init_33 : decode cX1_init 33 = .ok (.putfield 21, 3) := by decide +kernel
theorem dX1_init_36 : decode cX1_init 36 = .ok (.aload_n 0, 1) := by decide +kernel
theorem dX1_init_37 : decode cX1_init 37 = .ok (.new 24, 3) := by decide +kernel
theorem dX1_init_40 : decode cX1_init 40 = .ok (.dup, 1) := by decide +kernel
theorem dX1_init_41 : decode cX1_init 41 = .ok (.invokespecial 26, 3) := by decide +kernel
theorem dX1_init_44 : decode cX1_init 44 = .ok (.putfield 27, 3) := by decide +kernel
theorem dX1_init_47 : decode cX1_init 47 = .ok (.aload_n 0, 1) := by decide +kernel
theorem dX1_init_48 : decode cX1_init 48 = .ok (.invokevirtual 31, 3) := by decide +kernel
theorem dX1_init_51 : decode cX1_init 51 = .ok (.return_, 1) := by decide +kernel
theorem dX1_clear_0 : decode cX1_clear 0 = .ok (.aload_n 0, 1) := by decide +kernel
theorem dX1_clear_1 : decode cX1_clear 1 = .ok (.iconst 0, 1) := by decide +kernel
theorem dX1_clear_2 : decode cX1_clear 2 = .ok (.putfield 34, 3) := by decide +kernel
theorem dX1_clear_5 : decode cX1_clear 5 = .ok (.iconst 0, 1) := by decide +kernel
theorem dX1_clear_6 : decode cX1_clear 6 = .ok (.istore_n 1, 1) := by decide +kernel
theorem dX1_clear_7 : decode cX1_clear 7 = .ok (.iload_n 1, 1) := by decide +kernel
theorem dX1_clear_8 : decode cX1_clear 8 = .ok (.bipush 64, 2) := by decide +kernel
theorem dX1_clear_10 : decode cX1_clear 10 = .ok (.if_icmp .ge 16, 3) := by decide +kernel
theorem dX1_clear_13 : decode cX1_clear 13 = .ok (.aload_n 0, 1) := by decide +kernel
theorem dX1_clear_14 : decode cX1_clear 14 = .ok (.getfield 18, 3) := by decide +kernel
theorem dX1_clear_17 : decode cX1_clear 17 = .ok (.iload_n 1, 1) := by decide +kernel
theorem dX1_clear_18 : decode cX1_clear 18 = .ok (.iconst 0, 1) := by decide +kernel
theorem dX1_clear_19 : decode cX1_clear 19 = .ok (.iastore, 1) := by decide +kernel
theorem dX1_clear_20 : decode cX1_clear 20 = .ok (.iinc 1 1, 3) := by decide +kernel
theorem dX1_clear_23 : decode cX1_clear 23 = .ok (.goto (-16), 3) := by decide +kernel
theorem dX1_clear_26 : decode cX1_clear 26 = .ok (.iconst 0, 1) := by decide +kernel
theorem dX1_clear_27 : decode cX1_clear 27 = .ok (.istore_n 1, 1) := by decide +kernel
theorem dX1_clear_28 : decode cX1_clear 28 = .ok (.iload_n 1, 1) := by decide +kernel
theorem dX1_clear_29 : decode cX1_clear 29 = .ok (.bipush 8, 2) := by decide +kernel
theorem dX1_clear_31 : decode cX1_clear 31 = .ok (.if_icmp .ge 16, 3) := by decide +kernel
theorem dX1_clear_34 : decode cX1_clear 34 = .ok (.aload_n 0, 1) := by decide +kernel
theorem dX1_clear_35 : decode cX1_clear 35 = .ok (.getfield 21, 3) := by decide +kernel
theorem dX1_clear_38 : decode cX1_clear 38 = .ok (.iload_n 1, 1) := by decide +kernel
theorem dX1_clear_39 : decode cX1_clear 39 = .ok (.iconst 0, 1) := by decide +kernel
theorem dX1_clear_40 : decode cX1_clear 40 = .ok (.iastore, 1) := by decide +kernel
theorem dX1_clear_41 : decode cX1_clear 41 = .ok (.iinc 1 1, 3) := by decide +kernel
theorem dX1_clear_44 : decode cX1_clear 44 = .ok (.goto (-16), 3) := by decide +kernel
theorem dX1_clear_47 : decode cX1_clear 47 = .ok (.aload_n 0, 1) := by decide +kernel
theorem dX1_clear_48 : decode cX1_clear 48 = .ok (.getfield 27, 3) := by decide +kernel
theorem dX1_clear_51 : decode cX1_clear 51 = .ok (.invokevirtual 38, 3) := by decide +kernel
theorem dX1_clear_54 : decode cX1_clear 54 = .ok (.aload_n 0, 1) := by decide +kernel
theorem dX1_clear_55 : decode cX1_clear 55 = .ok (.iconst 3, 1) := by decide +kernel
theorem dX1_clear_56 : decode cX1_clear 56 = .ok (.putfield 41, 3) := by decide +kernel
theorem dX1_clear_59 : decode cX1_clear 59 = .ok (.aload_n 0, 1) := by decide +kernel
theorem dX1_clear_60 : decode cX1_clear 60 = .ok (.iconst 2, 1) := by decide +kernel
theorem dX1_clear_61 : decode cX1_clear 61 = .ok (.putfield 44, 3) := by decide +kernel
theorem dX1_clear_64 : decode cX1_clear 64 = .ok (.aload_n 0, 1) := by decide +kernel
theorem dX1_clear_65 : decode cX1_clear 65 = .ok (.bipush 10, 2) := by decide +kernel
theorem dX1_clear_67 : decode cX1_clear 67 = .ok (.putfield 47, 3) := by decide +kernel
theorem dX1_clear_70 : decode cX1_clear 70 = .ok (.return_, 1) := by decide +kernel
theorem dX1_addPeer_0 : decode cX1_addPeer 0 = .ok (.aload_n 0, 1) := by decide +kernel
theorem dX1_addPeer_1 : decode cX1_addPeer 1 = .ok (.getfield 34, 3) := by decide +kernel
theorem dX1_addPeer_4 : decode cX1_addPeer 4 = .ok (.bipush 8, 2) := by decide +kernel
theorem dX1_addPeer_6 : decode cX1_addPeer 6 = .ok (.if_icmp .ge 33, 3) := by decide +kernel
theorem dX1_addPeer_9 : decode cX1_addPeer 9 = .ok (.aload_n 0, 1) := by decide +kernel
theorem dX1_addPeer_10 : decode cX1_addPeer 10 = .ok (.getfield 9, 3) := by decide +kernel
theorem dX1_addPeer_13 : decode cX1_addPeer 13 = .ok (.aload_n 0, 1) := by decide +kernel
theorem dX1_addPeer_14 : decode cX1_addPeer 14 = .ok (.getfield 34, 3) := by decide +kernel
theorem dX1_addPeer_17 : decode cX1_addPeer 17 = .ok (.iload_n 1, 1) := by decide +kernel
theorem dX1_addPeer_18 : decode cX1_addPeer 18 = .ok (.iastore, 1) := by decide +kernel
theorem dX1_addPeer_19 : decode cX1_addPeer 19 = .ok (.aload_n 0, 1) := by decide +kernel
theorem dX1_addPeer_20 : decode cX1_addPeer 20 = .ok (.getfield 15, 3) := by decide +kernel
theorem dX1_addPeer_23 : decode cX1_addPeer 23 = .ok (.aload_n 0, 1) := by decide +kernel
theorem dX1_addPeer_24 : decode cX1_addPeer 24 = .ok (.getfield 34, 3) := by decide +kernel
theorem dX1_addPeer_27 : decode cX1_addPeer 27 = .ok (.iload_n 2, 1) := by decide +kernel
theorem dX1_addPeer_28 : decode cX1_addPeer 28 = .ok (.iastore, 1) := by decide +kernel
theorem dX1_addPeer_29 : decode cX1_addPeer 29 = .ok (.aload_n 0, 1) := by decide +kernel
theorem dX1_addPeer_30 : decode cX1_addPeer 30 = .ok (.dup, 1) := by decide +kernel
theorem dX1_addPeer_31 : decode cX1_addPeer 31 = .ok (.getfield 34, 3) := by decide +kernel
theorem dX1_addPeer_34 : decode cX1_addPeer 34 = .ok (.iconst 1, 1) := by decide +kernel
theorem dX1_addPeer_35 : decode cX1_addPeer 35 = .ok (.iadd, 1) := by decide +kernel
theorem dX1_addPeer_36 : decode cX1_addPeer 36 = .ok (.putfield 34, 3) := by decide +kernel
theorem dX1_addPeer_39 : decode cX1_addPeer 39 = .ok (.return_, 1) := by decide +kernel
theorem dX1_addLink_0 : decode cX1_addLink 0 = .ok (.aload_n 0, 1) := by decide +kernel
theorem dX1_addLink_1 : decode cX1_addLink 1 = .ok (.getfield 18, 3) := by decide +kernel
theorem dX1_addLink_4 : decode cX1_addLink 4 = .ok (.iload_n 1, 1) := by decide +kernel
theorem dX1_addLink_5 : decode cX1_addLink 5 = .ok (.bipush 8, 2) := by decide +kernel
theorem dX1_addLink_7 : decode cX1_addLink 7 = .ok (.imul, 1) := by decide +kernel
theorem dX1_addLink_8 : decode cX1_addLink 8 = .ok (.iload_n 2, 1) := by decide +kernel
theorem dX1_addLink_9 : decode cX1_addLink 9 = .ok (.iadd, 1) := by decide +kernel
theorem dX1_addLink_10 : decode cX1_addLink 10 = .ok (.iload_n 3, 1) := by decide +kernel
theorem dX1_addLink_11 : decode cX1_addLink 11 = .ok (.iastore, 1) := by decide +kernel
theorem dX1_addLink_12 : decode cX1_addLink 12 = .ok (.aload_n 0, 1) := by decide +kernel
theorem dX1_addLink_13 : decode cX1_addLink 13 = .ok (.getfield 18, 3) := by decide +kernel
theorem dX1_addLink_16 : decode cX1_addLink 16 = .ok (.iload_n 2, 1) := by decide +kernel
theorem dX1_addLink_17 : decode cX1_addLink 17 = .ok (.bipush 8, 2) := by decide +kernel
theorem dX1_addLink_19 : decode cX1_addLink 19 = .ok (.imul, 1) := by decide +kernel
theorem dX1_addLink_20 : decode cX1_addLink 20 = .ok (.iload_n 1, 1) := by decide +kernel
theorem dX1_addLink_21 : decode cX1_addLink 21 = .ok (.iadd, 1) := by decide +kernel
theorem dX1_addLink_22 : decode cX1_addLink 22 = .ok (.iload_n 3, 1) := by decide +kernel
theorem dX1_addLink_23 : decode cX1_addLink 23 = .ok (.iastore, 1) := by decide +kernel
theorem dX1_addLink_24 : decode cX1_addLink 24 = .ok (.return_, 1) := by decide +kernel
theorem dX1_addAcquaintance_0 : decode cX1_addAcquaintance 0 = .ok (.aload_n 0, 1) := by decide +kernel
theorem dX1_addAcquaintance_1 : decode cX1_addAcquaintance 1 = .ok (.getfield 21, 3) := by decide +kernel
theorem dX1_addAcquaintance_4 : decode cX1_addAcquaintance 4 = .ok (.iload_n 1, 1) := by decide +kernel
theorem dX1_addAcquaintance_5 : decode cX1_addAcquaintance 5 = .ok (.dup2, 1) := by decide +kernel
theorem dX1_addAcquaintance_6 : decode cX1_addAcquaintance 6 = .ok (.iaload, 1) := by decide +kernel
theorem dX1_addAcquaintance_7 : decode cX1_addAcquaintance 7 = .ok (.iconst 1, 1) := by decide +kernel
theorem dX1_addAcquaintance_8 : decode cX1_addAcquaintance 8 = .ok (.iload_n 2, 1) := by decide +kernel
theorem dX1_addAcquaintance_9 : decode cX1_addAcquaintance 9 = .ok (.ishl, 1) := by decide +kernel
theorem dX1_addAcquaintance_10 : decode cX1_addAcquaintance 10 = .ok (.ior, 1) := by decide +kernel
theorem dX1_addAcquaintance_11 : decode cX1_addAcquaintance 11 = .ok (.iastore, 1) := by decide +kernel
theorem dX1_addAcquaintance_12 : decode cX1_addAcquaintance 12 = .ok (.aload_n 0, 1) := by decide +kernel
theorem dX1_addAcquaintance_13 : decode cX1_addAcquaintance 13 = .ok (.getfield 21, 3) := by decide +kernel
theorem dX1_addAcquaintance_16 : decode cX1_addAcquaintance 16 = .ok (.iload_n 2, 1) := by decide +kernel
theorem dX1_addAcquaintance_17 : decode cX1_addAcquaintance 17 = .ok (.dup2, 1) := by decide +kernel
theorem dX1_addAcquaintance_18 : decode cX1_addAcquaintance 18 = .ok (.iaload, 1) := by decide +kernel
theorem dX1_addAcquaintance_19 : decode cX1_addAcquaintance 19 = .ok (.iconst 1, 1) := by decide +kernel
theorem dX1_addAcquaintance_20 : decode cX1_addAcquaintance 20 = .ok (.iload_n 1, 1) := by decide +kernel
theorem dX1_addAcquaintance_21 : decode cX1_addAcquaintance 21 = .ok (.ishl, 1) := by decide +kernel
theorem dX1_addAcquaintance_22 : decode cX1_addAcquaintance 22 = .ok (.ior, 1) := by decide +kernel
theorem dX1_addAcquaintance_23 : decode cX1_addAcquaintance 23 = .ok (.iastore, 1) := by decide +kernel
theorem dX1_addAcquaintance_24 : decode cX1_addAcquaintance 24 = .ok (.return_, 1) := by decide +kernel
theorem dX1_delayBetween_0 : decode cX1_delayBetween 0 = .ok (.aload_n 0, 1) := by decide +kernel
theorem dX1_delayBetween_1 : decode cX1_delayBetween 1 = .ok (.getfield 18, 3) := by decide +kernel
theorem dX1_delayBetween_4 : decode cX1_delayBetween 4 = .ok (.iload_n 1, 1) := by decide +kernel
theorem dX1_delayBetween_5 : decode cX1_delayBetween 5 = .ok (.bipush 8, 2) := by decide +kernel
theorem dX1_delayBetween_7 : decode cX1_delayBetween 7 = .ok (.imul, 1) := by decide +kernel
theorem dX1_delayBetween_8 : decode cX1_delayBetween 8 = .ok (.iload_n 2, 1) := by decide +kernel
theorem dX1_delayBetween_9 : decode cX1_delayBetween 9 = .ok (.iadd, 1) := by decide +kernel
theorem dX1_delayBetween_10 : decode cX1_delayBetween 10 = .ok (.iaload, 1) := by decide +kernel
theorem dX1_delayBetween_11 : decode cX1_delayBetween 11 = .ok (.ireturn, 1) := by decide +kernel
theorem dX1_delayAlong_0 : decode cX1_delayAlong 0 = .ok (.aload_n 1, 1) := by decide +kernel
theorem dX1_delayAlong_1 : decode cX1_delayAlong 1 = .ok (.getfield 50, 3) := by decide +kernel
theorem dX1_delayAlong_4 : decode cX1_delayAlong 4 = .ok (.bipush 100, 2) := by decide +kernel
theorem dX1_delayAlong_6 : decode cX1_delayAlong 6 = .ok (.if_icmp .ne 16, 3) := by decide +kernel
theorem dX1_delayAlong_9 : decode cX1_delayAlong 9 = .ok (.aload_n 0, 1) := by decide +kernel
theorem dX1_delayAlong_10 : decode cX1_delayAlong 10 = .ok (.aload_n 1, 1) := by decide +kernel
theorem dX1_delayAlong_11 : decode cX1_delayAlong 11 = .ok (.getfield 55, 3) := by decide +kernel
theorem dX1_delayAlong_14 : decode cX1_delayAlong 14 = .ok (.aload_n 1, 1) := by decide +kernel
theorem dX1_delayAlong_15 : decode cX1_delayAlong 15 = .ok (.getfield 58, 3) := by decide +kernel
theorem dX1_delayAlong_18 : decode cX1_delayAlong 18 = .ok (.invokevirtual 61, 3) := by decide +kernel
theorem dX1_delayAlong_21 : decode cX1_delayAlong 21 = .ok (.ireturn, 1) := by decide +kernel
theorem dX1_delayAlong_22 : decode cX1_delayAlong 22 = .ok (.aload_n 1, 1) := by decide +kernel
theorem dX1_delayAlong_23 : decode cX1_delayAlong 23 = .ok (.getfield 50, 3) := by decide +kernel
theorem dX1_delayAlong_26 : decode cX1_delayAlong 26 = .ok (.iconst (-1), 1) := by decide +kernel
theorem dX1_delayAlong_27 : decode cX1_delayAlong 27 = .ok (.if_icmp .ne 5, 3) := by decide +kernel
theorem dX1_delayAlong_30 : decode cX1_delayAlong 30 = .ok (.iconst 0, 1) := by decide +kernel
theorem dX1_delayAlong_31 : decode cX1_delayAlong 31 = .ok (.ireturn, 1) := by decide +kernel
theorem dX1_delayAlong_32 : decode cX1_delayAlong 32 = .ok (.aload_n 0, 1) := by decide +kernel
theorem dX1_delayAlong_33 : decode cX1_delayAlong 33 = .ok (.aload_n 1, 1) := by decide +kernel
theorem dX1_delayAlong_34 : decode cX1_delayAlong 34 = .ok (.getfield 55, 3) := by decide +kernel
theorem dX1_delayAlong_37 : decode cX1_delayAlong 37 = .ok (.aload_n 1, 1) := by decide +kernel
theorem dX1_delayAlong_38 : decode cX1_delayAlong 38 = .ok (.getfield 50, 3) := by decide +kernel
theorem dX1_delayAlong_41 : decode cX1_delayAlong 41 = .ok (.invokevirtual 61, 3) := by decide +kernel
theorem dX1_delayAlong_44 : decode cX1_delayAlong 44 = .ok (.aload_n 0, 1) := by decide +kernel
theorem dX1_delayAlong_45 : decode cX1_delayAlong 45 = .ok (.aload_n 1, 1) := by decide +kernel
theorem dX1_delayAlong_46 : decode cX1_delayAlong 46 = .ok (.getfield 50, 3) := by decide +kernel
theorem dX1_delayAlong_49 : decode cX1_delayAlong 49 = .ok (.aload_n 1, 1) := by decide +kernel
theorem dX1_delayAlong_50 : decode cX1_delayAlong 50 = .ok (.getfield 58, 3) := by decide +kernel
theorem dX1_delayAlong_53 : decode cX1_delayAlong 53 = .ok (.invokevirtual 61, 3) := by decide +kernel
theorem dX1_delayAlong_56 : decode cX1_delayAlong 56 = .ok (.iadd, 1) := by decide +kernel
theorem dX1_delayAlong_57 : decode cX1_delayAlong 57 = .ok (.ireturn, 1) := by decide +kernel
theorem dX1_zonesCrossed_0 : decode cX1_zonesCrossed 0 = .ok (.aload_n 0, 1) := by decide +kernel
theorem dX1_zonesCrossed_1 : decode cX1_zonesCrossed 1 = .ok (.getfield 15, 3) := by decide +kernel
theorem dX1_zonesCrossed_4 : decode cX1_zonesCrossed 4 = .ok (.iload_n 2, 1) := by decide +kernel
theorem dX1_zonesCrossed_5 : decode cX1_zonesCrossed 5 = .ok (.iaload, 1) := by decide +kernel
theorem dX1_zonesCrossed_6 : decode cX1_zonesCrossed 6 = .ok (.aload_n 0, 1) := by decide +kernel
theorem dX1_zonesCrossed_7 : decode cX1_zonesCrossed 7 = .ok (.getfield 15, 3) := by decide +kernel
theorem dX1_zonesCrossed_10 : decode cX1_zonesCrossed 10 = .ok (.iload_n 1, 1) := by decide +kernel
theorem dX1_zonesCrossed_11 : decode cX1_zonesCrossed 11 = .ok (.iaload, 1) := by decide +kernel
theorem dX1_zonesCrossed_12 : decode cX1_zonesCrossed 12 = .ok (.if_icmp .eq 7, 3) := by decide +kernel
theorem dX1_zonesCrossed_15 : decode cX1_zonesCrossed 15 = .ok (.iconst 1, 1) := by decide +kernel
theorem dX1_zonesCrossed_16 : decode cX1_zonesCrossed 16 = .ok (.goto 4, 3) := by decide +kernel
theorem dX1_zonesCrossed_19 : decode cX1_zonesCrossed 19 = .ok (.iconst 0, 1) := by decide +kernel
theorem dX1_zonesCrossed_20 : decode cX1_zonesCrossed 20 = .ok (.istore 4, 2) := by decide +kernel
theorem dX1_zonesCrossed_22 : decode cX1_zonesCrossed 22 = .ok (.aload_n 0, 1) := by decide +kernel
theorem dX1_zonesCrossed_23 : decode cX1_zonesCrossed 23 = .ok (.getfield 15, 3) := by decide +kernel
theorem dX1_zonesCrossed_26 : decode cX1_zonesCrossed 26 = .ok (.iload_n 3, 1) := by decide +kernel
theorem dX1_zonesCrossed_27 : decode cX1_zonesCrossed 27 = .ok (.iaload, 1) := by decide +kernel
theorem dX1_zonesCrossed_28 : decode cX1_zonesCrossed 28 = .ok (.aload_n 0, 1) := by decide +kernel
theorem dX1_zonesCrossed_29 : decode cX1_zonesCrossed 29 = .ok (.getfield 15, 3) := by decide +kernel
theorem dX1_zonesCrossed_32 : decode cX1_zonesCrossed 32 = .ok (.iload_n 1, 1) := by decide +kernel
theorem dX1_zonesCrossed_33 : decode cX1_zonesCrossed 33 = .ok (.iaload, 1) := by decide +kernel
theorem dX1_zonesCrossed_34 : decode cX1_zonesCrossed 34 = .ok (.if_icmp .eq 10, 3) := by decide +kernel
theorem dX1_zonesCrossed_37 : decode cX1_zonesCrossed 37 = .ok (.iload 4, 2) := by decide +kernel
theorem dX1_zonesCrossed_39 : decode cX1_zonesCrossed 39 = .ok (.iconst 1, 1) := by decide +kernel
theorem dX1_zonesCrossed_40 : decode cX1_zonesCrossed 40 = .ok (.iadd, 1) := by decide +kernel
theorem dX1_zonesCrossed_41 : decode cX1_zonesCrossed 41 = .ok (.goto 5, 3) := by decide +kernel
theorem dX1_zonesCrossed_44 : decode cX1_zonesCrossed 44 = .ok (.iload 4, 2) := by decide +kernel
theorem dX1_zonesCrossed_46 : decode cX1_zonesCrossed 46 = .ok (.ireturn, 1) := by decide +kernel
theorem dX2_init_0 : decode cX2_init 0 = .ok (.aload_n 0, 1) := by decide +kernel
theorem dX2_init_1 : decode cX2_init 1 = .ok (.invokespecial 3, 3) := by decide +kernel
theorem dX2_init_4 : decode cX2_init 4 = .ok (.aload_n 0, 1) := by decide +kernel
theorem dX2_init_5 : decode cX2_init 5 = .ok (.aload_n 1, 1) := by decide +kernel
theorem dX2_init_6 : decode cX2_init 6 = .ok (.putfield 9, 3) := by decide +kernel
theorem dX2_init_9 : decode cX2_init 9 = .ok (.aload_n 0, 1) := by decide +kernel
theorem dX2_init_10 : decode cX2_init 10 = .ok (.iload_n 2, 1) := by decide +kernel
theorem dX2_init_11 : decode cX2_init 11 = .ok (.putfield 15, 3) := by decide +kernel
theorem dX2_init_14 : decode cX2_init 14 = .ok (.aload_n 0, 1) := by decide +kernel
theorem dX2_init_15 : decode cX2_init 15 = .ok (.aload_n 3, 1) := by decide +kernel
theorem dX2_init_16 : decode cX2_init 16 = .ok (.putfield 19, 3) := by decide +kernel
theorem dX2_init_19 : decode cX2_init 19 = .ok (.aload_n 0, 1) := by decide +kernel
theorem dX2_init_20 : decode cX2_init 20 = .ok (.iconst (-1), 1) := by decide +kernel
theorem dX2_init_21 : decode cX2_init 21 = .ok (.putfield 23, 3) := by decide +kernel
theorem dX2_init_24 : decode cX2_init 24 = .ok (.return_, 1) := by decide +kernel
theorem dX2_readOverlay_0 : decode cX2_readOverlay 0 = .ok (.aload_n 0, 1) := by decide +kernel
theorem dX2_readOverlay_1 : decode cX2_readOverlay 1 = .ok (.getfield 19, 3) := by decide +kernel
theorem dX2_readOverlay_4 : decode cX2_readOverlay 4 = .ok (.invokevirtual 26, 3) := by decide +kernel
theorem dX2_readOverlay_7 : decode cX2_readOverlay 7 = .ok (.aload_n 0, 1) := by decide +kernel
theorem dX2_readOverlay_8 : decode cX2_readOverlay 8 = .ok (.invokevirtual 31, 3) := by decide +kernel
theorem dX2_readOverlay_11 : decode cX2_readOverlay 11 = .ok (.iconst 0, 1) := by decide +kernel
theorem dX2_readOverlay_12 : decode cX2_readOverlay 12 = .ok (.istore_n 1, 1) := by decide +kernel
theorem dX2_readOverlay_13 : decode cX2_readOverlay 13 = .ok (.iload_n 1, 1) := by decide +kernel
theorem dX2_readOverlay_14 : decode cX2_readOverlay 14 = .ok (.sipush 600, 3) := by decide +kernel
theorem dX2_readOverlay_17 : decode cX2_readOverlay 17 = .ok (.if_icmp .ge 30, 3) := by decide +kernel
theorem dX2_readOverlay_20 : decode cX2_readOverlay 20 = .ok (.aload_n 0, 1) := by decide +kernel
theorem dX2_readOverlay_21 : decode cX2_readOverlay 21 = .ok (.getfield 34, 3) := by decide +kernel
theorem dX2_readOverlay_24 : decode cX2_readOverlay 24 = .ok (.ifCond .eq 23, 3) := by decide +kernel
theorem dX2_readOverlay_27 : decode cX2_readOverlay 27 = .ok (.aload_n 0, 1) := by decide +kernel
theorem dX2_readOverlay_28 : decode cX2_readOverlay 28 = .ok (.invokevirtual 37, 3) := by decide +kernel
theorem dX2_readOverlay_31 : decode cX2_readOverlay 31 = .ok (.aload_n 0, 1) := by decide +kernel
theorem dX2_readOverlay_32 : decode cX2_readOverlay 32 = .ok (.bipush 59, 2) := by decide +kernel
theorem dX2_readOverlay_34 : decode cX2_readOverlay 34 = .ok (.invokevirtual 40, 3) := by decide +kernel
theorem dX2_readOverlay_37 : decode cX2_readOverlay 37 = .ok (.aload_n 0, 1) := by decide +kernel
theorem dX2_readOverlay_38 : decode cX2_readOverlay 38 = .ok (.invokevirtual 31, 3) := by decide +kernel
theorem dX2_readOverlay_41 : decode cX2_readOverlay 41 = .ok (.iinc 1 1, 3) := by decide +kernel
theorem dX2_readOverlay_44 : decode cX2_readOverlay 44 = .ok (.goto (-31), 3) := by decide +kernel
theorem dX2_readOverlay_47 : decode cX2_readOverlay 47 = .ok (.aload_n 0, 1) := by decide +kernel
theorem dX2_readOverlay_48 : decode cX2_readOverlay 48 = .ok (.getfield 44, 3) := by decide +kernel
theorem dX2_readOverlay_51 : decode cX2_readOverlay 51 = .ok (.ireturn, 1) := by decide +kernel
theorem dX2_readStatement_0 : decode cX2_readStatement 0 = .ok (.aload_n 0, 1) := by decide +kernel
theorem dX2_readStatement_1 : decode cX2_readStatement 1 = .ok (.ldc 47, 2) := by decide +kernel
theorem dX2_readStatement_3 : decode cX2_readStatement 3 = .ok (.invokevirtual 49, 3) := by decide +kernel
theorem dX2_readStatement_6 : decode cX2_readStatement 6 = .ok (.ifCond .eq 10, 3) := by decide +kernel
theorem dX2_readStatement_9 : decode cX2_readStatement 9 = .ok (.aload_n 0, 1) := by decide +kernel
theorem dX2_readStatement_10 : decode cX2_readStatement 10 = .ok (.invokevirtual 53, 3) := by decide +kernel
theorem dX2_readStatement_13 : decode cX2_readStatement 13 = .ok (.goto 160, 3) := by decide +kernel
theorem dX2_readStatement_16 : decode cX2_readStatement 16 = .ok (.aload_n 0, 1) := by decide +kernel
theorem dX2_readStatement_17 : decode cX2_readStatement 17 = .ok (.ldc 56, 2) := by decide +kernel
theorem dX2_readStatement_19 : decode cX2_readStatement 19 = .ok (.invokevirtual 49, 3) := by decide +kernel
theorem dX2_readStatement_22 : decode cX2_readStatement 22 = .ok (.ifCond .eq 10, 3) := by decide +kernel
theorem dX2_readStatement_25 : decode cX2_readStatement 25 = .ok (.aload_n 0, 1) := by decide +kernel
theorem dX2_readStatement_26 : decode cX2_readStatement 26 = .ok (.invokevirtual 58, 3) := by decide +kernel
theorem dX2_readStatement_29 : decode cX2_readStatement 29 = .ok (.goto 144, 3) := by decide +kernel
theorem dX2_readStatement_32 : decode cX2_readStatement 32 = .ok (.aload_n 0, 1) := by decide +kernel
theorem dX2_readStatement_33 : decode cX2_readStatement 33 = .ok (.ldc 61, 2) := by decide +kernel
theorem dX2_readStatement_35 : decode cX2_readStatement 35 = .ok (.invokevirtual 49, 3) := by decide +kernel
theorem dX2_readStatement_38 : decode cX2_readStatement 38 = .ok (.ifCond .eq 10, 3) := by decide +kernel
theorem dX2_readStatement_41 : decode cX2_readStatement 41 = .ok (.aload_n 0, 1) := by decide +kernel
theorem dX2_readStatement_42 : decode cX2_readStatement 42 = .ok (.invokevirtual 63, 3) := by decide +kernel
theorem dX2_readStatement_45 : decode cX2_readStatement 45 = .ok (.goto 128, 3) := by decide +kernel
theorem dX2_readStatement_48 : decode cX2_readStatement 48 = .ok (.aload_n 0, 1) := by decide +kernel
theorem dX2_readStatement_49 : decode cX2_readStatement 49 = .ok (.ldc 66, 2) := by decide +kernel
theorem dX2_readStatement_51 : decode cX2_readStatement 51 = .ok (.invokevirtual 49, 3) := by decide +kernel
theorem dX2_readStatement_54 : decode cX2_readStatement 54 = .ok (.ifCond .eq 29, 3) := by decide +kernel
theorem dX2_readStatement_57 : decode cX2_readStatement 57 = .ok (.aload_n 0, 1) := by decide +kernel
theorem dX2_readStatement_58 : decode cX2_readStatement 58 = .ok (.iconst 1, 1) := by decide +kernel
theorem dX2_readStatement_59 : decode cX2_readStatement 59 = .ok (.invokevirtual 68, 3) := by decide +kernel
theorem dX2_readStatement_62 : decode cX2_readStatement 62 = .ok (.ifCond .eq 111, 3) := by decide +kernel
theorem dX2_readStatement_65 : decode cX2_readStatement 65 = .ok (.aload_n 0, 1) := by decide +kernel
theorem dX2_readStatement_66 : decode cX2_readStatement 66 = .ok (.getfield 19, 3) := by decide +kernel
theorem dX2_readStatement_69 : decode cX2_readStatement 69 = .ok (.getfield 72, 3) := by decide +kernel
theorem dX2_readStatement_72 : decode cX2_readStatement 72 = .ok (.invokevirtual 75, 3) := by decide +kernel
theorem dX2_readStatement_75 : decode cX2_readStatement 75 = .ok (.aload_n 0, 1) := by decide +kernel
theorem dX2_readStatement_76 : decode cX2_readStatement 76 = .ok (.iconst 0, 1) := by decide +kernel
theorem dX2_readStatement_77 : decode cX2_readStatement 77 = .ok (.invokevirtual 78, 3) := by decide +kernel
theorem dX2_readStatement_80 : decode cX2_readStatement 80 = .ok (.goto 93, 3) := by decide +kernel
theorem dX2_readStatement_83 : decode cX2_readStatement 83 = .ok (.aload_n 0, 1) := by decide +kernel
theorem dX2_readStatement_84 : decode cX2_readStatement 84 = .ok (.ldc 81, 2) := by decide +kernel
theorem dX2_readStatement_86 : decode cX2_readStatement 86 = .ok (.invokevirtual 49, 3) := by decide +kernel
theorem dX2_readStatement_89 : decode cX2_readStatement 89 = .ok (.ifCond .eq 44, 3) := by decide +kernel
theorem dX2_readStatement_92 : decode cX2_readStatement 92 = .ok (.aload_n 0, 1) := by decide +kernel
theorem dX2_readStatement_93 : decode cX2_readStatement 93 = .ok (.iconst 2, 1) := by decide +kernel
theorem dX2_readStatement_94 : decode cX2_readStatement 94 = .ok (.invokevirtual 68, 3) := by decide +kernel
theorem dX2_readStatement_97 : decode cX2_readStatement 97 = .ok (.ifCond .eq 76, 3) := by decide +kernel
theorem dX2_readStatement_100 : decode cX2_readStatement 100 = .ok (.aload_n 0, 1) := by decide +kernel
theorem dX2_readStatement_101 : decode cX2_readStatement 101 = .ok (.getfield 19, 3) := by decide +kernel
theorem dX2_readStatement_104 : decode cX2_readStatement 104 = .ok (.aload_n 0, 1) := by decide +kernel
theorem dX2_readStatement_105 : decode cX2_readStatement 105 = .ok (.iconst 1, 1) := by decide +kernel
theorem dX2_readStatement_106 : decode cX2_readStatement 106 = .ok (.bipush 20, 2) := by decide +kernel
theorem dX2_readStatement_108 : decode cX2_readStatement 108 = .ok (.iconst (-1), 1) := by decide +kernel
theorem dX2_readStatement_109 : decode cX2_readStatement 109 = .ok (.invokevirtual 83, 3) := by decide +kernel
theorem dX2_readStatement_112 : decode cX2_readStatement 112 = .ok (.putfield 87, 3) := by decide +kernel
theorem dX2_readStatement_115 : decode cX2_readStatement 115 = .ok (.aload_n 0, 1) := by decide +kernel
theorem dX2_readStatement_116 : decode cX2_readStatement 116 = .ok (.getfield 19, 3) := by decide +kernel
theorem dX2_readStatement_119 : decode cX2_readStatement 119 = .ok (.aload_n 0, 1) := by decide +kernel
theorem dX2_readStatement_120 : decode cX2_readStatement 120 = .ok (.iconst 1, 1) := by decide +kernel
theorem dX2_readStatement_121 : decode cX2_readStatement 121 = .ok (.bipush 9, 2) := by decide +kernel
theorem dX2_readStatement_123 : decode cX2_readStatement 123 = .ok (.iconst (-1), 1) := by decide +kernel
theorem dX2_readStatement_124 : decode cX2_readStatement 124 = .ok (.invokevirtual 83, 3) := by decide +kernel
theorem dX2_readStatement_127 : decode cX2_readStatement 127 = .ok (.putfield 90, 3) := by decide +kernel
theorem dX2_readStatement_130 : decode cX2_readStatement 130 = .ok (.goto 43, 3) := by decide +kernel
theorem dX2_readStatement_133 : decode cX2_readStatement 133 = .ok (.aload_n 0, 1) := by decide +kernel
theorem dX2_readStatement_134 : decode cX2_readStatement 134 = .ok (.ldc 93, 2) := by decide +kernel
theorem dX2_readStatement_136 : decode cX2_readStatement 136 = .ok (.invokevirtual 49, 3) := by decide +kernel
theorem dX2_readStatement_139 : decode cX2_readStatement 139 = .ok (.ifCond .eq 29, 3) := by decide +kernel
theorem dX2_readStatement_142 : decode cX2_readStatement 142 = .ok (.aload_n 0, 1) := by decide +kernel
theorem dX2_readStatement_143 : decode cX2_readStatement 143 = .ok (.iconst 4, 1) := by decide +kernel
theorem dX2_readStatement_144 : decode cX2_readStatement 144 = .ok (.invokevirtual 68, 3) := by decide +kernel
theorem dX2_readStatement_147 : decode cX2_readStatement 147 = .ok (.ifCond .eq 26, 3) := by decide +kernel
theorem dX2_readStatement_150 : decode cX2_readStatement 150 = .ok (.aload_n 0, 1) := by decide +kernel
theorem dX2_readStatement_151 : decode cX2_readStatement 151 = .ok (.getfield 19, 3) := by decide +kernel
theorem dX2_readStatement_154 : decode cX2_readStatement 154 = .ok (.aload_n 0, 1) := by decide +kernel
theorem dX2_readStatement_155 : decode cX2_readStatement 155 = .ok (.iconst 1, 1) := by decide +kernel
theorem dX2_readStatement_156 : decode cX2_readStatement 156 = .ok (.bipush 99, 2) := by decide +kernel
theorem dX2_readStatement_158 : decode cX2_readStatement 158 = .ok (.iconst (-1), 1) := by decide +kernel
theorem dX2_readStatement_159 : decode cX2_readStatement 159 = .ok (.invokevirtual 83, 3) := by decide +kernel
theorem dX2_readStatement_162 : decode cX2_readStatement 162 = .ok (.putfield 95, 3) := by decide +kernel
theorem dX2_readStatement_165 : decode cX2_readStatement 165 = .ok (.goto 8, 3) := by decide +kernel
theorem dX2_readStatement_168 : decode cX2_readStatement 168 = .ok (.aload_n 0, 1) := by decide +kernel
theorem dX2_readStatement_169 : decode cX2_readStatement 169 = .ok (.iconst 1, 1) := by decide +kernel
theorem dX2_readStatement_170 : decode cX2_readStatement 170 = .ok (.invokevirtual 98, 3) := by decide +kernel
theorem dX2_readStatement_173 : decode cX2_readStatement 173 = .ok (.return_, 1) := by decide +kernel
theorem dX2_readPeer_0 : decode cX2_readPeer 0 = .ok (.aload_n 0, 1) := by decide +kernel
theorem dX2_readPeer_1 : decode cX2_readPeer 1 = .ok (.getfield 19, 3) := by decide +kernel
theorem dX2_readPeer_4 : decode cX2_readPeer 4 = .ok (.getfield 101, 3) := by decide +kernel
theorem dX2_readPeer_7 : decode cX2_readPeer 7 = .ok (.bipush 8, 2) := by decide +kernel
theorem dX2_readPeer_9 : decode cX2_readPeer 9 = .ok (.if_icmp .lt 9, 3) := by decide +kernel
theorem dX2_readPeer_12 : decode cX2_readPeer 12 = .ok (.aload_n 0, 1) := by decide +kernel
theorem dX2_readPeer_13 : decode cX2_readPeer 13 = .ok (.iconst 4, 1) := by decide +kernel
theorem dX2_readPeer_14 : decode cX2_readPeer 14 = .ok (.invokevirtual 98, 3) := by decide +kernel
theorem dX2_readPeer_17 : decode cX2_readPeer 17 = .ok (.return_, 1) := by decide +kernel
theorem dX2_readPeer_18 : decode cX2_readPeer 18 = .ok (.aload_n 0, 1) := by decide +kernel
theorem dX2_readPeer_19 : decode cX2_readPeer 19 = .ok (.invokevirtual 31, 3) := by decide +kernel
theorem dX2_readPeer_22 : decode cX2_readPeer 22 = .ok (.aload_n 0, 1) := by decide +kernel
theorem dX2_readPeer_23 : decode cX2_readPeer 23 = .ok (.iconst 0, 1) := by decide +kernel
theorem dX2_readPeer_24 : decode cX2_readPeer 24 = .ok (.bipush 9, 2) := by decide +kernel
theorem dX2_readPeer_26 : decode cX2_readPeer 26 = .ok (.iconst (-1), 1) := by decide +kernel
theorem dX2_readPeer_27 : decode cX2_readPeer 27 = .ok (.invokevirtual 83, 3) := by decide +kernel
theorem dX2_readPeer_30 : decode cX2_readPeer 30 = .ok (.istore_n 1, 1) := by decide +kernel
theorem dX2_readPeer_31 : decode cX2_readPeer 31 = .ok (.aload_n 0, 1) := by decide +kernel
theorem dX2_readPeer_32 : decode cX2_readPeer 32 = .ok (.iconst 0, 1) := by decide +kernel
theorem dX2_readPeer_33 : decode cX2_readPeer 33 = .ok (.bipush 9, 2) := by decide +kernel
theorem dX2_readPeer_35 : decode cX2_readPeer 35 = .ok (.iconst (-1), 1) := by decide +kernel
theorem dX2_readPeer_36 : decode cX2_readPeer 36 = .ok (.invokevirtual 83, 3) := by decide +kernel
theorem dX2_readPeer_39 : decode cX2_readPeer 39 = .ok (.istore_n 2, 1) := by decide +kernel
theorem dX2_readPeer_40 : decode cX2_readPeer 40 = .ok (.aload_n 0, 1) := by decide +kernel
theorem dX2_readPeer_41 : decode cX2_readPeer 41 = .ok (.getfield 44, 3) := by decide +kernel
theorem dX2_readPeer_44 : decode cX2_readPeer 44 = .ok (.ifCond .ne 12, 3) := by decide +kernel
theorem dX2_readPeer_47 : decode cX2_readPeer 47 = .ok (.aload_n 0, 1) := by decide +kernel
theorem dX2_readPeer_48 : decode cX2_readPeer 48 = .ok (.getfield 19, 3) := by decide +kernel
theorem dX2_readPeer_51 : decode cX2_readPeer 51 = .ok (.iload_n 1, 1) := by decide +kernel
theorem dX2_readPeer_52 : decode cX2_readPeer 52 = .ok (.iload_n 2, 1) := by decide +kernel
theorem dX2_readPeer_53 : decode cX2_readPeer 53 = .ok (.invokevirtual 104, 3) := by decide +kernel
theorem dX2_readPeer_56 : decode cX2_readPeer 56 = .ok (.return_, 1) := by decide +kernel
theorem dX2_readLink_0 : decode cX2_readLink 0 = .ok (.aload_n 0, 1) := by decide +kernel
theorem dX2_readLink_1 : decode cX2_readLink 1 = .ok (.invokevirtual 31, 3) := by decide +kernel
theorem dX2_readLink_4 : decode cX2_readLink 4 = .ok (.aload_n 0, 1) := by decide +kernel
theorem dX2_readLink_5 : decode cX2_readLink 5 = .ok (.iconst 0, 1) := by decide +kernel
theorem dX2_readLink_6 : decode cX2_readLink 6 = .ok (.aload_n 0, 1) := by decide +kernel
theorem dX2_readLink_7 : decode cX2_readLink 7 = .ok (.getfield 19, 3) := by decide +kernel
theorem dX2_readLink_10 : decode cX2_readLink 10 = .ok (.getfield 101, 3) := by decide +kernel
theorem dX2_readLink_13 : decode cX2_readLink 13 = .ok (.iconst 1, 1) := by decide +kernel
theorem dX2_readLink_14 : decode cX2_readLink 14 = .ok (.isub, 1) := by decide +kernel
theorem dX2_readLink_15 : decode cX2_readLink 15 = .ok (.iconst (-1), 1) := by decide +kernel
theorem dX2_readLink_16 : decode cX2_readLink 16 = .ok (.invokevirtual 83, 3) := by decide +kernel
theorem dX2_readLink_19 : decode cX2_readLink 19 = .ok (.istore_n 1, 1) := by decide +kernel
theorem dX2_readLink_20 : decode cX2_readLink 20 = .ok (.aload_n 0, 1) := by decide +kernel
theorem dX2_readLink_21 : decode cX2_readLink 21 = .ok (.iconst 0, 1) := by decide +kernel
theorem dX2_readLink_22 : decode cX2_readLink 22 = .ok (.aload_n 0, 1) := by decide +kernel
theorem dX2_readLink_23 : decode cX2_readLink 23 = .ok (.getfield 19, 3) := by decide +kernel
theorem dX2_readLink_26 : decode cX2_readLink 26 = .ok (.getfield 101, 3) := by decide +kernel
theorem dX2_readLink_29 : decode cX2_readLink 29 = .ok (.iconst 1, 1) := by decide +kernel
theorem dX2_readLink_30 : decode cX2_readLink 30 = .ok (.isub, 1) := by decide +kernel
theorem dX2_readLink_31 : decode cX2_readLink 31 = .ok (.iload_n 1, 1) := by decide +kernel
theorem dX2_readLink_32 : decode cX2_readLink 32 = .ok (.invokevirtual 83, 3) := by decide +kernel
theorem dX2_readLink_35 : decode cX2_readLink 35 = .ok (.istore_n 2, 1) := by decide +kernel
theorem dX2_readLink_36 : decode cX2_readLink 36 = .ok (.aload_n 0, 1) := by decide +kernel
theorem dX2_readLink_37 : decode cX2_readLink 37 = .ok (.iconst 1, 1) := by decide +kernel
theorem dX2_readLink_38 : decode cX2_readLink 38 = .ok (.bipush 99, 2) := by decide +kernel
theorem dX2_readLink_40 : decode cX2_readLink 40 = .ok (.iconst (-1), 1) := by decide +kernel
theorem dX2_readLink_41 : decode cX2_readLink 41 = .ok (.invokevirtual 83, 3) := by decide +kernel
theorem dX2_readLink_44 : decode cX2_readLink 44 = .ok (.istore_n 3, 1) := by decide +kernel
theorem dX2_readLink_45 : decode cX2_readLink 45 = .ok (.aload_n 0, 1) := by decide +kernel
theorem dX2_readLink_46 : decode cX2_readLink 46 = .ok (.getfield 44, 3) := by decide +kernel
theorem dX2_readLink_49 : decode cX2_readLink 49 = .ok (.ifCond .ne 13, 3) := by decide +kernel
theorem dX2_readLink_52 : decode cX2_readLink 52 = .ok (.aload_n 0, 1) := by decide +kernel
theorem dX2_readLink_53 : decode cX2_readLink 53 = .ok (.getfield 19, 3) := by decide +kernel
theorem dX2_readLink_56 : decode cX2_readLink 56 = .ok (.iload_n 1, 1) := by decide +kernel
theorem dX2_readLink_57 : decode cX2_readLink 57 = .ok (.iload_n 2, 1) := by decide +kernel
theorem dX2_readLink_58 : decode cX2_readLink 58 = .ok (.iload_n 3, 1) := by decide +kernel
theorem dX2_readLink_59 : decode cX2_readLink 59 = .ok (.invokevirtual 108, 3) := by decide +kernel
theorem dX2_readLink_62 : decode cX2_readLink 62 = .ok (.return_, 1) := by decide +kernel
theorem dX2_readKnows_0 : decode cX2_readKnows 0 = .ok (.aload_n 0, 1) := by decide +kernel
theorem dX2_readKnows_1 : decode cX2_readKnows 1 = .ok (.invokevirtual 31, 3) := by decide +kernel
theorem dX2_readKnows_4 : decode cX2_readKnows 4 = .ok (.aload_n 0, 1) := by decide +kernel
theorem dX2_readKnows_5 : decode cX2_readKnows 5 = .ok (.iconst 0, 1) := by decide +kernel
theorem dX2_readKnows_6 : decode cX2_readKnows 6 = .ok (.aload_n 0, 1) := by decide +kernel
theorem dX2_readKnows_7 : decode cX2_readKnows 7 = .ok (.getfield 19, 3) := by decide +kernel
theorem dX2_readKnows_10 : decode cX2_readKnows 10 = .ok (.getfield 101, 3) := by decide +kernel
theorem dX2_readKnows_13 : decode cX2_readKnows 13 = .ok (.iconst 1, 1) := by decide +kernel
theorem dX2_readKnows_14 : decode cX2_readKnows 14 = .ok (.isub, 1) := by decide +kernel
theorem dX2_readKnows_15 : decode cX2_readKnows 15 = .ok (.iconst (-1), 1) := by decide +kernel
theorem dX2_readKnows_16 : decode cX2_readKnows 16 = .ok (.invokevirtual 83, 3) := by decide +kernel
theorem dX2_readKnows_19 : decode cX2_readKnows 19 = .ok (.istore_n 1, 1) := by decide +kernel
theorem dX2_readKnows_20 : decode cX2_readKnows 20 = .ok (.aload_n 0, 1) := by decide +kernel
theorem dX2_readKnows_21 : decode cX2_readKnows 21 = .ok (.iconst 0, 1) := by decide +kernel
theorem dX2_readKnows_22 : decode cX2_readKnows 22 = .ok (.aload_n 0, 1) := by decide +kernel
theorem dX2_readKnows_23 : decode cX2_readKnows 23 = .ok (.getfield 19, 3) := by decide +kernel
theorem dX2_readKnows_26 : decode cX2_readKnows 26 = .ok (.getfield 101, 3) := by decide +kernel
theorem dX2_readKnows_29 : decode cX2_readKnows 29 = .ok (.iconst 1, 1) := by decide +kernel
theorem dX2_readKnows_30 : decode cX2_readKnows 30 = .ok (.isub, 1) := by decide +kernel
theorem dX2_readKnows_31 : decode cX2_readKnows 31 = .ok (.iload_n 1, 1) := by decide +kernel
theorem dX2_readKnows_32 : decode cX2_readKnows 32 = .ok (.invokevirtual 83, 3) := by decide +kernel
theorem dX2_readKnows_35 : decode cX2_readKnows 35 = .ok (.istore_n 2, 1) := by decide +kernel
theorem dX2_readKnows_36 : decode cX2_readKnows 36 = .ok (.aload_n 0, 1) := by decide +kernel
theorem dX2_readKnows_37 : decode cX2_readKnows 37 = .ok (.getfield 44, 3) := by decide +kernel
theorem dX2_readKnows_40 : decode cX2_readKnows 40 = .ok (.ifCond .ne 12, 3) := by decide +kernel
theorem dX2_readKnows_43 : decode cX2_readKnows 43 = .ok (.aload_n 0, 1) := by decide +kernel
theorem dX2_readKnows_44 : decode cX2_readKnows 44 = .ok (.getfield 19, 3) := by decide +kernel
theorem dX2_readKnows_47 : decode cX2_readKnows 47 = .ok (.iload_n 1, 1) := by decide +kernel
theorem dX2_readKnows_48 : decode cX2_readKnows 48 = .ok (.iload_n 2, 1) := by decide +kernel
theorem dX2_readKnows_49 : decode cX2_readKnows 49 = .ok (.invokevirtual 112, 3) := by decide +kernel
theorem dX2_readKnows_52 : decode cX2_readKnows 52 = .ok (.return_, 1) := by decide +kernel
theorem dX2_beginsOnly_0 : decode cX2_beginsOnly 0 = .ok (.aload_n 0, 1) := by decide +kernel
theorem dX2_beginsOnly_1 : decode cX2_beginsOnly 1 = .ok (.getfield 115, 3) := by decide +kernel
theorem dX2_beginsOnly_4 : decode cX2_beginsOnly 4 = .ok (.iload_n 1, 1) := by decide +kernel
theorem dX2_beginsOnly_5 : decode cX2_beginsOnly 5 = .ok (.iand, 1) := by decide +kernel
theorem dX2_beginsOnly_6 : decode cX2_beginsOnly 6 = .ok (.ifCond .eq 10, 3) := by decide +kernel
theorem dX2_beginsOnly_9 : decode cX2_beginsOnly 9 = .ok (.aload_n 0, 1) := by decide +kernel
theorem dX2_beginsOnly_10 : decode cX2_beginsOnly 10 = .ok (.iconst 2, 1) := by decide +kernel
theorem dX2_beginsOnly_11 : decode cX2_beginsOnly 11 = .ok (.invokevirtual 98, 3) := by decide +kernel
theorem dX2_beginsOnly_14 : decode cX2_beginsOnly 14 = .ok (.iconst 0, 1) := by decide +kernel
theorem dX2_beginsOnly_15 : decode cX2_beginsOnly 15 = .ok (.ireturn, 1) := by decide +kernel
theorem dX2_beginsOnly_16 : decode cX2_beginsOnly 16 = .ok (.aload_n 0, 1) := by decide +kernel
theorem dX2_beginsOnly_17 : decode cX2_beginsOnly 17 = .ok (.dup, 1) := by decide +kernel
theorem dX2_beginsOnly_18 : decode cX2_beginsOnly 18 = .ok (.getfield 115, 3) := by decide +kernel
theorem dX2_beginsOnly_21 : decode cX2_beginsOnly 21 = .ok (.iload_n 1, 1) := by decide +kernel
theorem dX2_beginsOnly_22 : decode cX2_beginsOnly 22 = .ok (.ior, 1) := by decide +kernel
theorem dX2_beginsOnly_23 : decode cX2_beginsOnly 23 = .ok (.putfield 115, 3) := by decide +kernel
theorem dX2_beginsOnly_26 : decode cX2_beginsOnly 26 = .ok (.aload_n 0, 1) := by decide +kernel
theorem dX2_beginsOnly_27 : decode cX2_beginsOnly 27 = .ok (.invokevirtual 31, 3) := by decide +kernel
theorem dX2_beginsOnly_30 : decode cX2_beginsOnly 30 = .ok (.iconst 1, 1) := by decide +kernel
theorem dX2_beginsOnly_31 : decode cX2_beginsOnly 31 = .ok (.ireturn, 1) := by decide +kernel
theorem dX2_readNumber_0 : decode cX2_readNumber 0 = .ok (.aload_n 0, 1) := by decide +kernel
theorem dX2_readNumber_1 : decode cX2_readNumber 1 = .ok (.getfield 34, 3) := by decide +kernel
theorem dX2_readNumber_4 : decode cX2_readNumber 4 = .ok (.iconst 2, 1) := by decide +kernel
theorem dX2_readNumber_5 : decode cX2_readNumber 5 = .ok (.if_icmp .eq 10, 3) := by decide +kernel
theorem dX2_readNumber_8 : decode cX2_readNumber 8 = .ok (.aload_n 0, 1) := by decide +kernel
theorem dX2_readNumber_9 : decode cX2_readNumber 9 = .ok (.iconst 1, 1) := by decide +kernel
theorem dX2_readNumber_10 : decode cX2_readNumber 10 = .ok (.invokevirtual 98, 3) := by decide +kernel
theorem dX2_readNumber_13 : decode cX2_readNumber 13 = .ok (.iconst 0, 1) := by decide +kernel
theorem dX2_readNumber_14 : decode cX2_readNumber 14 = .ok (.ireturn, 1) := by decide +kernel
theorem dX2_readNumber_15 : decode cX2_readNumber 15 = .ok (.aload_n 0, 1) := by decide +kernel
theorem dX2_readNumber_16 : decode cX2_readNumber 16 = .ok (.getfield 118, 3) := by decide +kernel
theorem dX2_readNumber_19 : decode cX2_readNumber 19 = .ok (.istore 4, 2) := by decide +kernel
theorem dX2_readNumber_21 : decode cX2_readNumber 21 = .ok (.iload 4, 2) := by decide +kernel
theorem dX2_readNumber_23 : decode cX2_readNumber 23 = .ok (.iload_n 1, 1) := by decide +kernel
theorem dX2_readNumber_24 : decode cX2_readNumber 24 = .ok (.if_icmp .lt 9, 3) := by decide +kernel
theorem dX2_readNumber_27 : decode cX2_readNumber 27 = .ok (.iload 4, 2) := by decide +kernel
theorem dX2_readNumber_29 : decode cX2_readNumber 29 = .ok (.iload_n 2, 1) := by decide +kernel
theorem dX2_readNumber_30 : decode cX2_readNumber 30 = .ok (.if_icmp .le 10, 3) := by decide +kernel
theorem dX2_readNumber_33 : decode cX2_readNumber 33 = .ok (.aload_n 0, 1) := by decide +kernel
theorem dX2_readNumber_34 : decode cX2_readNumber 34 = .ok (.iconst 3, 1) := by decide +kernel
theorem dX2_readNumber_35 : decode cX2_readNumber 35 = .ok (.invokevirtual 98, 3) := by decide +kernel
theorem dX2_readNumber_38 : decode cX2_readNumber 38 = .ok (.iconst 0, 1) := by decide +kernel
theorem dX2_readNumber_39 : decode cX2_readNumber 39 = .ok (.ireturn, 1) := by decide +kernel
theorem dX2_readNumber_40 : decode cX2_readNumber 40 = .ok (.iload 4, 2) := by decide +kernel
theorem dX2_readNumber_42 : decode cX2_readNumber 42 = .ok (.iload_n 3, 1) := by decide +kernel
theorem dX2_readNumber_43 : decode cX2_readNumber 43 = .ok (.if_icmp .ne 10, 3) := by decide +kernel
theorem dX2_readNumber_46 : decode cX2_readNumber 46 = .ok (.aload_n 0, 1) := by decide +kernel
theorem dX2_readNumber_47 : decode cX2_readNumber 47 = .ok (.iconst 5, 1) := by decide +kernel
theorem dX2_readNumber_48 : decode cX2_readNumber 48 = .ok (.invokevirtual 98, 3) := by decide +kernel
theorem dX2_readNumber_51 : decode cX2_readNumber 51 = .ok (.iconst 0, 1) := by decide +kernel
theorem dX2_readNumber_52 : decode cX2_readNumber 52 = .ok (.ireturn, 1) := by decide +kernel
theorem dX2_readNumber_53 : decode cX2_readNumber 53 = .ok (.aload_n 0, 1) := by decide +kernel
theorem dX2_readNumber_54 : decode cX2_readNumber 54 = .ok (.invokevirtual 31, 3) := by decide +kernel
theorem dX2_readNumber_57 : decode cX2_readNumber 57 = .ok (.iload 4, 2) := by decide +kernel
theorem dX2_readNumber_59 : decode cX2_readNumber 59 = .ok (.ireturn, 1) := by decide +kernel
theorem dX2_readSum_0 : decode cX2_readSum 0 = .ok (.aload_n 0, 1) := by decide +kernel
theorem dX2_readSum_1 : decode cX2_readSum 1 = .ok (.iload_n 1, 1) := by decide +kernel
theorem dX2_readSum_2 : decode cX2_readSum 2 = .ok (.invokevirtual 121, 3) := by decide +kernel
theorem dX2_readSum_5 : decode cX2_readSum 5 = .ok (.iconst 0, 1) := by decide +kernel
theorem dX2_readSum_6 : decode cX2_readSum 6 = .ok (.istore_n 2, 1) := by decide +kernel
theorem dX2_readSum_7 : decode cX2_readSum 7 = .ok (.iload_n 2, 1) := by decide +kernel
theorem dX2_readSum_8 : decode cX2_readSum 8 = .ok (.sipush 600, 3) := by decide +kernel
theorem dX2_readSum_11 : decode cX2_readSum 11 = .ok (.if_icmp .ge 64, 3) := by decide +kernel
theorem dX2_readSum_14 : decode cX2_readSum 14 = .ok (.aload_n 0, 1) := by decide +kernel
theorem dX2_readSum_15 : decode cX2_readSum 15 = .ok (.getfield 34, 3) := by decide +kernel
theorem dX2_readSum_18 : decode cX2_readSum 18 = .ok (.bipush 43, 2) := by decide +kernel
theorem dX2_readSum_20 : decode cX2_readSum 20 = .ok (.if_icmp .eq 12, 3) := by decide +kernel
theorem dX2_readSum_23 : decode cX2_readSum 23 = .ok (.aload_n 0, 1) := by decide +kernel
theorem dX2_readSum_24 : decode cX2_readSum 24 = .ok (.getfield 34, 3) := by decide +kernel
theorem dX2_readSum_27 : decode cX2_readSum 27 = .ok (.bipush 45, 2) := by decide +kernel
theorem dX2_readSum_29 : decode cX2_readSum 29 = .ok (.if_icmp .ne 46, 3) := by decide +kernel
theorem dX2_readSum_32 : decode cX2_readSum 32 = .ok (.aload_n 0, 1) := by decide +kernel
theorem dX2_readSum_33 : decode cX2_readSum 33 = .ok (.getfield 34, 3) := by decide +kernel
theorem dX2_readSum_36 : decode cX2_readSum 36 = .ok (.bipush 43, 2) := by decide +kernel
theorem dX2_readSum_38 : decode cX2_readSum 38 = .ok (.if_icmp .ne 8, 3) := by decide +kernel
theorem dX2_readSum_41 : decode cX2_readSum 41 = .ok (.bipush (-6), 2) := by decide +kernel
theorem dX2_readSum_43 : decode cX2_readSum 43 = .ok (.goto 5, 3) := by decide +kernel
theorem dX2_readSum_46 : decode cX2_readSum 46 = .ok (.bipush (-7), 2) := by decide +kernel
theorem dX2_readSum_48 : decode cX2_readSum 48 = .ok (.istore_n 3, 1) := by decide +kernel
theorem dX2_readSum_49 : decode cX2_readSum 49 = .ok (.aload_n 0, 1) := by decide +kernel
theorem dX2_readSum_50 : decode cX2_readSum 50 = .ok (.invokevirtual 31, 3) := by decide +kernel
theorem dX2_readSum_53 : decode cX2_readSum 53 = .ok (.aload_n 0, 1) := by decide +kernel
theorem dX2_readSum_54 : decode cX2_readSum 54 = .ok (.iload_n 1, 1) := by decide +kernel
theorem dX2_readSum_55 : decode cX2_readSum 55 = .ok (.invokevirtual 121, 3) := by decide +kernel
theorem dX2_readSum_58 : decode cX2_readSum 58 = .ok (.aload_n 0, 1) := by decide +kernel
theorem dX2_readSum_59 : decode cX2_readSum 59 = .ok (.getfield 19, 3) := by decide +kernel
theorem dX2_readSum_62 : decode cX2_readSum 62 = .ok (.getfield 72, 3) := by decide +kernel
theorem dX2_readSum_65 : decode cX2_readSum 65 = .ok (.iload_n 3, 1) := by decide +kernel
theorem dX2_readSum_66 : decode cX2_readSum 66 = .ok (.invokevirtual 124, 3) := by decide +kernel
theorem dX2_readSum_69 : decode cX2_readSum 69 = .ok (.iinc 2 1, 3) := by decide +kernel
theorem dX2_readSum_72 : decode cX2_readSum 72 = .ok (.goto (-65), 3) := by decide +kernel
theorem dX2_readSum_75 : decode cX2_readSum 75 = .ok (.return_, 1) := by decide +kernel
theorem dX2_readTerm_0 : decode cX2_readTerm 0 = .ok (.aload_n 0, 1) := by decide +kernel
theorem dX2_readTerm_1 : decode cX2_readTerm 1 = .ok (.iload_n 1, 1) := by decide +kernel
theorem dX2_readTerm_2 : decode cX2_readTerm 2 = .ok (.invokevirtual 127, 3) := by decide +kernel
theorem dX2_readTerm_5 : decode cX2_readTerm 5 = .ok (.iconst 0, 1) := by decide +kernel
theorem dX2_readTerm_6 : decode cX2_readTerm 6 = .ok (.istore_n 2, 1) := by decide +kernel
theorem dX2_readTerm_7 : decode cX2_readTerm 7 = .ok (.iload_n 2, 1) := by decide +kernel
theorem dX2_readTerm_8 : decode cX2_readTerm 8 = .ok (.sipush 600, 3) := by decide +kernel
theorem dX2_readTerm_11 : decode cX2_readTerm 11 = .ok (.if_icmp .ge 64, 3) := by decide +kernel
theorem dX2_readTerm_14 : decode cX2_readTerm 14 = .ok (.aload_n 0, 1) := by decide +kernel
theorem dX2_readTerm_15 : decode cX2_readTerm 15 = .ok (.getfield 34, 3) := by decide +kernel
theorem dX2_readTerm_18 : decode cX2_readTerm 18 = .ok (.bipush 42, 2) := by decide +kernel
theorem dX2_readTerm_20 : decode cX2_readTerm 20 = .ok (.if_icmp .eq 12, 3) := by decide +kernel
theorem dX2_readTerm_23 : decode cX2_readTerm 23 = .ok (.aload_n 0, 1) := by decide +kernel
theorem dX2_readTerm_24 : decode cX2_readTerm 24 = .ok (.getfield 34, 3) := by decide +kernel
theorem dX2_readTerm_27 : decode cX2_readTerm 27 = .ok (.bipush 47, 2) := by decide +kernel
theorem dX2_readTerm_29 : decode cX2_readTerm 29 = .ok (.if_icmp .ne 46, 3) := by decide +kernel
theorem dX2_readTerm_32 : decode cX2_readTerm 32 = .ok (.aload_n 0, 1) := by decide +kernel
theorem dX2_readTerm_33 : decode cX2_readTerm 33 = .ok (.getfield 34, 3) := by decide +kernel
theorem dX2_readTerm_36 : decode cX2_readTerm 36 = .ok (.bipush 42, 2) := by decide +kernel
theorem dX2_readTerm_38 : decode cX2_readTerm 38 = .ok (.if_icmp .ne 8, 3) := by decide +kernel
theorem dX2_readTerm_41 : decode cX2_readTerm 41 = .ok (.bipush (-8), 2) := by decide +kernel
theorem dX2_readTerm_43 : decode cX2_readTerm 43 = .ok (.goto 5, 3) := by decide +kernel
theorem dX2_readTerm_46 : decode cX2_readTerm 46 = .ok (.bipush (-9), 2) := by decide +kernel
theorem dX2_readTerm_48 : decode cX2_readTerm 48 = .ok (.istore_n 3, 1) := by decide +kernel
theorem dX2_readTerm_49 : decode cX2_readTerm 49 = .ok (.aload_n 0, 1) := by decide +kernel
theorem dX2_readTerm_50 : decode cX2_readTerm 50 = .ok (.invokevirtual 31, 3) := by decide +kernel
theorem dX2_readTerm_53 : decode cX2_readTerm 53 = .ok (.aload_n 0, 1) := by decide +kernel
theorem dX2_readTerm_54 : decode cX2_readTerm 54 = .ok (.iload_n 1, 1) := by decide +kernel
theorem dX2_readTerm_55 : decode cX2_readTerm 55 = .ok (.invokevirtual 127, 3) := by decide +kernel
theorem dX2_readTerm_58 : decode cX2_readTerm 58 = .ok (.aload_n 0, 1) := by decide +kernel
theorem dX2_readTerm_59 : decode cX2_readTerm 59 = .ok (.getfield 19, 3) := by decide +kernel
theorem dX2_readTerm_62 : decode cX2_readTerm 62 = .ok (.getfield 72, 3) := by decide +kernel
theorem dX2_readTerm_65 : decode cX2_readTerm 65 = .ok (.iload_n 3, 1) := by decide +kernel
theorem dX2_readTerm_66 : decode cX2_readTerm 66 = .ok (.invokevirtual 124, 3) := by decide +kernel
theorem dX2_readTerm_69 : decode cX2_readTerm 69 = .ok (.iinc 2 1, 3) := by decide +kernel
theorem dX2_readTerm_72 : decode cX2_readTerm 72 = .ok (.goto (-65), 3) := by decide +kernel
theorem dX2_readTerm_75 : decode cX2_readTerm 75 = .ok (.return_, 1) := by decide +kernel
theorem dX2_readFactor_0 : decode cX2_readFactor 0 = .ok (.aload_n 0, 1) := by decide +kernel
theorem dX2_readFactor_1 : decode cX2_readFactor 1 = .ok (.getfield 34, 3) := by decide +kernel
theorem dX2_readFactor_4 : decode cX2_readFactor 4 = .ok (.iconst 2, 1) := by decide +kernel
theorem dX2_readFactor_5 : decode cX2_readFactor 5 = .ok (.if_icmp .ne 24, 3) := by decide +kernel
theorem dX2_readFactor_8 : decode cX2_readFactor 8 = .ok (.aload_n 0, 1) := by decide +kernel
theorem dX2_readFactor_9 : decode cX2_readFactor 9 = .ok (.getfield 19, 3) := by decide +kernel
theorem dX2_readFactor_12 : decode cX2_readFactor 12 = .ok (.getfield 72, 3) := by decide +kernel
theorem dX2_readFactor_15 : decode cX2_readFactor 15 = .ok (.aload_n 0, 1) := by decide +kernel
theorem dX2_readFactor_16 : decode cX2_readFactor 16 = .ok (.getfield 118, 3) := by decide +kernel
theorem dX2_readFactor_19 : decode cX2_readFactor 19 = .ok (.invokevirtual 124, 3) := by decide +kernel
theorem dX2_readFactor_22 : decode cX2_readFactor 22 = .ok (.aload_n 0, 1) := by decide +kernel
theorem dX2_readFactor_23 : decode cX2_readFactor 23 = .ok (.invokevirtual 31, 3) := by decide +kernel
theorem dX2_readFactor_26 : decode cX2_readFactor 26 = .ok (.goto 73, 3) := by decide +kernel
theorem dX2_readFactor_29 : decode cX2_readFactor 29 = .ok (.aload_n 0, 1) := by decide +kernel
theorem dX2_readFactor_30 : decode cX2_readFactor 30 = .ok (.getfield 34, 3) := by decide +kernel
theorem dX2_readFactor_33 : decode cX2_readFactor 33 = .ok (.iconst 1, 1) := by decide +kernel
theorem dX2_readFactor_34 : decode cX2_readFactor 34 = .ok (.if_icmp .ne 14, 3) := by decide +kernel
theorem dX2_readFactor_37 : decode cX2_readFactor 37 = .ok (.aload_n 0, 1) := by decide +kernel
theorem dX2_readFactor_38 : decode cX2_readFactor 38 = .ok (.invokevirtual 130, 3) := by decide +kernel
theorem dX2_readFactor_41 : decode cX2_readFactor 41 = .ok (.aload_n 0, 1) := by decide +kernel
theorem dX2_readFactor_42 : decode cX2_readFactor 42 = .ok (.invokevirtual 31, 3) := by decide +kernel
theorem dX2_readFactor_45 : decode cX2_readFactor 45 = .ok (.goto 54, 3) := by decide +kernel
theorem dX2_readFactor_48 : decode cX2_readFactor 48 = .ok (.aload_n 0, 1) := by decide +kernel
theorem dX2_readFactor_49 : decode cX2_readFactor 49 = .ok (.getfield 34, 3) := by decide +kernel
theorem dX2_readFactor_52 : decode cX2_readFactor 52 = .ok (.bipush 40, 2) := by decide +kernel
theorem dX2_readFactor_54 : decode cX2_readFactor 54 = .ok (.if_icmp .eq 11, 3) := by decide +kernel
theorem dX2_readFactor_57 : decode cX2_readFactor 57 = .ok (.aload_n 0, 1) := by decide +kernel
theorem dX2_readFactor_58 : decode cX2_readFactor 58 = .ok (.iconst 1, 1) := by decide +kernel
theorem dX2_readFactor_59 : decode cX2_readFactor 59 = .ok (.invokevirtual 98, 3) := by decide +kernel
theorem dX2_readFactor_62 : decode cX2_readFactor 62 = .ok (.goto 37, 3) := by decide +kernel
theorem dX2_readFactor_65 : decode cX2_readFactor 65 = .ok (.iload_n 1, 1) := by decide +kernel
theorem dX2_readFactor_66 : decode cX2_readFactor 66 = .ok (.iconst 5, 1) := by decide +kernel
theorem dX2_readFactor_67 : decode cX2_readFactor 67 = .ok (.if_icmp .lt 11, 3) := by decide +kernel
theorem dX2_readFactor_70 : decode cX2_readFactor 70 = .ok (.aload_n 0, 1) := by decide +kernel
theorem dX2_readFactor_71 : decode cX2_readFactor 71 = .ok (.iconst 4, 1) := by decide +kernel
theorem dX2_readFactor_72 : decode cX2_readFactor 72 = .ok (.invokevirtual 98, 3) := by decide +kernel
theorem dX2_readFactor_75 : decode cX2_readFactor 75 = .ok (.goto 24, 3) := by decide +kernel
theorem dX2_readFactor_78 : decode cX2_readFactor 78 = .ok (.aload_n 0, 1) := by decide +kernel
theorem dX2_readFactor_79 : decode cX2_readFactor 79 = .ok (.invokevirtual 31, 3) := by decide +kernel
theorem dX2_readFactor_82 : decode cX2_readFactor 82 = .ok (.aload_n 0, 1) := by decide +kernel
theorem dX2_readFactor_83 : decode cX2_readFactor 83 = .ok (.iload_n 1, 1) := by decide +kernel
theorem dX2_readFactor_84 : decode cX2_readFactor 84 = .ok (.iconst 1, 1) := by decide +kernel
theorem dX2_readFactor_85 : decode cX2_readFactor 85 = .ok (.iadd, 1) := by decide +kernel
theorem dX2_readFactor_86 : decode cX2_readFactor 86 = .ok (.invokevirtual 78, 3) := by decide +kernel
theorem dX2_readFactor_89 : decode cX2_readFactor 89 = .ok (.aload_n 0, 1) := by decide +kernel
theorem dX2_readFactor_90 : decode cX2_readFactor 90 = .ok (.bipush 41, 2) := by decide +kernel
theorem dX2_readFactor_92 : decode cX2_readFactor 92 = .ok (.invokevirtual 40, 3) := by decide +kernel
theorem dX2_readFactor_95 : decode cX2_readFactor 95 = .ok (.aload_n 0, 1) := by decide +kernel
theorem dX2_readFactor_96 : decode cX2_readFactor 96 = .ok (.invokevirtual 31, 3) := by decide +kernel
theorem dX2_readFactor_99 : decode cX2_readFactor 99 = .ok (.return_, 1) := by decide +kernel
theorem dX2_readInput_0 : decode cX2_readInput 0 = .ok (.aload_n 0, 1) := by decide +kernel
theorem dX2_readInput_1 : decode cX2_readInput 1 = .ok (.ldc 133, 2) := by decide +kernel
theorem dX2_readInput_3 : decode cX2_readInput 3 = .ok (.invokevirtual 49, 3) := by decide +kernel
theorem dX2_readInput_6 : decode cX2_readInput 6 = .ok (.ifCond .eq 17, 3) := by decide +kernel
theorem dX2_readInput_9 : decode cX2_readInput 9 = .ok (.aload_n 0, 1) := by decide +kernel
theorem dX2_readInput_10 : decode cX2_readInput 10 = .ok (.getfield 19, 3) := by decide +kernel
theorem dX2_readInput_13 : decode cX2_readInput 13 = .ok (.getfield 72, 3) := by decide +kernel
theorem dX2_readInput_16 : decode cX2_readInput 16 = .ok (.iconst (-1), 1) := by decide +kernel
theorem dX2_readInput_17 : decode cX2_readInput 17 = .ok (.invokevirtual 124, 3) := by decide +kernel
theorem dX2_readInput_20 : decode cX2_readInput 20 = .ok (.goto 104, 3) := by decide +kernel
theorem dX2_readInput_23 : decode cX2_readInput 23 = .ok (.aload_n 0, 1) := by decide +kernel
theorem dX2_readInput_24 : decode cX2_readInput 24 = .ok (.ldc 135, 2) := by decide +kernel
theorem dX2_readInput_26 : decode cX2_readInput 26 = .ok (.invokevirtual 49, 3) := by decide +kernel
theorem dX2_readInput_29 : decode cX2_readInput 29 = .ok (.ifCond .eq 18, 3) := by decide +kernel
theorem dX2_readInput_32 : decode cX2_readInput 32 = .ok (.aload_n 0, 1) := by decide +kernel
theorem dX2_readInput_33 : decode cX2_readInput 33 = .ok (.getfield 19, 3) := by decide +kernel
theorem dX2_readInput_36 : decode cX2_readInput 36 = .ok (.getfield 72, 3) := by decide +kernel
theorem dX2_readInput_39 : decode cX2_readInput 39 = .ok (.bipush (-2), 2) := by decide +kernel
theorem dX2_readInput_41 : decode cX2_readInput 41 = .ok (.invokevirtual 124, 3) := by decide +kernel
theorem dX2_readInput_44 : decode cX2_readInput 44 = .ok (.goto 80, 3) := by decide +kernel
theorem dX2_readInput_47 : decode cX2_readInput 47 = .ok (.aload_n 0, 1) := by decide +kernel
theorem dX2_readInput_48 : decode cX2_readInput 48 = .ok (.ldc 137, 2) := by decide +kernel
theorem dX2_readInput_50 : decode cX2_readInput 50 = .ok (.invokevirtual 49, 3) := by decide +kernel
theorem dX2_readInput_53 : decode cX2_readInput 53 = .ok (.ifCond .eq 18, 3) := by decide +kernel
theorem dX2_readInput_56 : decode cX2_readInput 56 = .ok (.aload_n 0, 1) := by decide +kernel
theorem dX2_readInput_57 : decode cX2_readInput 57 = .ok (.getfield 19, 3) := by decide +kernel
theorem dX2_readInput_60 : decode cX2_readInput 60 = .ok (.getfield 72, 3) := by decide +kernel
theorem dX2_readInput_63 : decode cX2_readInput 63 = .ok (.bipush (-3), 2) := by decide +kernel
theorem dX2_readInput_65 : decode cX2_readInput 65 = .ok (.invokevirtual 124, 3) := by decide +kernel
theorem dX2_readInput_68 : decode cX2_readInput 68 = .ok (.goto 56, 3) := by decide +kernel
theorem dX2_readInput_71 : decode cX2_readInput 71 = .ok (.aload_n 0, 1) := by decide +kernel
theorem dX2_readInput_72 : decode cX2_readInput 72 = .ok (.ldc 139, 2) := by decide +kernel
theorem dX2_readInput_74 : decode cX2_readInput 74 = .ok (.invokevirtual 49, 3) := by decide +kernel
theorem dX2_readInput_77 : decode cX2_readInput 77 = .ok (.ifCond .eq 18, 3) := by decide +kernel
theorem dX2_readInput_80 : decode cX2_readInput 80 = .ok (.aload_n 0, 1) := by decide +kernel
theorem dX2_readInput_81 : decode cX2_readInput 81 = .ok (.getfield 19, 3) := by decide +kernel
theorem dX2_readInput_84 : decode cX2_readInput 84 = .ok (.getfield 72, 3) := by decide +kernel
theorem dX2_readInput_87 : decode cX2_readInput 87 = .ok (.bipush (-4), 2) := by decide +kernel
theorem dX2_readInput_89 : decode cX2_readInput 89 = .ok (.invokevirtual 124, 3) := by decide +kernel
theorem dX2_readInput_92 : decode cX2_readInput 92 = .ok (.goto 32, 3) := by decide +kernel
theorem dX2_readInput_95 : decode cX2_readInput 95 = .ok (.aload_n 0, 1) := by decide +kernel
theorem dX2_readInput_96 : decode cX2_readInput 96 = .ok (.ldc 141, 2) := by decide +kernel
theorem dX2_readInput_98 : decode cX2_readInput 98 = .ok (.invokevirtual 49, 3) := by decide +kernel
theorem dX2_readInput_101 : decode cX2_readInput 101 = .ok (.ifCond .eq 18, 3) := by decide +kernel
theorem dX2_readInput_104 : decode cX2_readInput 104 = .ok (.aload_n 0, 1) := by decide +kernel
theorem dX2_readInput_105 : decode cX2_readInput 105 = .ok (.getfield 19, 3) := by decide +kernel
theorem dX2_readInput_108 : decode cX2_readInput 108 = .ok (.getfield 72, 3) := by decide +kernel
theorem dX2_readInput_111 : decode cX2_readInput 111 = .ok (.bipush (-5), 2) := by decide +kernel
theorem dX2_readInput_113 : decode cX2_readInput 113 = .ok (.invokevirtual 124, 3) := by decide +kernel
theorem dX2_readInput_116 : decode cX2_readInput 116 = .ok (.goto 8, 3) := by decide +kernel
theorem dX2_readInput_119 : decode cX2_readInput 119 = .ok (.aload_n 0, 1) := by decide +kernel
theorem dX2_readInput_120 : decode cX2_readInput 120 = .ok (.iconst 1, 1) := by decide +kernel
theorem dX2_readInput_121 : decode cX2_readInput 121 = .ok (.invokevirtual 98, 3) := by decide +kernel
theorem dX2_readInput_124 : decode cX2_readInput 124 = .ok (.return_, 1) := by decide +kernel
theorem dX2_require_0 : decode cX2_require 0 = .ok (.aload_n 0, 1) := by decide +kernel
theorem dX2_require_1 : decode cX2_require 1 = .ok (.getfield 34, 3) := by decide +kernel
theorem dX2_require_4 : decode cX2_require 4 = .ok (.iload_n 1, 1) := by decide +kernel
theorem dX2_require_5 : decode cX2_require 5 = .ok (.if_icmp .eq 8, 3) := by decide +kernel
theorem dX2_require_8 : decode cX2_require 8 = .ok (.aload_n 0, 1) := by decide +kernel
theorem dX2_require_9 : decode cX2_require 9 = .ok (.iconst 1, 1) := by decide +kernel
theorem dX2_require_10 : decode cX2_require 10 = .ok (.invokevirtual 98, 3) := by decide +kernel
theorem dX2_require_13 : decode cX2_require 13 = .ok (.return_, 1) := by decide +kernel
theorem dX2_wordIs_0 : decode cX2_wordIs 0 = .ok (.aload_n 0, 1) := by decide +kernel
theorem dX2_wordIs_1 : decode cX2_wordIs 1 = .ok (.getfield 34, 3) := by decide +kernel
theorem dX2_wordIs_4 : decode cX2_wordIs 4 = .ok (.iconst 1, 1) := by decide +kernel
theorem dX2_wordIs_5 : decode cX2_wordIs 5 = .ok (.if_icmp .ne 19, 3) := by decide +kernel
theorem dX2_wordIs_8 : decode cX2_wordIs 8 = .ok (.aload_n 0, 1) := by decide +kernel
theorem dX2_wordIs_9 : decode cX2_wordIs 9 = .ok (.getfield 143, 3) := by decide +kernel
theorem dX2_wordIs_12 : decode cX2_wordIs 12 = .ok (.aload_n 0, 1) := by decide +kernel
theorem dX2_wordIs_13 : decode cX2_wordIs 13 = .ok (.getfield 146, 3) := by decide +kernel
theorem dX2_wordIs_16 : decode cX2_wordIs 16 = .ok (.isub, 1) := by decide +kernel
theorem dX2_wordIs_17 : decode cX2_wordIs 17 = .ok (.aload_n 1, 1) := by decide +kernel
theorem dX2_wordIs_18 : decode cX2_wordIs 18 = .ok (.invokevirtual 149, 3) := by decide +kernel
theorem dX2_wordIs_21 : decode cX2_wordIs 21 = .ok (.if_icmp .eq 5, 3) := by decide +kernel
theorem dX2_wordIs_24 : decode cX2_wordIs 24 = .ok (.iconst 0, 1) := by decide +kernel
theorem dX2_wordIs_25 : decode cX2_wordIs 25 = .ok (.ireturn, 1) := by decide +kernel
theorem dX2_wordIs_26 : decode cX2_wordIs 26 = .ok (.iconst 0, 1) := by decide +kernel
theorem dX2_wordIs_27 : decode cX2_wordIs 27 = .ok (.istore_n 2, 1) := by decide +kernel
theorem dX2_wordIs_28 : decode cX2_wordIs 28 = .ok (.iload_n 2, 1) := by decide +kernel
theorem dX2_wordIs_29 : decode cX2_wordIs 29 = .ok (.aload_n 1, 1) := by decide +kernel
theorem dX2_wordIs_30 : decode cX2_wordIs 30 = .ok (.invokevirtual 149, 3) := by decide +kernel
theorem dX2_wordIs_33 : decode cX2_wordIs 33 = .ok (.if_icmp .ge 30, 3) := by decide +kernel
theorem dX2_wordIs_36 : decode cX2_wordIs 36 = .ok (.aload_n 0, 1) := by decide +kernel
theorem dX2_wordIs_37 : decode cX2_wordIs 37 = .ok (.getfield 9, 3) := by decide +kernel
theorem dX2_wordIs_40 : decode cX2_wordIs 40 = .ok (.aload_n 0, 1) := by decide +kernel
theorem dX2_wordIs_41 : decode cX2_wordIs 41 = .ok (.getfield 146, 3) := by decide +kernel
theorem dX2_wordIs_44 : decode cX2_wordIs 44 = .ok (.iload_n 2, 1) := by decide +kernel
theorem dX2_wordIs_45 : decode cX2_wordIs 45 = .ok (.iadd, 1) := by decide +kernel
theorem dX2_wordIs_46 : decode cX2_wordIs 46 = .ok (.baload, 1) := by decide +kernel
theorem dX2_wordIs_47 : decode cX2_wordIs 47 = .ok (.aload_n 1, 1) := by decide +kernel
theorem dX2_wordIs_48 : decode cX2_wordIs 48 = .ok (.iload_n 2, 1) := by decide +kernel
theorem dX2_wordIs_49 : decode cX2_wordIs 49 = .ok (.invokevirtual 154, 3) := by decide +kernel
theorem dX2_wordIs_52 : decode cX2_wordIs 52 = .ok (.if_icmp .eq 5, 3) := by decide +kernel
theorem dX2_wordIs_55 : decode cX2_wordIs 55 = .ok (.iconst 0, 1) := by decide +kernel
theorem dX2_wordIs_56 : decode cX2_wordIs 56 = .ok (.ireturn, 1) := by decide +kernel
theorem dX2_wordIs_57 : decode cX2_wordIs 57 = .ok (.iinc 2 1, 3) := by decide +kernel
theorem dX2_wordIs_60 : decode cX2_wordIs 60 = .ok (.goto (-32), 3) := by decide +kernel
theorem dX2_wordIs_63 : decode cX2_wordIs 63 = .ok (.iconst 1, 1) := by decide +kernel
theorem dX2_wordIs_64 : decode cX2_wordIs 64 = .ok (.ireturn, 1) := by decide +kernel
theorem dX2_fail_0 : decode cX2_fail 0 = .ok (.aload_n 0, 1) := by decide +kernel
theorem dX2_fail_1 : decode cX2_fail 1 = .ok (.getfield 44, 3) := by decide +kernel
theorem dX2_fail_4 : decode cX2_fail 4 = .ok (.ifCond .ne 16, 3) := by decide +kernel
theorem dX2_fail_7 : decode cX2_fail 7 = .ok (.aload_n 0, 1) := by decide +kernel
theorem dX2_fail_8 : decode cX2_fail 8 = .ok (.iload_n 1, 1) := by decide +kernel
theorem dX2_fail_9 : decode cX2_fail 9 = .ok (.putfield 44, 3) := by decide +kernel
theorem dX2_fail_12 : decode cX2_fail 12 = .ok (.aload_n 0, 1) := by decide +kernel
theorem dX2_fail_13 : decode cX2_fail 13 = .ok (.aload_n 0, 1) := by decide +kernel
theorem dX2_fail_14 : decode cX2_fail 14 = .ok (.getfield 146, 3) := by decide +kernel
theorem dX2_fail_17 : decode cX2_fail 17 = .ok (.putfield 23, 3) := by decide +kernel
theorem dX2_fail_20 : decode cX2_fail 20 = .ok (.aload_n 0, 1) := by decide +kernel
theorem dX2_fail_21 : decode cX2_fail 21 = .ok (.iconst 0, 1) := by decide +kernel
theorem dX2_fail_22 : decode cX2_fail 22 = .ok (.putfield 34, 3) := by decide +kernel
theorem dX2_fail_25 : decode cX2_fail 25 = .ok (.return_, 1) := by decide +kernel
theorem dX2_advance_0 : decode cX2_advance 0 = .ok (.aload_n 0, 1) := by decide +kernel
theorem dX2_advance_1 : decode cX2_advance 1 = .ok (.getfield 44, 3) := by decide +kernel
theorem dX2_advance_4 : decode cX2_advance 4 = .ok (.ifCond .eq 4, 3) := by decide +kernel
theorem dX2_advance_7 : decode cX2_advance 7 = .ok (.return_, 1) := by decide +kernel
theorem dX2_advance_8 : decode cX2_advance 8 = .ok (.aload_n 0, 1) := by decide +kernel
theorem dX2_advance_9 : decode cX2_advance 9 = .ok (.getfield 143, 3) := by decide +kernel
theorem dX2_advance_12 : decode cX2_advance 12 = .ok (.aload_n 0, 1) := by decide +kernel
theorem dX2_advance_13 : decode cX2_advance 13 = .ok (.getfield 15, 3) := by decide +kernel
theorem dX2_advance_16 : decode cX2_advance 16 = .ok (.if_icmp .ge 44, 3) := by decide +kernel
theorem dX2_advance_19 : decode cX2_advance 19 = .ok (.aload_n 0, 1) := by decide +kernel
theorem dX2_advance_20 : decode cX2_advance 20 = .ok (.getfield 9, 3) := by decide +kernel
theorem dX2_advance_23 : decode cX2_advance 23 = .ok (.aload_n 0, 1) := by decide +kernel
theorem dX2_advance_24 : decode cX2_advance 24 = .ok (.getfield 143, 3) := by decide +kernel
theorem dX2_advance_27 : decode cX2_advance 27 = .ok (.baload, 1) := by decide +kernel
theorem dX2_advance_28 : decode cX2_advance 28 = .ok (.bipush 32, 2) := by decide +kernel
theorem dX2_advance_30 : decode cX2_advance 30 = .ok (.if_icmp .eq 17, 3) := by decide +kernel
theorem dX2_advance_33 : decode cX2_advance 33 = .ok (.aload_n 0, 1) := by decide +kernel
theorem dX2_advance_34 : decode cX2_advance 34 = .ok (.getfield 9, 3) := by decide +kernel
theorem dX2_advance_37 : decode cX2_advance 37 = .ok (.aload_n 0, 1) := by decide +kernel
theorem dX2_advance_38 : decode cX2_advance 38 = .ok (.getfield 143, 3) := by decide +kernel
theorem dX2_advance_41 : decode cX2_advance 41 = .ok (.baload, 1) := by decide +kernel
theorem dX2_advance_42 : decode cX2_advance 42 = .ok (.bipush 10, 2) := by decide +kernel
theorem dX2_advance_44 : decode cX2_advance 44 = .ok (.if_icmp .ne 16, 3) := by decide +kernel
theorem dX2_advance_47 : decode cX2_advance 47 = .ok (.aload_n 0, 1) := by decide +kernel
theorem dX2_advance_48 : decode cX2_advance 48 = .ok (.dup, 1) := by decide +kernel
theorem dX2_advance_49 : decode cX2_advance 49 = .ok (.getfield 143, 3) := by decide +kernel
theorem dX2_advance_52 : decode cX2_advance 52 = .ok (.iconst 1, 1) := by decide +kernel
theorem dX2_advance_53 : decode cX2_advance 53 = .ok (.iadd, 1) := by decide +kernel
theorem dX2_advance_54 : decode cX2_advance 54 = .ok (.putfield 143, 3) := by decide +kernel
theorem dX2_advance_57 : decode cX2_advance 57 = .ok (.goto (-49), 3) := by decide +kernel
theorem dX2_advance_60 : decode cX2_advance 60 = .ok (.aload_n 0, 1) := by decide +kernel
theorem dX2_advance_61 : decode cX2_advance 61 = .ok (.aload_n 0, 1) := by decide +kernel
theorem dX2_advance_62 : decode cX2_advance 62 = .ok (.getfield 143, 3) := by decide +kernel
theorem dX2_advance_65 : decode cX2_advance 65 = .ok (.putfield 146, 3) := by decide +kernel
theorem dX2_advance_68 : decode cX2_advance 68 = .ok (.aload_n 0, 1) := by decide +kernel
theorem dX2_advance_69 : decode cX2_advance 69 = .ok (.getfield 143, 3) := by decide +kernel
theorem dX2_advance_72 : decode cX2_advance 72 = .ok (.aload_n 0, 1) := by decide +kernel
theorem dX2_advance_73 : decode cX2_advance 73 = .ok (.getfield 15, 3) := by decide +kernel
theorem dX2_advance_76 : decode cX2_advance 76 = .ok (.if_icmp .lt 11, 3) := by decide +kernel
theorem dX2_advance_79 : decode cX2_advance 79 = .ok (.aload_n 0, 1) := by decide +kernel
theorem dX2_advance_80 : decode cX2_advance 80 = .ok (.iconst 0, 1) := by decide +kernel
theorem dX2_advance_81 : decode cX2_advance 81 = .ok (.putfield 34, 3) := by decide +kernel
theorem dX2_advance_84 : decode cX2_advance 84 = .ok (.goto 77, 3) := by decide +kernel
theorem dX2_advance_87 : decode cX2_advance 87 = .ok (.aload_n 0, 1) := by decide +kernel
theorem dX2_advance_88 : decode cX2_advance 88 = .ok (.getfield 9, 3) := by decide +kernel
theorem dX2_advance_91 : decode cX2_advance 91 = .ok (.aload_n 0, 1) := by decide +kernel
theorem dX2_advance_92 : decode cX2_advance 92 = .ok (.getfield 143, 3) := by decide +kernel
theorem dX2_advance_95 : decode cX2_advance 95 = .ok (.baload, 1) := by decide +kernel
theorem dX2_advance_96 : decode cX2_advance 96 = .ok (.bipush 97, 2) := by decide +kernel
theorem dX2_advance_98 : decode cX2_advance 98 = .ok (.if_icmp .lt 24, 3) := by decide +kernel
theorem dX2_advance_101 : decode cX2_advance 101 = .ok (.aload_n 0, 1) := by decide +kernel
theorem dX2_advance_102 : decode cX2_advance 102 = .ok (.getfield 9, 3) := by decide +kernel
theorem dX2_advance_105 : decode cX2_advance 105 = .ok (.aload_n 0, 1) := by decide +kernel
theorem dX2_advance_106 : decode cX2_advance 106 = .ok (.getfield 143, 3) := by decide +kernel
theorem dX2_advance_109 : decode cX2_advance 109 = .ok (.baload, 1) := by decide +kernel
theorem dX2_advance_110 : decode cX2_advance 110 = .ok (.bipush 122, 2) := by decide +kernel
theorem dX2_advance_112 : decode cX2_advance 112 = .ok (.if_icmp .gt 10, 3) := by decide +kernel
theorem dX2_advance_115 : decode cX2_advance 115 = .ok (.aload_n 0, 1) := by decide +kernel
theorem dX2_advance_116 : decode cX2_advance 116 = .ok (.invokevirtual 158, 3) := by decide +kernel
theorem dX2_advance_119 : decode cX2_advance 119 = .ok (.goto 42, 3) := by decide +kernel
theorem dX2_advance_122 : decode cX2_advance 122 = .ok (.aload_n 0, 1) := by decide +kernel
theorem dX2_advance_123 : decode cX2_advance 123 = .ok (.getfield 9, 3) := by decide +kernel
theorem dX2_advance_126 : decode cX2_advance 126 = .ok (.aload_n 0, 1) := by decide +kernel
theorem dX2_advance_127 : decode cX2_advance 127 = .ok (.getfield 143, 3) := by decide +kernel
theorem dX2_advance_130 : decode cX2_advance 130 = .ok (.baload, 1) := by decide +kernel
theorem dX2_advance_131 : decode cX2_advance 131 = .ok (.bipush 48, 2) := by decide +kernel
theorem dX2_advance_133 : decode cX2_advance 133 = .ok (.if_icmp .lt 24, 3) := by decide +kernel
theorem dX2_advance_136 : decode cX2_advance 136 = .ok (.aload_n 0, 1) := by decide +kernel
theorem dX2_advance_137 : decode cX2_advance 137 = .ok (.getfield 9, 3) := by decide +kernel
theorem dX2_advance_140 : decode cX2_advance 140 = .ok (.aload_n 0, 1) := by decide +kernel
theorem dX2_advance_141 : decode cX2_advance 141 = .ok (.getfield 143, 3) := by decide +kernel
theorem dX2_advance_144 : decode cX2_advance 144 = .ok (.baload, 1) := by decide +kernel
theorem dX2_advance_145 : decode cX2_advance 145 = .ok (.bipush 57, 2) := by decide +kernel
theorem dX2_advance_147 : decode cX2_advance 147 = .ok (.if_icmp .gt 10, 3) := by decide +kernel
theorem dX2_advance_150 : decode cX2_advance 150 = .ok (.aload_n 0, 1) := by decide +kernel
theorem dX2_advance_151 : decode cX2_advance 151 = .ok (.invokevirtual 161, 3) := by decide +kernel
theorem dX2_advance_154 : decode cX2_advance 154 = .ok (.goto 7, 3) := by decide +kernel
theorem dX2_advance_157 : decode cX2_advance 157 = .ok (.aload_n 0, 1) := by decide +kernel
theorem dX2_advance_158 : decode cX2_advance 158 = .ok (.invokevirtual 164, 3) := by decide +kernel
theorem dX2_advance_161 : decode cX2_advance 161 = .ok (.return_, 1) := by decide +kernel
theorem dX2_takeWord_0 : decode cX2_takeWord 0 = .ok (.aload_n 0, 1) := by decide +kernel
theorem dX2_takeWord_1 : decode cX2_takeWord 1 = .ok (.getfield 143, 3) := by decide +kernel
theorem dX2_takeWord_4 : decode cX2_takeWord 4 = .ok (.aload_n 0, 1) := by decide +kernel
theorem dX2_takeWord_5 : decode cX2_takeWord 5 = .ok (.getfield 15, 3) := by decide +kernel
theorem dX2_takeWord_8 : decode cX2_takeWord 8 = .ok (.if_icmp .ge 44, 3) := by decide +kernel
theorem dX2_takeWord_11 : decode cX2_takeWord 11 = .ok (.aload_n 0, 1) := by decide +kernel
theorem dX2_takeWord_12 : decode cX2_takeWord 12 = .ok (.getfield 9, 3) := by decide +kernel
theorem dX2_takeWord_15 : decode cX2_takeWord 15 = .ok (.aload_n 0, 1) := by decide +kernel
theorem dX2_takeWord_16 : decode cX2_takeWord 16 = .ok (.getfield 143, 3) := by decide +kernel
theorem dX2_takeWord_19 : decode cX2_takeWord 19 = .ok (.baload, 1) := by decide +kernel
theorem dX2_takeWord_20 : decode cX2_takeWord 20 = .ok (.bipush 97, 2) := by decide +kernel
theorem dX2_takeWord_22 : decode cX2_takeWord 22 = .ok (.if_icmp .lt 30, 3) := by decide +kernel
theorem dX2_takeWord_25 : decode cX2_takeWord 25 = .ok (.aload_n 0, 1) := by decide +kernel
theorem dX2_takeWord_26 : decode cX2_takeWord 26 = .ok (.getfield 9, 3) := by decide +kernel
theorem dX2_takeWord_29 : decode cX2_takeWord 29 = .ok (.aload_n 0, 1) := by decide +kernel
theorem dX2_takeWord_30 : decode cX2_takeWord 30 = .ok (.getfield 143, 3) := by decide +kernel
theorem dX2_takeWord_33 : decode cX2_takeWord 33 = .ok (.baload, 1) := by decide +kernel
theorem dX2_takeWord_34 : decode cX2_takeWord 34 = .ok (.bipush 122, 2) := by decide +kernel
theorem dX2_takeWord_36 : decode cX2_takeWord 36 = .ok (.if_icmp .gt 16, 3) := by decide +kernel
theorem dX2_takeWord_39 : decode cX2_takeWord 39 = .ok (.aload_n 0, 1) := by decide +kernel
theorem dX2_takeWord_40 : decode cX2_takeWord 40 = .ok (.dup, 1) := by decide +kernel
theorem dX2_takeWord_41 : decode cX2_takeWord 41 = .ok (.getfield 143, 3) := by decide +kernel
theorem dX2_takeWord_44 : decode cX2_takeWord 44 = .ok (.iconst 1, 1) := by decide +kernel
theorem dX2_takeWord_45 : decode cX2_takeWord 45 = .ok (.iadd, 1) := by decide +kernel
theorem dX2_takeWord_46 : decode cX2_takeWord 46 = .ok (.putfield 143, 3) := by decide +kernel
theorem dX2_takeWord_49 : decode cX2_takeWord 49 = .ok (.goto (-49), 3) := by decide +kernel
theorem dX2_takeWord_52 : decode cX2_takeWord 52 = .ok (.aload_n 0, 1) := by decide +kernel
theorem dX2_takeWord_53 : decode cX2_takeWord 53 = .ok (.aload_n 0, 1) := by decide +kernel
theorem dX2_takeWord_54 : decode cX2_takeWord 54 = .ok (.getfield 143, 3) := by decide +kernel
theorem dX2_takeWord_57 : decode cX2_takeWord 57 = .ok (.aload_n 0, 1) := by decide +kernel
theorem dX2_takeWord_58 : decode cX2_takeWord 58 = .ok (.getfield 146, 3) := by decide +kernel
theorem dX2_takeWord_61 : decode cX2_takeWord 61 = .ok (.isub, 1) := by decide +kernel
theorem dX2_takeWord_62 : decode cX2_takeWord 62 = .ok (.bipush 8, 2) := by decide +kernel
theorem dX2_takeWord_64 : decode cX2_takeWord 64 = .ok (.if_icmp .gt 7, 3) := by decide +kernel
theorem dX2_takeWord_67 : decode cX2_takeWord 67 = .ok (.iconst 1, 1) := by decide +kernel
theorem dX2_takeWord_68 : decode cX2_takeWord 68 = .ok (.goto 4, 3) := by decide +kernel
theorem dX2_takeWord_71 : decode cX2_takeWord 71 = .ok (.iconst 3, 1) := by decide +kernel
theorem dX2_takeWord_72 : decode cX2_takeWord 72 = .ok (.putfield 34, 3) := by decide +kernel
theorem dX2_takeWord_75 : decode cX2_takeWord 75 = .ok (.return_, 1) := by decide +kernel
theorem dX2_takeNumber_0 : decode cX2_takeNumber 0 = .ok (.aload_n 0, 1) := by decide +kernel
theorem dX2_takeNumber_1 : decode cX2_takeNumber 1 = .ok (.iconst 0, 1) := by decide +kernel
theorem dX2_takeNumber_2 : decode cX2_takeNumber 2 = .ok (.putfield 118, 3) := by decide +kernel
theorem dX2_takeNumber_5 : decode cX2_takeNumber 5 = .ok (.aload_n 0, 1) := by decide +kernel
theorem dX2_takeNumber_6 : decode cX2_takeNumber 6 = .ok (.getfield 143, 3) := by decide +kernel
theorem dX2_takeNumber_9 : decode cX2_takeNumber 9 = .ok (.aload_n 0, 1) := by decide +kernel
theorem dX2_takeNumber_10 : decode cX2_takeNumber 10 = .ok (.getfield 15, 3) := by decide +kernel
theorem dX2_takeNumber_13 : decode cX2_takeNumber 13 = .ok (.if_icmp .ge 68, 3) := by decide +kernel
theorem dX2_takeNumber_16 : decode cX2_takeNumber 16 = .ok (.aload_n 0, 1) := by decide +kernel
theorem dX2_takeNumber_17 : decode cX2_takeNumber 17 = .ok (.getfield 9, 3) := by decide +kernel
theorem dX2_takeNumber_20 : decode cX2_takeNumber 20 = .ok (.aload_n 0, 1) := by decide +kernel
theorem dX2_takeNumber_21 : decode cX2_takeNumber 21 = .ok (.getfield 143, 3) := by decide +kernel
theorem dX2_takeNumber_24 : decode cX2_takeNumber 24 = .ok (.baload, 1) := by decide +kernel
theorem dX2_takeNumber_25 : decode cX2_takeNumber 25 = .ok (.bipush 48, 2) := by decide +kernel
theorem dX2_takeNumber_27 : decode cX2_takeNumber 27 = .ok (.if_icmp .lt 54, 3) := by decide +kernel
theorem dX2_takeNumber_30 : decode cX2_takeNumber 30 = .ok (.aload_n 0, 1) := by decide +kernel
theorem dX2_takeNumber_31 : decode cX2_takeNumber 31 = .ok (.getfield 9, 3) := by decide +kernel
theorem dX2_takeNumber_34 : decode cX2_takeNumber 34 = .ok (.aload_n 0, 1) := by decide +kernel
theorem dX2_takeNumber_35 : decode cX2_takeNumber 35 = .ok (.getfield 143, 3) := by decide +kernel
theorem dX2_takeNumber_38 : decode cX2_takeNumber 38 = .ok (.baload, 1) := by decide +kernel
theorem dX2_takeNumber_39 : decode cX2_takeNumber 39 = .ok (.bipush 57, 2) := by decide +kernel
theorem dX2_takeNumber_41 : decode cX2_takeNumber 41 = .ok (.if_icmp .gt 40, 3) := by decide +kernel
theorem dX2_takeNumber_44 : decode cX2_takeNumber 44 = .ok (.aload_n 0, 1) := by decide +kernel
theorem dX2_takeNumber_45 : decode cX2_takeNumber 45 = .ok (.aload_n 0, 1) := by decide +kernel
theorem dX2_takeNumber_46 : decode cX2_takeNumber 46 = .ok (.getfield 118, 3) := by decide +kernel
theorem dX2_takeNumber_49 : decode cX2_takeNumber 49 = .ok (.bipush 10, 2) := by decide +kernel
theorem dX2_takeNumber_51 : decode cX2_takeNumber 51 = .ok (.imul, 1) := by decide +kernel
theorem dX2_takeNumber_52 : decode cX2_takeNumber 52 = .ok (.aload_n 0, 1) := by decide +kernel
theorem dX2_takeNumber_53 : decode cX2_takeNumber 53 = .ok (.getfield 9, 3) := by decide +kernel
theorem dX2_takeNumber_56 : decode cX2_takeNumber 56 = .ok (.aload_n 0, 1) := by decide +kernel
theorem dX2_takeNumber_57 : decode cX2_takeNumber 57 = .ok (.getfield 143, 3) := by decide +kernel
theorem dX2_takeNumber_60 : decode cX2_takeNumber 60 = .ok (.baload, 1) := by decide +kernel
theorem dX2_takeNumber_61 : decode cX2_takeNumber 61 = .ok (.iadd, 1) := by decide +kernel
theorem dX2_takeNumber_62 : decode cX2_takeNumber 62 = .ok (.bipush 48, 2) := by decide +kernel
theorem dX2_takeNumber_64 : decode cX2_takeNumber 64 = .ok (.isub, 1) := by decide +kernel
theorem dX2_takeNumber_65 : decode cX2_takeNumber 65 = .ok (.putfield 118, 3) := by decide +kernel
theorem dX2_takeNumber_68 : decode cX2_takeNumber 68 = .ok (.aload_n 0, 1) := by decide +kernel
theorem dX2_takeNumber_69 : decode cX2_takeNumber 69 = .ok (.dup, 1) := by decide +kernel
theorem dX2_takeNumber_70 : decode cX2_takeNumber 70 = .ok (.getfield 143, 3) := by decide +kernel
theorem dX2_takeNumber_73 : decode cX2_takeNumber 73 = .ok (.iconst 1, 1) := by decide +kernel
theorem dX2_takeNumber_74 : decode cX2_takeNumber 74 = .ok (.iadd, 1) := by decide +kernel
theorem dX2_takeNumber_75 : decode cX2_takeNumber 75 = .ok (.putfield 143, 3) := by decide +kernel
theorem dX2_takeNumber_78 : decode cX2_takeNumber 78 = .ok (.goto (-73), 3) := by decide +kernel
theorem dX2_takeNumber_81 : decode cX2_takeNumber 81 = .ok (.aload_n 0, 1) := by decide +kernel
theorem dX2_takeNumber_82 : decode cX2_takeNumber 82 = .ok (.aload_n 0, 1) := by decide +kernel
theorem dX2_takeNumber_83 : decode cX2_takeNumber 83 = .ok (.getfield 143, 3) := by decide +kernel
theorem dX2_takeNumber_86 : decode cX2_takeNumber 86 = .ok (.aload_n 0, 1) := by decide +kernel
theorem dX2_takeNumber_87 : decode cX2_takeNumber 87 = .ok (.getfield 146, 3) := by decide +kernel
theorem dX2_takeNumber_90 : decode cX2_takeNumber 90 = .ok (.isub, 1) := by decide +kernel
theorem dX2_takeNumber_91 : decode cX2_takeNumber 91 = .ok (.iconst 4, 1) := by decide +kernel
theorem dX2_takeNumber_92 : decode cX2_takeNumber 92 = .ok (.if_icmp .gt 7, 3) := by decide +kernel
theorem dX2_takeNumber_95 : decode cX2_takeNumber 95 = .ok (.iconst 2, 1) := by decide +kernel
theorem dX2_takeNumber_96 : decode cX2_takeNumber 96 = .ok (.goto 4, 3) := by decide +kernel
theorem dX2_takeNumber_99 : decode cX2_takeNumber 99 = .ok (.iconst 3, 1) := by decide +kernel
theorem dX2_takeNumber_100 : decode cX2_takeNumber 100 = .ok (.putfield 34, 3) := by decide +kernel
theorem dX2_takeNumber_103 : decode cX2_takeNumber 103 = .ok (.return_, 1) := by decide +kernel
theorem dX2_takeSign_0 : decode cX2_takeSign 0 = .ok (.aload_n 0, 1) := by decide +kernel
theorem dX2_takeSign_1 : decode cX2_takeSign 1 = .ok (.getfield 9, 3) := by decide +kernel
theorem dX2_takeSign_4 : decode cX2_takeSign 4 = .ok (.aload_n 0, 1) := by decide +kernel
theorem dX2_takeSign_5 : decode cX2_takeSign 5 = .ok (.getfield 143, 3) := by decide +kernel
theorem dX2_takeSign_8 : decode cX2_takeSign 8 = .ok (.baload, 1) := by decide +kernel
theorem dX2_takeSign_9 : decode cX2_takeSign 9 = .ok (.istore_n 1, 1) := by decide +kernel
theorem dX2_takeSign_10 : decode cX2_takeSign 10 = .ok (.aload_n 0, 1) := by decide +kernel
theorem dX2_takeSign_11 : decode cX2_takeSign 11 = .ok (.dup, 1) := by decide +kernel
theorem dX2_takeSign_12 : decode cX2_takeSign 12 = .ok (.getfield 143, 3) := by decide +kernel
theorem dX2_takeSign_15 : decode cX2_takeSign 15 = .ok (.iconst 1, 1) := by decide +kernel
theorem dX2_takeSign_16 : decode cX2_takeSign 16 = .ok (.iadd, 1) := by decide +kernel
theorem dX2_takeSign_17 : decode cX2_takeSign 17 = .ok (.putfield 143, 3) := by decide +kernel
theorem dX2_takeSign_20 : decode cX2_takeSign 20 = .ok (.iload_n 1, 1) := by decide +kernel
theorem dX2_takeSign_21 : decode cX2_takeSign 21 = .ok (.tableswitch 103 40 59 #[95, 95, 95, 95, 103, 95, 103, 95, 103, 103, 103, 103, 103, 103, 103, 103, 103, 103, 103, 95], 95) := by decide +kernel
theorem dX2_takeSign_116 : decode cX2_takeSign 116 = .ok (.aload_n 0, 1) := by decide +kernel
theorem dX2_takeSign_117 : decode cX2_takeSign 117 = .ok (.iload_n 1, 1) := by decide +kernel
theorem dX2_takeSign_118 : decode cX2_takeSign 118 = .ok (.putfield 34, 3) := by decide +kernel
theorem dX2_takeSign_121 : decode cX2_takeSign 121 = .ok (.goto 8, 3) := by decide +kernel
theorem dX2_takeSign_124 : decode cX2_takeSign 124 = .ok (.aload_n 0, 1) := by decide +kernel
theorem dX2_takeSign_125 : decode cX2_takeSign 125 = .ok (.iconst 3, 1) := by decide +kernel
theorem dX2_takeSign_126 : decode cX2_takeSign 126 = .ok (.putfield 34, 3) := by decide +kernel
theorem dX2_takeSign_129 : decode cX2_takeSign 129 = .ok (.return_, 1) := by decide +kernel
theorem dX3_init_0 : decode cX3_init 0 = .ok (.aload_n 0, 1) := by decide +kernel
theorem dX3_init_1 : decode cX3_init 1 = .ok (.invokespecial 3, 3) := by decide +kernel
theorem dX3_init_4 : decode cX3_init 4 = .ok (.aload_n 0, 1) := by decide +kernel
theorem dX3_init_5 : decode cX3_init 5 = .ok (.sipush 600, 3) := by decide +kernel
theorem dX3_init_8 : decode cX3_init 8 = .ok (.newarray .int, 2) := by decide +kernel
theorem dX3_init_10 : decode cX3_init 10 = .ok (.putfield 9, 3) := by decide +kernel
theorem dX3_init_13 : decode cX3_init 13 = .ok (.aload_n 0, 1) := by decide +kernel
theorem dX3_init_14 : decode cX3_init 14 = .ok (.bipush 16, 2) := by decide +kernel
theorem dX3_init_16 : decode cX3_init 16 = .ok (.newarray .int, 2) := by decide +kernel
theorem dX3_init_18 : decode cX3_init 18 = .ok (.putfield 15, 3) := by decide +kernel
theorem dX3_init_21 : decode cX3_init 21 = .ok (.return_, 1) := by decide +kernel
theorem dX3_clear_0 : decode cX3_clear 0 = .ok (.aload_n 0, 1) := by decide +kernel
theorem dX3_clear_1 : decode cX3_clear 1 = .ok (.iconst 0, 1) := by decide +kernel
theorem dX3_clear_2 : decode cX3_clear 2 = .ok (.putfield 18, 3) := by decide +kernel
theorem dX3_clear_5 : decode cX3_clear 5 = .ok (.return_, 1) := by decide +kernel
theorem dX3_useDefault_0 : decode cX3_useDefault 0 = .ok (.aload_n 0, 1) := by decide +kernel
theorem dX3_useDefault_1 : decode cX3_useDefault 1 = .ok (.invokevirtual 22, 3) := by decide +kernel
theorem dX3_useDefault_4 : decode cX3_useDefault 4 = .ok (.aload_n 0, 1) := by decide +kernel
theorem dX3_useDefault_5 : decode cX3_useDefault 5 = .ok (.iconst (-1), 1) := by decide +kernel
theorem dX3_useDefault_6 : decode cX3_useDefault 6 = .ok (.invokevirtual 25, 3) := by decide +kernel
theorem dX3_useDefault_9 : decode cX3_useDefault 9 = .ok (.aload_n 0, 1) := by decide +kernel
theorem dX3_useDefault_10 : decode cX3_useDefault 10 = .ok (.bipush (-2), 2) := by decide +kernel
theorem dX3_useDefault_12 : decode cX3_useDefault 12 = .ok (.invokevirtual 25, 3) := by decide +kernel
theorem dX3_useDefault_15 : decode cX3_useDefault 15 = .ok (.aload_n 0, 1) := by decide +kernel
theorem dX3_useDefault_16 : decode cX3_useDefault 16 = .ok (.bipush (-6), 2) := by decide +kernel
theorem dX3_useDefault_18 : decode cX3_useDefault 18 = .ok (.invokevirtual 25, 3) := by decide +kernel
theorem dX3_useDefault_21 : decode cX3_useDefault 21 = .ok (.aload_n 0, 1) := by decide +kernel
theorem dX3_useDefault_22 : decode cX3_useDefault 22 = .ok (.bipush (-3), 2) := by decide +kernel
theorem dX3_useDefault_24 : decode cX3_useDefault 24 = .ok (.invokevirtual 25, 3) := by decide +kernel
theorem dX3_useDefault_27 : decode cX3_useDefault 27 = .ok (.aload_n 0, 1) := by decide +kernel
theorem dX3_useDefault_28 : decode cX3_useDefault 28 = .ok (.bipush 10, 2) := by decide +kernel
theorem dX3_useDefault_30 : decode cX3_useDefault 30 = .ok (.invokevirtual 25, 3) := by decide +kernel
theorem dX3_useDefault_33 : decode cX3_useDefault 33 = .ok (.aload_n 0, 1) := by decide +kernel
theorem dX3_useDefault_34 : decode cX3_useDefault 34 = .ok (.bipush (-8), 2) := by decide +kernel
theorem dX3_useDefault_36 : decode cX3_useDefault 36 = .ok (.invokevirtual 25, 3) := by decide +kernel
theorem dX3_useDefault_39 : decode cX3_useDefault 39 = .ok (.aload_n 0, 1) := by decide +kernel
theorem dX3_useDefault_40 : decode cX3_useDefault 40 = .ok (.bipush (-6), 2) := by decide +kernel
theorem dX3_useDefault_42 : decode cX3_useDefault 42 = .ok (.invokevirtual 25, 3) := by decide +kernel
theorem dX3_useDefault_45 : decode cX3_useDefault 45 = .ok (.return_, 1) := by decide +kernel
theorem dX3_put_0 : decode cX3_put 0 = .ok (.aload_n 0, 1) := by decide +kernel
theorem dX3_put_1 : decode cX3_put 1 = .ok (.getfield 18, 3) := by decide +kernel
theorem dX3_put_4 : decode cX3_put 4 = .ok (.sipush 600, 3) := by decide +kernel
theorem dX3_put_7 : decode cX3_put 7 = .ok (.if_icmp .ge 23, 3) := by decide +kernel
theorem dX3_put_10 : decode cX3_put 10 = .ok (.aload_n 0, 1) := by decide +kernel
theorem dX3_put_11 : decode cX3_put 11 = .ok (.getfield 9, 3) := by decide +kernel
theorem dX3_put_14 : decode cX3_put 14 = .ok (.aload_n 0, 1) := by decide +kernel
theorem dX3_put_15 : decode cX3_put 15 = .ok (.getfield 18, 3) := by decide +kernel
theorem dX3_put_18 : decode cX3_put 18 = .ok (.iload_n 1, 1) := by decide +kernel
theorem dX3_put_19 : decode cX3_put 19 = .ok (.iastore, 1) := by decide +kernel
theorem dX3_put_20 : decode cX3_put 20 = .ok (.aload_n 0, 1) := by decide +kernel
theorem dX3_put_21 : decode cX3_put 21 = .ok (.dup, 1) := by decide +kernel
theorem dX3_put_22 : decode cX3_put 22 = .ok (.getfield 18, 3) := by decide +kernel
theorem dX3_put_25 : decode cX3_put 25 = .ok (.iconst 1, 1) := by decide +kernel
theorem dX3_put_26 : decode cX3_put 26 = .ok (.iadd, 1) := by decide +kernel
theorem dX3_put_27 : decode cX3_put 27 = .ok (.putfield 18, 3) := by decide +kernel
theorem dX3_put_30 : decode cX3_put 30 = .ok (.return_, 1) := by decide +kernel
theorem dX3_worth_0 : decode cX3_worth 0 = .ok (.aload_n 0, 1) := by decide +kernel
theorem dX3_worth_1 : decode cX3_worth 1 = .ok (.iconst 0, 1) := by decide +kernel
theorem dX3_worth_2 : decode cX3_worth 2 = .ok (.putfield 29, 3) := by decide +kernel
theorem dX3_worth_5 : decode cX3_worth 5 = .ok (.iconst 0, 1) := by decide +kernel
theorem dX3_worth_6 : decode cX3_worth 6 = .ok (.istore 6, 2) := by decide +kernel
theorem dX3_worth_8 : decode cX3_worth 8 = .ok (.iload 6, 2) := by decide +kernel
theorem dX3_worth_10 : decode cX3_worth 10 = .ok (.aload_n 0, 1) := by decide +kernel
theorem dX3_worth_11 : decode cX3_worth 11 = .ok (.getfield 18, 3) := by decide +kernel
theorem dX3_worth_14 : decode cX3_worth 14 = .ok (.if_icmp .ge 135, 3) := by decide +kernel
theorem dX3_worth_17 : decode cX3_worth 17 = .ok (.aload_n 0, 1) := by decide +kernel
theorem dX3_worth_18 : decode cX3_worth 18 = .ok (.getfield 9, 3) := by decide +kernel
theorem dX3_worth_21 : decode cX3_worth 21 = .ok (.iload 6, 2) := by decide +kernel
theorem dX3_worth_23 : decode cX3_worth 23 = .ok (.iaload, 1) := by decide +kernel
theorem dX3_worth_24 : decode cX3_worth 24 = .ok (.tableswitch 108 (-9) (-1) #[94, 94, 94, 94, 85, 76, 68, 60, 52], 52) := by decide +kernel
theorem dX3_worth_76 : decode cX3_worth 76 = .ok (.aload_n 0, 1) := by decide +kernel
theorem dX3_worth_77 : decode cX3_worth 77 = .ok (.iload_n 1, 1) := by decide +kernel
theorem dX3_worth_78 : decode cX3_worth 78 = .ok (.invokevirtual 32, 3) := by decide +kernel
theorem dX3_worth_81 : decode cX3_worth 81 = .ok (.goto 62, 3) := by decide +kernel
theorem dX3_worth_84 : decode cX3_worth 84 = .ok (.aload_n 0, 1) := by decide +kernel
theorem dX3_worth_85 : decode cX3_worth 85 = .ok (.iload_n 2, 1) := by decide +kernel
theorem dX3_worth_86 : decode cX3_worth 86 = .ok (.invokevirtual 32, 3) := by decide +kernel
theorem dX3_worth_89 : decode cX3_worth 89 = .ok (.goto 54, 3) := by decide +kernel
theorem dX3_worth_92 : decode cX3_worth 92 = .ok (.aload_n 0, 1) := by decide +kernel
theorem dX3_worth_93 : decode cX3_worth 93 = .ok (.iload_n 3, 1) := by decide +kernel
theorem dX3_worth_94 : decode cX3_worth 94 = .ok (.invokevirtual 32, 3) := by decide +kernel
theorem dX3_worth_97 : decode cX3_worth 97 = .ok (.goto 46, 3) := by decide +kernel
theorem dX3_worth_100 : decode cX3_worth 100 = .ok (.aload_n 0, 1) := by decide +kernel
theorem dX3_worth_101 : decode cX3_worth 101 = .ok (.iload 4, 2) := by decide +kernel
theorem dX3_worth_103 : decode cX3_worth 103 = .ok (.invokevirtual 32, 3) := by decide +kernel
theorem dX3_worth_106 : decode cX3_worth 106 = .ok (.goto 37, 3) := by decide +kernel
theorem dX3_worth_109 : decode cX3_worth 109 = .ok (.aload_n 0, 1) := by decide +kernel
theorem dX3_worth_110 : decode cX3_worth 110 = .ok (.iload 5, 2) := by decide +kernel
theorem dX3_worth_112 : decode cX3_worth 112 = .ok (.invokevirtual 32, 3) := by decide +kernel
theorem dX3_worth_115 : decode cX3_worth 115 = .ok (.goto 28, 3) := by decide +kernel
theorem dX3_worth_118 : decode cX3_worth 118 = .ok (.aload_n 0, 1) := by decide +kernel
theorem dX3_worth_119 : decode cX3_worth 119 = .ok (.aload_n 0, 1) := by decide +kernel
theorem dX3_worth_120 : decode cX3_worth 120 = .ok (.getfield 9, 3) := by decide +kernel
theorem dX3_worth_123 : decode cX3_worth 123 = .ok (.iload 6, 2) := by decide +kernel
theorem dX3_worth_125 : decode cX3_worth 125 = .ok (.iaload, 1) := by decide +kernel
theorem dX3_worth_126 : decode cX3_worth 126 = .ok (.invokevirtual 35, 3) := by decide +kernel
theorem dX3_worth_129 : decode cX3_worth 129 = .ok (.goto 14, 3) := by decide +kernel
theorem dX3_worth_132 : decode cX3_worth 132 = .ok (.aload_n 0, 1) := by decide +kernel
theorem dX3_worth_133 : decode cX3_worth 133 = .ok (.aload_n 0, 1) := by decide +kernel
theorem dX3_worth_134 : decode cX3_worth 134 = .ok (.getfield 9, 3) := by decide +kernel
theorem dX3_worth_137 : decode cX3_worth 137 = .ok (.iload 6, 2) := by decide +kernel
theorem dX3_worth_139 : decode cX3_worth 139 = .ok (.iaload, 1) := by decide +kernel
theorem dX3_worth_140 : decode cX3_worth 140 = .ok (.invokevirtual 32, 3) := by decide +kernel
theorem dX3_worth_143 : decode cX3_worth 143 = .ok (.iinc 6 1, 3) := by decide +kernel
theorem dX3_worth_146 : decode cX3_worth 146 = .ok (.goto (-138), 3) := by decide +kernel
theorem dX3_worth_149 : decode cX3_worth 149 = .ok (.aload_n 0, 1) := by decide +kernel
theorem dX3_worth_150 : decode cX3_worth 150 = .ok (.getfield 29, 3) := by decide +kernel
theorem dX3_worth_153 : decode cX3_worth 153 = .ok (.ifCond .le 17, 3) := by decide +kernel
theorem dX3_worth_156 : decode cX3_worth 156 = .ok (.aload_n 0, 1) := by decide +kernel
theorem dX3_worth_157 : decode cX3_worth 157 = .ok (.getfield 15, 3) := by decide +kernel
theorem dX3_worth_160 : decode cX3_worth 160 = .ok (.aload_n 0, 1) := by decide +kernel
theorem dX3_worth_161 : decode cX3_worth 161 = .ok (.getfield 29, 3) := by decide +kernel
theorem dX3_worth_164 : decode cX3_worth 164 = .ok (.iconst 1, 1) := by decide +kernel
theorem dX3_worth_165 : decode cX3_worth 165 = .ok (.isub, 1) := by decide +kernel
theorem dX3_worth_166 : decode cX3_worth 166 = .ok (.iaload, 1) := by decide +kernel
theorem dX3_worth_167 : decode cX3_worth 167 = .ok (.goto 4, 3) := by decide +kernel
theorem dX3_worth_170 : decode cX3_worth 170 = .ok (.iconst 0, 1) := by decide +kernel
theorem dX3_worth_171 : decode cX3_worth 171 = .ok (.ireturn, 1) := by decide +kernel
theorem dX3_hold_0 : decode cX3_hold 0 = .ok (.aload_n 0, 1) := by decide +kernel
theorem dX3_hold_1 : decode cX3_hold 1 = .ok (.getfield 29, 3) := by decide +kernel
theorem dX3_hold_4 : decode cX3_hold 4 = .ok (.bipush 16, 2) := by decide +kernel
theorem dX3_hold_6 : decode cX3_hold 6 = .ok (.if_icmp .ge 23, 3) := by decide +kernel
theorem dX3_hold_9 : decode cX3_hold 9 = .ok (.aload_n 0, 1) := by decide +kernel
theorem dX3_hold_10 : decode cX3_hold 10 = .ok (.getfield 15, 3) := by decide +kernel
theorem dX3_hold_13 : decode cX3_hold 13 = .ok (.aload_n 0, 1) := by decide +kernel
theorem dX3_hold_14 : decode cX3_hold 14 = .ok (.getfield 29, 3) := by decide +kernel
theorem dX3_hold_17 : decode cX3_hold 17 = .ok (.iload_n 1, 1) := by decide +kernel
theorem dX3_hold_18 : decode cX3_hold 18 = .ok (.iastore, 1) := by decide +kernel
theorem dX3_hold_19 : decode cX3_hold 19 = .ok (.aload_n 0, 1) := by decide +kernel
theorem dX3_hold_20 : decode cX3_hold 20 = .ok (.dup, 1) := by decide +kernel
theorem dX3_hold_21 : decode cX3_hold 21 = .ok (.getfield 29, 3) := by decide +kernel
theorem dX3_hold_24 : decode cX3_hold 24 = .ok (.iconst 1, 1) := by decide +kernel
theorem dX3_hold_25 : decode cX3_hold 25 = .ok (.iadd, 1) := by decide +kernel
theorem dX3_hold_26 : decode cX3_hold 26 = .ok (.putfield 29, 3) := by decide +kernel
theorem dX3_hold_29 : decode cX3_hold 29 = .ok (.return_, 1) := by decide +kernel
theorem dX3_combine_0 : decode cX3_combine 0 = .ok (.aload_n 0, 1) := by decide +kernel
theorem dX3_combine_1 : decode cX3_combine 1 = .ok (.getfield 29, 3) := by decide +kernel
theorem dX3_combine_4 : decode cX3_combine 4 = .ok (.iconst 2, 1) := by decide +kernel
theorem dX3_combine_5 : decode cX3_combine 5 = .ok (.if_icmp .ge 4, 3) := by decide +kernel
theorem dX3_combine_8 : decode cX3_combine 8 = .ok (.return_, 1) := by decide +kernel
theorem dX3_combine_9 : decode cX3_combine 9 = .ok (.aload_n 0, 1) := by decide +kernel
theorem dX3_combine_10 : decode cX3_combine 10 = .ok (.getfield 15, 3) := by decide +kernel
theorem dX3_combine_13 : decode cX3_combine 13 = .ok (.aload_n 0, 1) := by decide +kernel
theorem dX3_combine_14 : decode cX3_combine 14 = .ok (.getfield 29, 3) := by decide +kernel
theorem dX3_combine_17 : decode cX3_combine 17 = .ok (.iconst 1, 1) := by decide +kernel
theorem dX3_combine_18 : decode cX3_combine 18 = .ok (.isub, 1) := by decide +kernel
theorem dX3_combine_19 : decode cX3_combine 19 = .ok (.iaload, 1) := by decide +kernel
theorem dX3_combine_20 : decode cX3_combine 20 = .ok (.istore_n 2, 1) := by decide +kernel
theorem dX3_combine_21 : decode cX3_combine 21 = .ok (.aload_n 0, 1) := by decide +kernel
theorem dX3_combine_22 : decode cX3_combine 22 = .ok (.getfield 15, 3) := by decide +kernel
theorem dX3_combine_25 : decode cX3_combine 25 = .ok (.aload_n 0, 1) := by decide +kernel
theorem dX3_combine_26 : decode cX3_combine 26 = .ok (.getfield 29, 3) := by decide +kernel
theorem dX3_combine_29 : decode cX3_combine 29 = .ok (.iconst 2, 1) := by decide +kernel
theorem dX3_combine_30 : decode cX3_combine 30 = .ok (.isub, 1) := by decide +kernel
theorem dX3_combine_31 : decode cX3_combine 31 = .ok (.iaload, 1) := by decide +kernel
theorem dX3_combine_32 : decode cX3_combine 32 = .ok (.istore_n 3, 1) := by decide +kernel
theorem dX3_combine_33 : decode cX3_combine 33 = .ok (.aload_n 0, 1) := by decide +kernel
theorem dX3_combine_34 : decode cX3_combine 34 = .ok (.dup, 1) := by decide +kernel
theorem dX3_combine_35 : decode cX3_combine 35 = .ok (.getfield 29, 3) := by decide +kernel
theorem dX3_combine_38 : decode cX3_combine 38 = .ok (.iconst 1, 1) := by decide +kernel
theorem dX3_combine_39 : decode cX3_combine 39 = .ok (.isub, 1) := by decide +kernel
theorem dX3_combine_40 : decode cX3_combine 40 = .ok (.putfield 29, 3) := by decide +kernel
theorem dX3_combine_43 : decode cX3_combine 43 = .ok (.iload_n 1, 1) := by decide +kernel
theorem dX3_combine_44 : decode cX3_combine 44 = .ok (.tableswitch 52 (-8) (-6) #[44, 36, 28], 28) := by decide +kernel
theorem dX3_combine_72 : decode cX3_combine 72 = .ok (.iload_n 3, 1) := by decide +kernel
theorem dX3_combine_73 : decode cX3_combine 73 = .ok (.iload_n 2, 1) := by decide +kernel
theorem dX3_combine_74 : decode cX3_combine 74 = .ok (.iadd, 1) := by decide +kernel
theorem dX3_combine_75 : decode cX3_combine 75 = .ok (.istore 4, 2) := by decide +kernel
theorem dX3_combine_77 : decode cX3_combine 77 = .ok (.goto 32, 3) := by decide +kernel
theorem dX3_combine_80 : decode cX3_combine 80 = .ok (.iload_n 3, 1) := by decide +kernel
theorem dX3_combine_81 : decode cX3_combine 81 = .ok (.iload_n 2, 1) := by decide +kernel
theorem dX3_combine_82 : decode cX3_combine 82 = .ok (.isub, 1) := by decide +kernel
theorem dX3_combine_83 : decode cX3_combine 83 = .ok (.istore 4, 2) := by decide +kernel
theorem dX3_combine_85 : decode cX3_combine 85 = .ok (.goto 24, 3) := by decide +kernel
theorem dX3_combine_88 : decode cX3_combine 88 = .ok (.iload_n 3, 1) := by decide +kernel
theorem dX3_combine_89 : decode cX3_combine 89 = .ok (.iload_n 2, 1) := by decide +kernel
theorem dX3_combine_90 : decode cX3_combine 90 = .ok (.imul, 1) := by decide +kernel
theorem dX3_combine_91 : decode cX3_combine 91 = .ok (.istore 4, 2) := by decide +kernel
theorem dX3_combine_93 : decode cX3_combine 93 = .ok (.goto 16, 3) := by decide +kernel
theorem dX3_combine_96 : decode cX3_combine 96 = .ok (.iload_n 2, 1) := by decide +kernel
theorem dX3_combine_97 : decode cX3_combine 97 = .ok (.ifCond .ne 7, 3) := by decide +kernel
theorem dX3_combine_100 : decode cX3_combine 100 = .ok (.iconst 0, 1) := by decide +kernel
theorem dX3_combine_101 : decode cX3_combine 101 = .ok (.goto 6, 3) := by decide +kernel
theorem dX3_combine_104 : decode cX3_combine 104 = .ok (.iload_n 3, 1) := by decide +kernel
theorem dX3_combine_105 : decode cX3_combine 105 = .ok (.iload_n 2, 1) := by decide +kernel
theorem dX3_combine_106 : decode cX3_combine 106 = .ok (.idiv, 1) := by decide +kernel
theorem dX3_combine_107 : decode cX3_combine 107 = .ok (.istore 4, 2) := by decide +kernel
theorem dX3_combine_109 : decode cX3_combine 109 = .ok (.aload_n 0, 1) := by decide +kernel
theorem dX3_combine_110 : decode cX3_combine 110 = .ok (.getfield 15, 3) := by decide +kernel
theorem dX3_combine_113 : decode cX3_combine 113 = .ok (.aload_n 0, 1) := by decide +kernel
theorem dX3_combine_114 : decode cX3_combine 114 = .ok (.getfield 29, 3) := by decide +kernel
theorem dX3_combine_117 : decode cX3_combine 117 = .ok (.iconst 1, 1) := by decide +kernel
theorem dX3_combine_118 : decode cX3_combine 118 = .ok (.isub, 1) := by decide +kernel
theorem dX3_combine_119 : decode cX3_combine 119 = .ok (.iload 4, 2) := by decide +kernel
theorem dX3_combine_121 : decode cX3_combine 121 = .ok (.iastore, 1) := by decide +kernel
theorem dX3_combine_122 : decode cX3_combine 122 = .ok (.return_, 1) := by decide +kernel
theorem dX4_init_0 : decode cX4_init 0 = .ok (.aload_n 0, 1) := by decide +kernel
theorem dX4_init_1 : decode cX4_init 1 = .ok (.invokespecial 3, 3) := by decide +kernel
theorem dX4_init_4 : decode cX4_init 4 = .ok (.aload_n 0, 1) := by decide +kernel
theorem dX4_init_5 : decode cX4_init 5 = .ok (.bipush 24, 2) := by decide +kernel
theorem dX4_init_7 : decode cX4_init 7 = .ok (.newarray .int, 2) := by decide +kernel
theorem dX4_init_9 : decode cX4_init 9 = .ok (.putfield 9, 3) := by decide +kernel
theorem dX4_init_12 : decode cX4_init 12 = .ok (.aload_n 0, 1) := by decide +kernel
theorem dX4_init_13 : decode cX4_init 13 = .ok (.bipush 24, 2) := by decide +kernel
theorem dX4_init_15 : decode cX4_init 15 = .ok (.newarray .int, 2) := by decide +kernel
theorem dX4_init_17 : decode cX4_init 17 = .ok (.putfield 15, 3) := by decide +kernel
theorem dX4_init_20 : decode cX4_init 20 = .ok (.aload_n 0, 1) := by decide +kernel
theorem dX4_init_21 : decode cX4_init 21 = .ok (.bipush 24, 2) := by decide +kernel
theorem dX4_init_23 : decode cX4_init 23 = .ok (.newarray .int, 2) := by decide +kernel
theorem dX4_init_25 : decode cX4_init 25 = .ok (.putfield 18, 3) := by decide +kernel
theorem dX4_init_28 : decode cX4_init 28 = .ok (.aload_n 0, 1) := by decide +kernel
theorem dX4_init_29 : decode cX4_init 29 = .ok (.bipush 24, 2) := by decide +kernel
theorem dX4_init_31 : decode cX4_init 31 = .ok (.newarray .int, 2) := by decide +kernel
theorem dX4_init_33 : decode cX4_init 33 = .ok (.putfield 21, 3) := by decide +kernel
theorem dX4_init_36 : decode cX4_init 36 = .ok (.return_, 1) := by decide +kernel
theorem dX4_begin_0 : decode cX4_begin 0 = .ok (.aload_n 0, 1) := by decide +kernel
theorem dX4_begin_1 : decode cX4_begin 1 = .ok (.iconst 1, 1) := by decide +kernel
theorem dX4_begin_2 : decode cX4_begin 2 = .ok (.putfield 24, 3) := by decide +kernel
theorem dX4_begin_5 : decode cX4_begin 5 = .ok (.aload_n 0, 1) := by decide +kernel
theorem dX4_begin_6 : decode cX4_begin 6 = .ok (.iload_n 1, 1) := by decide +kernel
theorem dX4_begin_7 : decode cX4_begin 7 = .ok (.putfield 28, 3) := by decide +kernel
theorem dX4_begin_10 : decode cX4_begin 10 = .ok (.aload_n 0, 1) := by decide +kernel
theorem dX4_begin_11 : decode cX4_begin 11 = .ok (.iload_n 2, 1) := by decide +kernel
theorem dX4_begin_12 : decode cX4_begin 12 = .ok (.putfield 32, 3) := by decide +kernel
theorem dX4_begin_15 : decode cX4_begin 15 = .ok (.aload_n 0, 1) := by decide +kernel
theorem dX4_begin_16 : decode cX4_begin 16 = .ok (.iload_n 3, 1) := by decide +kernel
theorem dX4_begin_17 : decode cX4_begin 17 = .ok (.putfield 35, 3) := by decide +kernel
theorem dX4_begin_20 : decode cX4_begin 20 = .ok (.aload_n 0, 1) := by decide +kernel
theorem dX4_begin_21 : decode cX4_begin 21 = .ok (.iload 4, 2) := by decide +kernel
theorem dX4_begin_23 : decode cX4_begin 23 = .ok (.putfield 38, 3) := by decide +kernel
theorem dX4_begin_26 : decode cX4_begin 26 = .ok (.aload_n 0, 1) := by decide +kernel
theorem dX4_begin_27 : decode cX4_begin 27 = .ok (.iconst (-1), 1) := by decide +kernel
theorem dX4_begin_28 : decode cX4_begin 28 = .ok (.putfield 41, 3) := by decide +kernel
theorem dX4_begin_31 : decode cX4_begin 31 = .ok (.aload_n 0, 1) := by decide +kernel
theorem dX4_begin_32 : decode cX4_begin 32 = .ok (.iconst 0, 1) := by decide +kernel
theorem dX4_begin_33 : decode cX4_begin 33 = .ok (.putfield 44, 3) := by decide +kernel
theorem dX4_begin_36 : decode cX4_begin 36 = .ok (.aload_n 0, 1) := by decide +kernel
theorem dX4_begin_37 : decode cX4_begin 37 = .ok (.iconst 0, 1) := by decide +kernel
theorem dX4_begin_38 : decode cX4_begin 38 = .ok (.putfield 47, 3) := by decide +kernel
theorem dX4_begin_41 : decode cX4_begin 41 = .ok (.aload_n 0, 1) := by decide +kernel
theorem dX4_begin_42 : decode cX4_begin 42 = .ok (.iconst 0, 1) := by decide +kernel
theorem dX4_begin_43 : decode cX4_begin 43 = .ok (.putfield 50, 3) := by decide +kernel
theorem dX4_begin_46 : decode cX4_begin 46 = .ok (.aload_n 0, 1) := by decide +kernel
theorem dX4_begin_47 : decode cX4_begin 47 = .ok (.iconst 0, 1) := by decide +kernel
theorem dX4_begin_48 : decode cX4_begin 48 = .ok (.putfield 53, 3) := by decide +kernel
theorem dX4_begin_51 : decode cX4_begin 51 = .ok (.aload_n 0, 1) := by decide +kernel
theorem dX4_begin_52 : decode cX4_begin 52 = .ok (.iconst 0, 1) := by decide +kernel
theorem dX4_begin_53 : decode cX4_begin 53 = .ok (.putfield 56, 3) := by decide +kernel
theorem dX4_begin_56 : decode cX4_begin 56 = .ok (.aload_n 0, 1) := by decide +kernel
theorem dX4_begin_57 : decode cX4_begin 57 = .ok (.iconst 0, 1) := by decide +kernel
theorem dX4_begin_58 : decode cX4_begin 58 = .ok (.putfield 59, 3) := by decide +kernel
theorem dX4_begin_61 : decode cX4_begin 61 = .ok (.aload_n 0, 1) := by decide +kernel
theorem dX4_begin_62 : decode cX4_begin 62 = .ok (.iconst 0, 1) := by decide +kernel
theorem dX4_begin_63 : decode cX4_begin 63 = .ok (.putfield 62, 3) := by decide +kernel
theorem dX4_begin_66 : decode cX4_begin 66 = .ok (.return_, 1) := by decide +kernel
theorem dX4_copyFrom_0 : decode cX4_copyFrom 0 = .ok (.aload_n 0, 1) := by decide +kernel
theorem dX4_copyFrom_1 : decode cX4_copyFrom 1 = .ok (.aload_n 1, 1) := by decide +kernel
theorem dX4_copyFrom_2 : decode cX4_copyFrom 2 = .ok (.getfield 24, 3) := by decide +kernel
theorem dX4_copyFrom_5 : decode cX4_copyFrom 5 = .ok (.putfield 24, 3) := by decide +kernel
theorem dX4_copyFrom_8 : decode cX4_copyFrom 8 = .ok (.aload_n 0, 1) := by decide +kernel
theorem dX4_copyFrom_9 : decode cX4_copyFrom 9 = .ok (.aload_n 1, 1) := by decide +kernel
theorem dX4_copyFrom_10 : decode cX4_copyFrom 10 = .ok (.getfield 28, 3) := by decide +kernel
theorem dX4_copyFrom_13 : decode cX4_copyFrom 13 = .ok (.putfield 28, 3) := by decide +kernel
theorem dX4_copyFrom_16 : decode cX4_copyFrom 16 = .ok (.aload_n 0, 1) := by decide +kernel
theorem dX4_copyFrom_17 : decode cX4_copyFrom 17 = .ok (.aload_n 1, 1) := by decide +kernel
theorem dX4_copyFrom_18 : decode cX4_copyFrom 18 = .ok (.getfield 32, 3) := by decide +kernel
theorem dX4_copyFrom_21 : decode cX4_copyFrom 21 = .ok (.putfield 32, 3) := by decide +kernel
theorem dX4_copyFrom_24 : decode cX4_copyFrom 24 = .ok (.aload_n 0, 1) := by decide +kernel
theorem dX4_copyFrom_25 : decode cX4_copyFrom 25 = .ok (.aload_n 1, 1) := by decide +kernel
theorem dX4_copyFrom_26 : decode cX4_copyFrom 26 = .ok (.getfield 35, 3) := by decide +kernel
theorem dX4_copyFrom_29 : decode cX4_copyFrom 29 = .ok (.putfield 35, 3) := by decide +kernel
theorem dX4_copyFrom_32 : decode cX4_copyFrom 32 = .ok (.aload_n 0, 1) := by decide +kernel
theorem dX4_copyFrom_33 : decode cX4_copyFrom 33 = .ok (.aload_n 1, 1) := by decide +kernel
theorem dX4_copyFrom_34 : decode cX4_copyFrom 34 = .ok (.getfield 38, 3) := by decide +kernel
theorem dX4_copyFrom_37 : decode cX4_copyFrom 37 = .ok (.putfield 38, 3) := by decide +kernel
theorem dX4_copyFrom_40 : decode cX4_copyFrom 40 = .ok (.aload_n 0, 1) := by decide +kernel
theorem dX4_copyFrom_41 : decode cX4_copyFrom 41 = .ok (.aload_n 1, 1) := by decide +kernel
theorem dX4_copyFrom_42 : decode cX4_copyFrom 42 = .ok (.getfield 41, 3) := by decide +kernel
theorem dX4_copyFrom_45 : decode cX4_copyFrom 45 = .ok (.putfield 41, 3) := by decide +kernel
theorem dX4_copyFrom_48 : decode cX4_copyFrom 48 = .ok (.aload_n 0, 1) := by decide +kernel
theorem dX4_copyFrom_49 : decode cX4_copyFrom 49 = .ok (.aload_n 1, 1) := by decide +kernel
theorem dX4_copyFrom_50 : decode cX4_copyFrom 50 = .ok (.getfield 44, 3) := by decide +kernel
theorem dX4_copyFrom_53 : decode cX4_copyFrom 53 = .ok (.putfield 44, 3) := by decide +kernel
theorem dX4_copyFrom_56 : decode cX4_copyFrom 56 = .ok (.aload_n 0, 1) := by decide +kernel
theorem dX4_copyFrom_57 : decode cX4_copyFrom 57 = .ok (.aload_n 1, 1) := by decide +kernel
theorem dX4_copyFrom_58 : decode cX4_copyFrom 58 = .ok (.getfield 47, 3) := by decide +kernel
theorem dX4_copyFrom_61 : decode cX4_copyFrom 61 = .ok (.putfield 47, 3) := by decide +kernel
theorem dX4_copyFrom_64 : decode cX4_copyFrom 64 = .ok (.aload_n 0, 1) := by decide +kernel
theorem dX4_copyFrom_65 : decode cX4_copyFrom 65 = .ok (.aload_n 1, 1) := by decide +kernel
theorem dX4_copyFrom_66 : decode cX4_copyFrom 66 = .ok (.getfield 50, 3) := by decide +kernel
theorem dX4_copyFrom_69 : decode cX4_copyFrom 69 = .ok (.putfield 50, 3) := by decide +kernel
theorem dX4_copyFrom_72 : decode cX4_copyFrom 72 = .ok (.aload_n 0, 1) := by decide +kernel
theorem dX4_copyFrom_73 : decode cX4_copyFrom 73 = .ok (.aload_n 1, 1) := by decide +kernel
theorem dX4_copyFrom_74 : decode cX4_copyFrom 74 = .ok (.getfield 53, 3) := by decide +kernel
theorem dX4_copyFrom_77 : decode cX4_copyFrom 77 = .ok (.putfield 53, 3) := by decide +kernel
theorem dX4_copyFrom_80 : decode cX4_copyFrom 80 = .ok (.aload_n 0, 1) := by decide +kernel
theorem dX4_copyFrom_81 : decode cX4_copyFrom 81 = .ok (.aload_n 1, 1) := by decide +kernel
theorem dX4_copyFrom_82 : decode cX4_copyFrom 82 = .ok (.getfield 56, 3) := by decide +kernel
theorem dX4_copyFrom_85 : decode cX4_copyFrom 85 = .ok (.putfield 56, 3) := by decide +kernel
theorem dX4_copyFrom_88 : decode cX4_copyFrom 88 = .ok (.aload_n 0, 1) := by decide +kernel
theorem dX4_copyFrom_89 : decode cX4_copyFrom 89 = .ok (.aload_n 1, 1) := by decide +kernel
theorem dX4_copyFrom_90 : decode cX4_copyFrom 90 = .ok (.getfield 59, 3) := by decide +kernel
theorem dX4_copyFrom_93 : decode cX4_copyFrom 93 = .ok (.putfield 59, 3) := by decide +kernel
theorem dX4_copyFrom_96 : decode cX4_copyFrom 96 = .ok (.aload_n 0, 1) := by decide +kernel
theorem dX4_copyFrom_97 : decode cX4_copyFrom 97 = .ok (.aload_n 1, 1) := by decide +kernel
theorem dX4_copyFrom_98 : decode cX4_copyFrom 98 = .ok (.getfield 62, 3) := by decide +kernel
theorem dX4_copyFrom_101 : decode cX4_copyFrom 101 = .ok (.putfield 62, 3) := by decide +kernel
theorem dX4_copyFrom_104 : decode cX4_copyFrom 104 = .ok (.aload_n 1, 1) := by decide +kernel
theorem dX4_copyFrom_105 : decode cX4_copyFrom 105 = .ok (.getfield 9, 3) := by decide +kernel
theorem dX4_copyFrom_108 : decode cX4_copyFrom 108 = .ok (.iconst 0, 1) := by decide +kernel
theorem dX4_copyFrom_109 : decode cX4_copyFrom 109 = .ok (.aload_n 0, 1) := by decide +kernel
theorem dX4_copyFrom_110 : decode cX4_copyFrom 110 = .ok (.getfield 9, 3) := by decide +kernel
theorem dX4_copyFrom_113 : decode cX4_copyFrom 113 = .ok (.iconst 0, 1) := by decide +kernel
theorem dX4_copyFrom_114 : decode cX4_copyFrom 114 = .ok (.bipush 24, 2) := by decide +kernel
theorem dX4_copyFrom_116 : decode cX4_copyFrom 116 = .ok (.invokestatic 65, 3) := by decide +kernel
theorem dX4_copyFrom_119 : decode cX4_copyFrom 119 = .ok (.aload_n 1, 1) := by decide +kernel
theorem dX4_copyFrom_120 : decode cX4_copyFrom 120 = .ok (.getfield 15, 3) := by decide +kernel
theorem dX4_copyFrom_123 : decode cX4_copyFrom 123 = .ok (.iconst 0, 1) := by decide +kernel
theorem dX4_copyFrom_124 : decode cX4_copyFrom 124 = .ok (.aload_n 0, 1) := by decide +kernel
theorem dX4_copyFrom_125 : decode cX4_copyFrom 125 = .ok (.getfield 15, 3) := by decide +kernel
theorem dX4_copyFrom_128 : decode cX4_copyFrom 128 = .ok (.iconst 0, 1) := by decide +kernel
theorem dX4_copyFrom_129 : decode cX4_copyFrom 129 = .ok (.bipush 24, 2) := by decide +kernel
theorem dX4_copyFrom_131 : decode cX4_copyFrom 131 = .ok (.invokestatic 65, 3) := by decide +kernel
theorem dX4_copyFrom_134 : decode cX4_copyFrom 134 = .ok (.aload_n 1, 1) := by decide +kernel
theorem dX4_copyFrom_135 : decode cX4_copyFrom 135 = .ok (.getfield 18, 3) := by decide +kernel
theorem dX4_copyFrom_138 : decode cX4_copyFrom 138 = .ok (.iconst 0, 1) := by decide +kernel
theorem dX4_copyFrom_139 : decode cX4_copyFrom 139 = .ok (.aload_n 0, 1) := by decide +kernel
theorem dX4_copyFrom_140 : decode cX4_copyFrom 140 = .ok (.getfield 18, 3) := by decide +kernel
theorem dX4_copyFrom_143 : decode cX4_copyFrom 143 = .ok (.iconst 0, 1) := by decide +kernel
theorem dX4_copyFrom_144 : decode cX4_copyFrom 144 = .ok (.bipush 24, 2) := by decide +kernel
theorem dX4_copyFrom_146 : decode cX4_copyFrom 146 = .ok (.invokestatic 65, 3) := by decide +kernel
theorem dX4_copyFrom_149 : decode cX4_copyFrom 149 = .ok (.aload_n 1, 1) := by decide +kernel
theorem dX4_copyFrom_150 : decode cX4_copyFrom 150 = .ok (.getfield 21, 3) := by decide +kernel
theorem dX4_copyFrom_153 : decode cX4_copyFrom 153 = .ok (.iconst 0, 1) := by decide +kernel
theorem dX4_copyFrom_154 : decode cX4_copyFrom 154 = .ok (.aload_n 0, 1) := by decide +kernel
theorem dX4_copyFrom_155 : decode cX4_copyFrom 155 = .ok (.getfield 21, 3) := by decide +kernel
theorem dX4_copyFrom_158 : decode cX4_copyFrom 158 = .ok (.iconst 0, 1) := by decide +kernel
theorem dX4_copyFrom_159 : decode cX4_copyFrom 159 = .ok (.bipush 24, 2) := by decide +kernel
theorem dX4_copyFrom_161 : decode cX4_copyFrom 161 = .ok (.invokestatic 65, 3) := by decide +kernel
theorem dX4_copyFrom_164 : decode cX4_copyFrom 164 = .ok (.return_, 1) := by decide +kernel
theorem dX4_placeOf_0 : decode cX4_placeOf 0 = .ok (.iload_n 0, 1) := by decide +kernel
theorem dX4_placeOf_1 : decode cX4_placeOf 1 = .ok (.bipush 24, 2) := by decide +kernel
theorem dX4_placeOf_3 : decode cX4_placeOf 3 = .ok (.invokestatic 71, 3) := by decide +kernel
theorem dX4_placeOf_6 : decode cX4_placeOf 6 = .ok (.ireturn, 1) := by decide +kernel
theorem dX4_addMessage_0 : decode cX4_addMessage 0 = .ok (.aload_n 0, 1) := by decide +kernel
theorem dX4_addMessage_1 : decode cX4_addMessage 1 = .ok (.getfield 56, 3) := by decide +kernel
theorem dX4_addMessage_4 : decode cX4_addMessage 4 = .ok (.iload_n 2, 1) := by decide +kernel
theorem dX4_addMessage_5 : decode cX4_addMessage 5 = .ok (.if_icmp .lt 7, 3) := by decide +kernel
theorem dX4_addMessage_8 : decode cX4_addMessage 8 = .ok (.aload_n 0, 1) := by decide +kernel
theorem dX4_addMessage_9 : decode cX4_addMessage 9 = .ok (.invokevirtual 77, 3) := by decide +kernel
theorem dX4_addMessage_12 : decode cX4_addMessage 12 = .ok (.aload_n 0, 1) := by decide +kernel
theorem dX4_addMessage_13 : decode cX4_addMessage 13 = .ok (.getfield 47, 3) := by decide +kernel
theorem dX4_addMessage_16 : decode cX4_addMessage 16 = .ok (.istore 4, 2) := by decide +kernel
theorem dX4_addMessage_18 : decode cX4_addMessage 18 = .ok (.iload 4, 2) := by decide +kernel
theorem dX4_addMessage_20 : decode cX4_addMessage 20 = .ok (.invokestatic 80, 3) := by decide +kernel
theorem dX4_addMessage_23 : decode cX4_addMessage 23 = .ok (.istore 5, 2) := by decide +kernel
theorem dX4_addMessage_25 : decode cX4_addMessage 25 = .ok (.aload_n 0, 1) := by decide +kernel
theorem dX4_addMessage_26 : decode cX4_addMessage 26 = .ok (.getfield 9, 3) := by decide +kernel
theorem dX4_addMessage_29 : decode cX4_addMessage 29 = .ok (.iload 5, 2) := by decide +kernel
theorem dX4_addMessage_31 : decode cX4_addMessage 31 = .ok (.iload_n 1, 1) := by decide +kernel
theorem dX4_addMessage_32 : decode cX4_addMessage 32 = .ok (.iastore, 1) := by decide +kernel
theorem dX4_addMessage_33 : decode cX4_addMessage 33 = .ok (.aload_n 0, 1) := by decide +kernel
theorem dX4_addMessage_34 : decode cX4_addMessage 34 = .ok (.getfield 15, 3) := by decide +kernel
theorem dX4_addMessage_37 : decode cX4_addMessage 37 = .ok (.iload 5, 2) := by decide +kernel
theorem dX4_addMessage_39 : decode cX4_addMessage 39 = .ok (.aload_n 0, 1) := by decide +kernel
theorem dX4_addMessage_40 : decode cX4_addMessage 40 = .ok (.getfield 53, 3) := by decide +kernel
theorem dX4_addMessage_43 : decode cX4_addMessage 43 = .ok (.iastore, 1) := by decide +kernel
theorem dX4_addMessage_44 : decode cX4_addMessage 44 = .ok (.aload_n 0, 1) := by decide +kernel
theorem dX4_addMessage_45 : decode cX4_addMessage 45 = .ok (.getfield 18, 3) := by decide +kernel
theorem dX4_addMessage_48 : decode cX4_addMessage 48 = .ok (.iload 5, 2) := by decide +kernel
theorem dX4_addMessage_50 : decode cX4_addMessage 50 = .ok (.aload_n 0, 1) := by decide +kernel
theorem dX4_addMessage_51 : decode cX4_addMessage 51 = .ok (.getfield 38, 3) := by decide +kernel
theorem dX4_addMessage_54 : decode cX4_addMessage 54 = .ok (.iastore, 1) := by decide +kernel
theorem dX4_addMessage_55 : decode cX4_addMessage 55 = .ok (.aload_n 0, 1) := by decide +kernel
theorem dX4_addMessage_56 : decode cX4_addMessage 56 = .ok (.getfield 21, 3) := by decide +kernel
theorem dX4_addMessage_59 : decode cX4_addMessage 59 = .ok (.iload 5, 2) := by decide +kernel
theorem dX4_addMessage_61 : decode cX4_addMessage 61 = .ok (.iload_n 3, 1) := by decide +kernel
theorem dX4_addMessage_62 : decode cX4_addMessage 62 = .ok (.iastore, 1) := by decide +kernel
theorem dX4_addMessage_63 : decode cX4_addMessage 63 = .ok (.aload_n 0, 1) := by decide +kernel
theorem dX4_addMessage_64 : decode cX4_addMessage 64 = .ok (.dup, 1) := by decide +kernel
theorem dX4_addMessage_65 : decode cX4_addMessage 65 = .ok (.getfield 47, 3) := by decide +kernel
theorem dX4_addMessage_68 : decode cX4_addMessage 68 = .ok (.iconst 1, 1) := by decide +kernel
theorem dX4_addMessage_69 : decode cX4_addMessage 69 = .ok (.iadd, 1) := by decide +kernel
theorem dX4_addMessage_70 : decode cX4_addMessage 70 = .ok (.putfield 47, 3) := by decide +kernel
theorem dX4_addMessage_73 : decode cX4_addMessage 73 = .ok (.aload_n 0, 1) := by decide +kernel
theorem dX4_addMessage_74 : decode cX4_addMessage 74 = .ok (.dup, 1) := by decide +kernel
theorem dX4_addMessage_75 : decode cX4_addMessage 75 = .ok (.getfield 56, 3) := by decide +kernel
theorem dX4_addMessage_78 : decode cX4_addMessage 78 = .ok (.iconst 1, 1) := by decide +kernel
theorem dX4_addMessage_79 : decode cX4_addMessage 79 = .ok (.iadd, 1) := by decide +kernel
theorem dX4_addMessage_80 : decode cX4_addMessage 80 = .ok (.putfield 56, 3) := by decide +kernel
theorem dX4_addMessage_83 : decode cX4_addMessage 83 = .ok (.iload 4, 2) := by decide +kernel
theorem dX4_addMessage_85 : decode cX4_addMessage 85 = .ok (.ireturn, 1) := by decide +kernel
theorem dX4_takeNextKey_0 : decode cX4_takeNextKey 0 = .ok (.aload_n 0, 1) := by decide +kernel
theorem dX4_takeNextKey_1 : decode cX4_takeNextKey 1 = .ok (.dup, 1) := by decide +kernel
theorem dX4_takeNextKey_2 : decode cX4_takeNextKey 2 = .ok (.getfield 53, 3) := by decide +kernel
theorem dX4_takeNextKey_5 : decode cX4_takeNextKey 5 = .ok (.iconst 1, 1) := by decide +kernel
theorem dX4_takeNextKey_6 : decode cX4_takeNextKey 6 = .ok (.iadd, 1) := by decide +kernel
theorem dX4_takeNextKey_7 : decode cX4_takeNextKey 7 = .ok (.putfield 53, 3) := by decide +kernel
theorem dX4_takeNextKey_10 : decode cX4_takeNextKey 10 = .ok (.aload_n 0, 1) := by decide +kernel
theorem dX4_takeNextKey_11 : decode cX4_takeNextKey 11 = .ok (.iconst 0, 1) := by decide +kernel
theorem dX4_takeNextKey_12 : decode cX4_takeNextKey 12 = .ok (.putfield 56, 3) := by decide +kernel
theorem dX4_takeNextKey_15 : decode cX4_takeNextKey 15 = .ok (.return_, 1) := by decide +kernel
theorem dX4_changePath_0 : decode cX4_changePath 0 = .ok (.iload_n 1, 1) := by decide +kernel
theorem dX4_changePath_1 : decode cX4_changePath 1 = .ok (.aload_n 0, 1) := by decide +kernel
theorem dX4_changePath_2 : decode cX4_changePath 2 = .ok (.getfield 38, 3) := by decide +kernel
theorem dX4_changePath_5 : decode cX4_changePath 5 = .ok (.if_icmp .eq 14, 3) := by decide +kernel
theorem dX4_changePath_8 : decode cX4_changePath 8 = .ok (.aload_n 0, 1) := by decide +kernel
theorem dX4_changePath_9 : decode cX4_changePath 9 = .ok (.getfield 56, 3) := by decide +kernel
theorem dX4_changePath_12 : decode cX4_changePath 12 = .ok (.ifCond .le 7, 3) := by decide +kernel
theorem dX4_changePath_15 : decode cX4_changePath 15 = .ok (.aload_n 0, 1) := by decide +kernel
theorem dX4_changePath_16 : decode cX4_changePath 16 = .ok (.invokevirtual 77, 3) := by decide +kernel
theorem dX4_changePath_19 : decode cX4_changePath 19 = .ok (.aload_n 0, 1) := by decide +kernel
theorem dX4_changePath_20 : decode cX4_changePath 20 = .ok (.iload_n 1, 1) := by decide +kernel
theorem dX4_changePath_21 : decode cX4_changePath 21 = .ok (.putfield 38, 3) := by decide +kernel
theorem dX4_changePath_24 : decode cX4_changePath 24 = .ok (.return_, 1) := by decide +kernel
theorem dX4_startWaiting_0 : decode cX4_startWaiting 0 = .ok (.aload_n 0, 1) := by decide +kernel
theorem dX4_startWaiting_1 : decode cX4_startWaiting 1 = .ok (.getfield 50, 3) := by decide +kernel
theorem dX4_startWaiting_4 : decode cX4_startWaiting 4 = .ok (.istore_n 2, 1) := by decide +kernel
theorem dX4_startWaiting_5 : decode cX4_startWaiting 5 = .ok (.iload_n 2, 1) := by decide +kernel
theorem dX4_startWaiting_6 : decode cX4_startWaiting 6 = .ok (.aload_n 0, 1) := by decide +kernel
theorem dX4_startWaiting_7 : decode cX4_startWaiting 7 = .ok (.getfield 47, 3) := by decide +kernel
theorem dX4_startWaiting_10 : decode cX4_startWaiting 10 = .ok (.if_icmp .ge 41, 3) := by decide +kernel
theorem dX4_startWaiting_13 : decode cX4_startWaiting 13 = .ok (.iload_n 2, 1) := by decide +kernel
theorem dX4_startWaiting_14 : decode cX4_startWaiting 14 = .ok (.invokestatic 80, 3) := by decide +kernel
theorem dX4_startWaiting_17 : decode cX4_startWaiting 17 = .ok (.istore_n 3, 1) := by decide +kernel
theorem dX4_startWaiting_18 : decode cX4_startWaiting 18 = .ok (.aload_n 0, 1) := by decide +kernel
theorem dX4_startWaiting_19 : decode cX4_startWaiting 19 = .ok (.getfield 18, 3) := by decide +kernel
theorem dX4_startWaiting_22 : decode cX4_startWaiting 22 = .ok (.iload_n 3, 1) := by decide +kernel
theorem dX4_startWaiting_23 : decode cX4_startWaiting 23 = .ok (.iaload, 1) := by decide +kernel
theorem dX4_startWaiting_24 : decode cX4_startWaiting 24 = .ok (.iconst (-1), 1) := by decide +kernel
theorem dX4_startWaiting_25 : decode cX4_startWaiting 25 = .ok (.if_icmp .ne 20, 3) := by decide +kernel
theorem dX4_startWaiting_28 : decode cX4_startWaiting 28 = .ok (.aload_n 0, 1) := by decide +kernel
theorem dX4_startWaiting_29 : decode cX4_startWaiting 29 = .ok (.getfield 18, 3) := by decide +kernel
theorem dX4_startWaiting_32 : decode cX4_startWaiting 32 = .ok (.iload_n 3, 1) := by decide +kernel
theorem dX4_startWaiting_33 : decode cX4_startWaiting 33 = .ok (.aload_n 0, 1) := by decide +kernel
theorem dX4_startWaiting_34 : decode cX4_startWaiting 34 = .ok (.getfield 38, 3) := by decide +kernel
theorem dX4_startWaiting_37 : decode cX4_startWaiting 37 = .ok (.iastore, 1) := by decide +kernel
theorem dX4_startWaiting_38 : decode cX4_startWaiting 38 = .ok (.aload_n 0, 1) := by decide +kernel
theorem dX4_startWaiting_39 : decode cX4_startWaiting 39 = .ok (.getfield 21, 3) := by decide +kernel
theorem dX4_startWaiting_42 : decode cX4_startWaiting 42 = .ok (.iload_n 3, 1) := by decide +kernel
theorem dX4_startWaiting_43 : decode cX4_startWaiting 43 = .ok (.iload_n 1, 1) := by decide +kernel
theorem dX4_startWaiting_44 : decode cX4_startWaiting 44 = .ok (.iastore, 1) := by decide +kernel
theorem dX4_startWaiting_45 : decode cX4_startWaiting 45 = .ok (.iinc 2 1, 3) := by decide +kernel
theorem dX4_startWaiting_48 : decode cX4_startWaiting 48 = .ok (.goto (-43), 3) := by decide +kernel
theorem dX4_startWaiting_51 : decode cX4_startWaiting 51 = .ok (.return_, 1) := by decide +kernel
theorem dX4_takeArrivals_0 : decode cX4_takeArrivals 0 = .ok (.aload_n 0, 1) := by decide +kernel
theorem dX4_takeArrivals_1 : decode cX4_takeArrivals 1 = .ok (.getfield 50, 3) := by decide +kernel
theorem dX4_takeArrivals_4 : decode cX4_takeArrivals 4 = .ok (.istore_n 2, 1) := by decide +kernel
theorem dX4_takeArrivals_5 : decode cX4_takeArrivals 5 = .ok (.iload_n 2, 1) := by decide +kernel
theorem dX4_takeArrivals_6 : decode cX4_takeArrivals 6 = .ok (.aload_n 0, 1) := by decide +kernel
theorem dX4_takeArrivals_7 : decode cX4_takeArrivals 7 = .ok (.getfield 47, 3) := by decide +kernel
theorem dX4_takeArrivals_10 : decode cX4_takeArrivals 10 = .ok (.if_icmp .ge 41, 3) := by decide +kernel
theorem dX4_takeArrivals_13 : decode cX4_takeArrivals 13 = .ok (.iload_n 2, 1) := by decide +kernel
theorem dX4_takeArrivals_14 : decode cX4_takeArrivals 14 = .ok (.invokestatic 80, 3) := by decide +kernel
theorem dX4_takeArrivals_17 : decode cX4_takeArrivals 17 = .ok (.istore_n 3, 1) := by decide +kernel
theorem dX4_takeArrivals_18 : decode cX4_takeArrivals 18 = .ok (.aload_n 0, 1) := by decide +kernel
theorem dX4_takeArrivals_19 : decode cX4_takeArrivals 19 = .ok (.getfield 18, 3) := by decide +kernel
theorem dX4_takeArrivals_22 : decode cX4_takeArrivals 22 = .ok (.iload_n 3, 1) := by decide +kernel
theorem dX4_takeArrivals_23 : decode cX4_takeArrivals 23 = .ok (.iaload, 1) := by decide +kernel
theorem dX4_takeArrivals_24 : decode cX4_takeArrivals 24 = .ok (.ifCond .lt 21, 3) := by decide +kernel
theorem dX4_takeArrivals_27 : decode cX4_takeArrivals 27 = .ok (.aload_n 0, 1) := by decide +kernel
theorem dX4_takeArrivals_28 : decode cX4_takeArrivals 28 = .ok (.getfield 21, 3) := by decide +kernel
theorem dX4_takeArrivals_31 : decode cX4_takeArrivals 31 = .ok (.iload_n 3, 1) := by decide +kernel
theorem dX4_takeArrivals_32 : decode cX4_takeArrivals 32 = .ok (.iaload, 1) := by decide +kernel
theorem dX4_takeArrivals_33 : decode cX4_takeArrivals 33 = .ok (.iload_n 1, 1) := by decide +kernel
theorem dX4_takeArrivals_34 : decode cX4_takeArrivals 34 = .ok (.if_icmp .ne 11, 3) := by decide +kernel
theorem dX4_takeArrivals_37 : decode cX4_takeArrivals 37 = .ok (.aload_n 0, 1) := by decide +kernel
theorem dX4_takeArrivals_38 : decode cX4_takeArrivals 38 = .ok (.getfield 18, 3) := by decide +kernel
theorem dX4_takeArrivals_41 : decode cX4_takeArrivals 41 = .ok (.iload_n 3, 1) := by decide +kernel
theorem dX4_takeArrivals_42 : decode cX4_takeArrivals 42 = .ok (.bipush (-2), 2) := by decide +kernel
theorem dX4_takeArrivals_44 : decode cX4_takeArrivals 44 = .ok (.iastore, 1) := by decide +kernel
theorem dX4_takeArrivals_45 : decode cX4_takeArrivals 45 = .ok (.iinc 2 1, 3) := by decide +kernel
theorem dX4_takeArrivals_48 : decode cX4_takeArrivals 48 = .ok (.goto (-43), 3) := by decide +kernel
theorem dX4_takeArrivals_51 : decode cX4_takeArrivals 51 = .ok (.aload_n 0, 1) := by decide +kernel
theorem dX4_takeArrivals_52 : decode cX4_takeArrivals 52 = .ok (.getfield 50, 3) := by decide +kernel
theorem dX4_takeArrivals_55 : decode cX4_takeArrivals 55 = .ok (.istore_n 2, 1) := by decide +kernel
theorem dX4_takeArrivals_56 : decode cX4_takeArrivals 56 = .ok (.aload_n 0, 1) := by decide +kernel
theorem dX4_takeArrivals_57 : decode cX4_takeArrivals 57 = .ok (.getfield 50, 3) := by decide +kernel
theorem dX4_takeArrivals_60 : decode cX4_takeArrivals 60 = .ok (.aload_n 0, 1) := by decide +kernel
theorem dX4_takeArrivals_61 : decode cX4_takeArrivals 61 = .ok (.getfield 47, 3) := by decide +kernel
theorem dX4_takeArrivals_64 : decode cX4_takeArrivals 64 = .ok (.if_icmp .ge 65, 3) := by decide +kernel
theorem dX4_takeArrivals_67 : decode cX4_takeArrivals 67 = .ok (.aload_n 0, 1) := by decide +kernel
theorem dX4_takeArrivals_68 : decode cX4_takeArrivals 68 = .ok (.getfield 18, 3) := by decide +kernel
theorem dX4_takeArrivals_71 : decode cX4_takeArrivals 71 = .ok (.aload_n 0, 1) := by decide +kernel
theorem dX4_takeArrivals_72 : decode cX4_takeArrivals 72 = .ok (.getfield 50, 3) := by decide +kernel
theorem dX4_takeArrivals_75 : decode cX4_takeArrivals 75 = .ok (.invokestatic 80, 3) := by decide +kernel
theorem dX4_takeArrivals_78 : decode cX4_takeArrivals 78 = .ok (.iaload, 1) := by decide +kernel
theorem dX4_takeArrivals_79 : decode cX4_takeArrivals 79 = .ok (.bipush (-2), 2) := by decide +kernel
theorem dX4_takeArrivals_81 : decode cX4_takeArrivals 81 = .ok (.if_icmp .ne 48, 3) := by decide +kernel
theorem dX4_takeArrivals_84 : decode cX4_takeArrivals 84 = .ok (.aload_n 0, 1) := by decide +kernel
theorem dX4_takeArrivals_85 : decode cX4_takeArrivals 85 = .ok (.aload_n 0, 1) := by decide +kernel
theorem dX4_takeArrivals_86 : decode cX4_takeArrivals 86 = .ok (.getfield 9, 3) := by decide +kernel
theorem dX4_takeArrivals_89 : decode cX4_takeArrivals 89 = .ok (.aload_n 0, 1) := by decide +kernel
theorem dX4_takeArrivals_90 : decode cX4_takeArrivals 90 = .ok (.getfield 50, 3) := by decide +kernel
theorem dX4_takeArrivals_93 : decode cX4_takeArrivals 93 = .ok (.invokestatic 80, 3) := by decide +kernel
theorem dX4_takeArrivals_96 : decode cX4_takeArrivals 96 = .ok (.iaload, 1) := by decide +kernel
theorem dX4_takeArrivals_97 : decode cX4_takeArrivals 97 = .ok (.putfield 59, 3) := by decide +kernel
theorem dX4_takeArrivals_100 : decode cX4_takeArrivals 100 = .ok (.aload_n 0, 1) := by decide +kernel
theorem dX4_takeArrivals_101 : decode cX4_takeArrivals 101 = .ok (.bipush 31, 2) := by decide +kernel
theorem dX4_takeArrivals_103 : decode cX4_takeArrivals 103 = .ok (.aload_n 0, 1) := by decide +kernel
theorem dX4_takeArrivals_104 : decode cX4_takeArrivals 104 = .ok (.getfield 62, 3) := by decide +kernel
theorem dX4_takeArrivals_107 : decode cX4_takeArrivals 107 = .ok (.imul, 1) := by decide +kernel
theorem dX4_takeArrivals_108 : decode cX4_takeArrivals 108 = .ok (.aload_n 0, 1) := by decide +kernel
theorem dX4_takeArrivals_109 : decode cX4_takeArrivals 109 = .ok (.getfield 59, 3) := by decide +kernel
theorem dX4_takeArrivals_112 : decode cX4_takeArrivals 112 = .ok (.iadd, 1) := by decide +kernel
theorem dX4_takeArrivals_113 : decode cX4_takeArrivals 113 = .ok (.putfield 62, 3) := by decide +kernel
theorem dX4_takeArrivals_116 : decode cX4_takeArrivals 116 = .ok (.aload_n 0, 1) := by decide +kernel
theorem dX4_takeArrivals_117 : decode cX4_takeArrivals 117 = .ok (.dup, 1) := by decide +kernel
theorem dX4_takeArrivals_118 : decode cX4_takeArrivals 118 = .ok (.getfield 50, 3) := by decide +kernel
theorem dX4_takeArrivals_121 : decode cX4_takeArrivals 121 = .ok (.iconst 1, 1) := by decide +kernel
theorem dX4_takeArrivals_122 : decode cX4_takeArrivals 122 = .ok (.iadd, 1) := by decide +kernel
theorem dX4_takeArrivals_123 : decode cX4_takeArrivals 123 = .ok (.putfield 50, 3) := by decide +kernel
theorem dX4_takeArrivals_126 : decode cX4_takeArrivals 126 = .ok (.goto (-70), 3) := by decide +kernel
theorem dX4_takeArrivals_129 : decode cX4_takeArrivals 129 = .ok (.aload_n 0, 1) := by decide +kernel
theorem dX4_takeArrivals_130 : decode cX4_takeArrivals 130 = .ok (.getfield 50, 3) := by decide +kernel
theorem dX4_takeArrivals_133 : decode cX4_takeArrivals 133 = .ok (.iload_n 2, 1) := by decide +kernel
theorem dX4_takeArrivals_134 : decode cX4_takeArrivals 134 = .ok (.isub, 1) := by decide +kernel
theorem dX4_takeArrivals_135 : decode cX4_takeArrivals 135 = .ok (.ireturn, 1) := by decide +kernel
theorem dX4_dropEmptyOldPath_0 : decode cX4_dropEmptyOldPath 0 = .ok (.aload_n 0, 1) := by decide +kernel
theorem dX4_dropEmptyOldPath_1 : decode cX4_dropEmptyOldPath 1 = .ok (.getfield 41, 3) := by decide +kernel
theorem dX4_dropEmptyOldPath_4 : decode cX4_dropEmptyOldPath 4 = .ok (.iconst (-1), 1) := by decide +kernel
theorem dX4_dropEmptyOldPath_5 : decode cX4_dropEmptyOldPath 5 = .ok (.if_icmp .ne 4, 3) := by decide +kernel
theorem dX4_dropEmptyOldPath_8 : decode cX4_dropEmptyOldPath 8 = .ok (.return_, 1) := by decide +kernel
theorem dX4_dropEmptyOldPath_9 : decode cX4_dropEmptyOldPath 9 = .ok (.aload_n 0, 1) := by decide +kernel
theorem dX4_dropEmptyOldPath_10 : decode cX4_dropEmptyOldPath 10 = .ok (.getfield 50, 3) := by decide +kernel
theorem dX4_dropEmptyOldPath_13 : decode cX4_dropEmptyOldPath 13 = .ok (.istore_n 1, 1) := by decide +kernel
theorem dX4_dropEmptyOldPath_14 : decode cX4_dropEmptyOldPath 14 = .ok (.iload_n 1, 1) := by decide +kernel
theorem dX4_dropEmptyOldPath_15 : decode cX4_dropEmptyOldPath 15 = .ok (.aload_n 0, 1) := by decide +kernel
theorem dX4_dropEmptyOldPath_16 : decode cX4_dropEmptyOldPath 16 = .ok (.getfield 47, 3) := by decide +kernel
theorem dX4_dropEmptyOldPath_19 : decode cX4_dropEmptyOldPath 19 = .ok (.if_icmp .ge 26, 3) := by decide +kernel
theorem dX4_dropEmptyOldPath_22 : decode cX4_dropEmptyOldPath 22 = .ok (.aload_n 0, 1) := by decide +kernel
theorem dX4_dropEmptyOldPath_23 : decode cX4_dropEmptyOldPath 23 = .ok (.getfield 18, 3) := by decide +kernel
theorem dX4_dropEmptyOldPath_26 : decode cX4_dropEmptyOldPath 26 = .ok (.iload_n 1, 1) := by decide +kernel
theorem dX4_dropEmptyOldPath_27 : decode cX4_dropEmptyOldPath 27 = .ok (.invokestatic 80, 3) := by decide +kernel
theorem dX4_dropEmptyOldPath_30 : decode cX4_dropEmptyOldPath 30 = .ok (.iaload, 1) := by decide +kernel
theorem dX4_dropEmptyOldPath_31 : decode cX4_dropEmptyOldPath 31 = .ok (.aload_n 0, 1) := by decide +kernel
theorem dX4_dropEmptyOldPath_32 : decode cX4_dropEmptyOldPath 32 = .ok (.getfield 41, 3) := by decide +kernel
theorem dX4_dropEmptyOldPath_35 : decode cX4_dropEmptyOldPath 35 = .ok (.if_icmp .ne 4, 3) := by decide +kernel
theorem dX4_dropEmptyOldPath_38 : decode cX4_dropEmptyOldPath 38 = .ok (.return_, 1) := by decide +kernel
theorem dX4_dropEmptyOldPath_39 : decode cX4_dropEmptyOldPath 39 = .ok (.iinc 1 1, 3) := by decide +kernel
theorem dX4_dropEmptyOldPath_42 : decode cX4_dropEmptyOldPath 42 = .ok (.goto (-28), 3) := by decide +kernel
theorem dX4_dropEmptyOldPath_45 : decode cX4_dropEmptyOldPath 45 = .ok (.aload_n 0, 1) := by decide +kernel
theorem dX4_dropEmptyOldPath_46 : decode cX4_dropEmptyOldPath 46 = .ok (.iconst (-1), 1) := by decide +kernel
theorem dX4_dropEmptyOldPath_47 : decode cX4_dropEmptyOldPath 47 = .ok (.putfield 41, 3) := by decide +kernel
theorem dX4_dropEmptyOldPath_50 : decode cX4_dropEmptyOldPath 50 = .ok (.return_, 1) := by decide +kernel
theorem dX4_moveMessages_0 : decode cX4_moveMessages 0 = .ok (.iconst 0, 1) := by decide +kernel
theorem dX4_moveMessages_1 : decode cX4_moveMessages 1 = .ok (.istore 4, 2) := by decide +kernel
theorem dX4_moveMessages_3 : decode cX4_moveMessages 3 = .ok (.aload_n 0, 1) := by decide +kernel
theorem dX4_moveMessages_4 : decode cX4_moveMessages 4 = .ok (.getfield 50, 3) := by decide +kernel
theorem dX4_moveMessages_7 : decode cX4_moveMessages 7 = .ok (.istore 5, 2) := by decide +kernel
theorem dX4_moveMessages_9 : decode cX4_moveMessages 9 = .ok (.iload 5, 2) := by decide +kernel
theorem dX4_moveMessages_11 : decode cX4_moveMessages 11 = .ok (.aload_n 0, 1) := by decide +kernel
theorem dX4_moveMessages_12 : decode cX4_moveMessages 12 = .ok (.getfield 47, 3) := by decide +kernel
theorem dX4_moveMessages_15 : decode cX4_moveMessages 15 = .ok (.if_icmp .ge 54, 3) := by decide +kernel
theorem dX4_moveMessages_18 : decode cX4_moveMessages 18 = .ok (.iload 5, 2) := by decide +kernel
theorem dX4_moveMessages_20 : decode cX4_moveMessages 20 = .ok (.invokestatic 80, 3) := by decide +kernel
theorem dX4_moveMessages_23 : decode cX4_moveMessages 23 = .ok (.istore 6, 2) := by decide +kernel
theorem dX4_moveMessages_25 : decode cX4_moveMessages 25 = .ok (.aload_n 0, 1) := by decide +kernel
theorem dX4_moveMessages_26 : decode cX4_moveMessages 26 = .ok (.aload_n 0, 1) := by decide +kernel
theorem dX4_moveMessages_27 : decode cX4_moveMessages 27 = .ok (.getfield 18, 3) := by decide +kernel
theorem dX4_moveMessages_30 : decode cX4_moveMessages 30 = .ok (.iload 6, 2) := by decide +kernel
theorem dX4_moveMessages_32 : decode cX4_moveMessages 32 = .ok (.iaload, 1) := by decide +kernel
theorem dX4_moveMessages_33 : decode cX4_moveMessages 33 = .ok (.iload_n 1, 1) := by decide +kernel
theorem dX4_moveMessages_34 : decode cX4_moveMessages 34 = .ok (.iload_n 2, 1) := by decide +kernel
theorem dX4_moveMessages_35 : decode cX4_moveMessages 35 = .ok (.invokevirtual 84, 3) := by decide +kernel
theorem dX4_moveMessages_38 : decode cX4_moveMessages 38 = .ok (.ifCond .eq 25, 3) := by decide +kernel
theorem dX4_moveMessages_41 : decode cX4_moveMessages 41 = .ok (.aload_n 0, 1) := by decide +kernel
theorem dX4_moveMessages_42 : decode cX4_moveMessages 42 = .ok (.getfield 18, 3) := by decide +kernel
theorem dX4_moveMessages_45 : decode cX4_moveMessages 45 = .ok (.iload 6, 2) := by decide +kernel
theorem dX4_moveMessages_47 : decode cX4_moveMessages 47 = .ok (.aload_n 0, 1) := by decide +kernel
theorem dX4_moveMessages_48 : decode cX4_moveMessages 48 = .ok (.getfield 38, 3) := by decide +kernel
theorem dX4_moveMessages_51 : decode cX4_moveMessages 51 = .ok (.iastore, 1) := by decide +kernel
theorem dX4_moveMessages_52 : decode cX4_moveMessages 52 = .ok (.aload_n 0, 1) := by decide +kernel
theorem dX4_moveMessages_53 : decode cX4_moveMessages 53 = .ok (.getfield 21, 3) := by decide +kernel
theorem dX4_moveMessages_56 : decode cX4_moveMessages 56 = .ok (.iload 6, 2) := by decide +kernel
theorem dX4_moveMessages_58 : decode cX4_moveMessages 58 = .ok (.iload_n 3, 1) := by decide +kernel
theorem dX4_moveMessages_59 : decode cX4_moveMessages 59 = .ok (.iastore, 1) := by decide +kernel
theorem dX4_moveMessages_60 : decode cX4_moveMessages 60 = .ok (.iinc 4 1, 3) := by decide +kernel
theorem dX4_moveMessages_63 : decode cX4_moveMessages 63 = .ok (.iinc 5 1, 3) := by decide +kernel
theorem dX4_moveMessages_66 : decode cX4_moveMessages 66 = .ok (.goto (-57), 3) := by decide +kernel
theorem dX4_moveMessages_69 : decode cX4_moveMessages 69 = .ok (.iload 4, 2) := by decide +kernel
theorem dX4_moveMessages_71 : decode cX4_moveMessages 71 = .ok (.ireturn, 1) := by decide +kernel
theorem dX4_routeUses_0 : decode cX4_routeUses 0 = .ok (.iload_n 1, 1) := by decide +kernel
theorem dX4_routeUses_1 : decode cX4_routeUses 1 = .ok (.bipush 100, 2) := by decide +kernel
theorem dX4_routeUses_3 : decode cX4_routeUses 3 = .ok (.if_icmp .ne 17, 3) := by decide +kernel
theorem dX4_routeUses_6 : decode cX4_routeUses 6 = .ok (.aload_n 0, 1) := by decide +kernel
theorem dX4_routeUses_7 : decode cX4_routeUses 7 = .ok (.getfield 28, 3) := by decide +kernel
theorem dX4_routeUses_10 : decode cX4_routeUses 10 = .ok (.aload_n 0, 1) := by decide +kernel
theorem dX4_routeUses_11 : decode cX4_routeUses 11 = .ok (.getfield 32, 3) := by decide +kernel
theorem dX4_routeUses_14 : decode cX4_routeUses 14 = .ok (.iload_n 2, 1) := by decide +kernel
theorem dX4_routeUses_15 : decode cX4_routeUses 15 = .ok (.iload_n 3, 1) := by decide +kernel
theorem dX4_routeUses_16 : decode cX4_routeUses 16 = .ok (.invokestatic 88, 3) := by decide +kernel
theorem dX4_routeUses_19 : decode cX4_routeUses 19 = .ok (.ireturn, 1) := by decide +kernel
theorem dX4_routeUses_20 : decode cX4_routeUses 20 = .ok (.iload_n 1, 1) := by decide +kernel
theorem dX4_routeUses_21 : decode cX4_routeUses 21 = .ok (.ifCond .lt 33, 3) := by decide +kernel
theorem dX4_routeUses_24 : decode cX4_routeUses 24 = .ok (.aload_n 0, 1) := by decide +kernel
theorem dX4_routeUses_25 : decode cX4_routeUses 25 = .ok (.getfield 28, 3) := by decide +kernel
theorem dX4_routeUses_28 : decode cX4_routeUses 28 = .ok (.iload_n 1, 1) := by decide +kernel
theorem dX4_routeUses_29 : decode cX4_routeUses 29 = .ok (.iload_n 2, 1) := by decide +kernel
theorem dX4_routeUses_30 : decode cX4_routeUses 30 = .ok (.iload_n 3, 1) := by decide +kernel
theorem dX4_routeUses_31 : decode cX4_routeUses 31 = .ok (.invokestatic 88, 3) := by decide +kernel
theorem dX4_routeUses_34 : decode cX4_routeUses 34 = .ok (.ifCond .ne 16, 3) := by decide +kernel
theorem dX4_routeUses_37 : decode cX4_routeUses 37 = .ok (.iload_n 1, 1) := by decide +kernel
theorem dX4_routeUses_38 : decode cX4_routeUses 38 = .ok (.aload_n 0, 1) := by decide +kernel
theorem dX4_routeUses_39 : decode cX4_routeUses 39 = .ok (.getfield 32, 3) := by decide +kernel
theorem dX4_routeUses_42 : decode cX4_routeUses 42 = .ok (.iload_n 2, 1) := by decide +kernel
theorem dX4_routeUses_43 : decode cX4_routeUses 43 = .ok (.iload_n 3, 1) := by decide +kernel
theorem dX4_routeUses_44 : decode cX4_routeUses 44 = .ok (.invokestatic 88, 3) := by decide +kernel
theorem dX4_routeUses_47 : decode cX4_routeUses 47 = .ok (.ifCond .eq 7, 3) := by decide +kernel
theorem dX4_routeUses_50 : decode cX4_routeUses 50 = .ok (.iconst 1, 1) := by decide +kernel
theorem dX4_routeUses_51 : decode cX4_routeUses 51 = .ok (.goto 4, 3) := by decide +kernel
theorem dX4_routeUses_54 : decode cX4_routeUses 54 = .ok (.iconst 0, 1) := by decide +kernel
theorem dX4_routeUses_55 : decode cX4_routeUses 55 = .ok (.ireturn, 1) := by decide +kernel
theorem dX4_samePair_0 : decode cX4_samePair 0 = .ok (.iload_n 0, 1) := by decide +kernel
theorem dX4_samePair_1 : decode cX4_samePair 1 = .ok (.iload_n 2, 1) := by decide +kernel
theorem dX4_samePair_2 : decode cX4_samePair 2 = .ok (.if_icmp .ne 8, 3) := by decide +kernel
theorem dX4_samePair_5 : decode cX4_samePair 5 = .ok (.iload_n 1, 1) := by decide +kernel
theorem dX4_samePair_6 : decode cX4_samePair 6 = .ok (.iload_n 3, 1) := by decide +kernel
theorem dX4_samePair_7 : decode cX4_samePair 7 = .ok (.if_icmp .eq 13, 3) := by decide +kernel
theorem dX4_samePair_10 : decode cX4_samePair 10 = .ok (.iload_n 0, 1) := by decide +kernel
theorem dX4_samePair_11 : decode cX4_samePair 11 = .ok (.iload_n 3, 1) := by decide +kernel
theorem dX4_samePair_12 : decode cX4_samePair 12 = .ok (.if_icmp .ne 12, 3) := by decide +kernel
theorem dX4_samePair_15 : decode cX4_samePair 15 = .ok (.iload_n 1, 1) := by decide +kernel
theorem dX4_samePair_16 : decode cX4_samePair 16 = .ok (.iload_n 2, 1) := by decide +kernel
theorem dX4_samePair_17 : decode cX4_samePair 17 = .ok (.if_icmp .ne 7, 3) := by decide +kernel
theorem dX4_samePair_20 : decode cX4_samePair 20 = .ok (.iconst 1, 1) := by decide +kernel
theorem dX4_samePair_21 : decode cX4_samePair 21 = .ok (.goto 4, 3) := by decide +kernel
theorem dX4_samePair_24 : decode cX4_samePair 24 = .ok (.iconst 0, 1) := by decide +kernel
theorem dX4_samePair_25 : decode cX4_samePair 25 = .ok (.ireturn, 1) := by decide +kernel
theorem dX4_leadsOver_0 : decode cX4_leadsOver 0 = .ok (.aload_n 0, 1) := by decide +kernel
theorem dX4_leadsOver_1 : decode cX4_leadsOver 1 = .ok (.getfield 24, 3) := by decide +kernel
theorem dX4_leadsOver_4 : decode cX4_leadsOver 4 = .ok (.ifCond .eq 23, 3) := by decide +kernel
theorem dX4_leadsOver_7 : decode cX4_leadsOver 7 = .ok (.aload_n 0, 1) := by decide +kernel
theorem dX4_leadsOver_8 : decode cX4_leadsOver 8 = .ok (.getfield 38, 3) := by decide +kernel
theorem dX4_leadsOver_11 : decode cX4_leadsOver 11 = .ok (.iload_n 1, 1) := by decide +kernel
theorem dX4_leadsOver_12 : decode cX4_leadsOver 12 = .ok (.if_icmp .eq 11, 3) := by decide +kernel
theorem dX4_leadsOver_15 : decode cX4_leadsOver 15 = .ok (.aload_n 0, 1) := by decide +kernel
theorem dX4_leadsOver_16 : decode cX4_leadsOver 16 = .ok (.getfield 41, 3) := by decide +kernel
theorem dX4_leadsOver_19 : decode cX4_leadsOver 19 = .ok (.iload_n 1, 1) := by decide +kernel
theorem dX4_leadsOver_20 : decode cX4_leadsOver 20 = .ok (.if_icmp .ne 7, 3) := by decide +kernel
theorem dX4_leadsOver_23 : decode cX4_leadsOver 23 = .ok (.iconst 1, 1) := by decide +kernel
theorem dX4_leadsOver_24 : decode cX4_leadsOver 24 = .ok (.goto 4, 3) := by decide +kernel
theorem dX4_leadsOver_27 : decode cX4_leadsOver 27 = .ok (.iconst 0, 1) := by decide +kernel
theorem dX4_leadsOver_28 : decode cX4_leadsOver 28 = .ok (.ireturn, 1) := by decide +kernel
theorem dX4_countUndelivered_0 : decode cX4_countUndelivered 0 = .ok (.iconst 0, 1) := by decide +kernel
theorem dX4_countUndelivered_1 : decode cX4_countUndelivered 1 = .ok (.istore_n 2, 1) := by decide +kernel
theorem dX4_countUndelivered_2 : decode cX4_countUndelivered 2 = .ok (.aload_n 0, 1) := by decide +kernel
theorem dX4_countUndelivered_3 : decode cX4_countUndelivered 3 = .ok (.getfield 50, 3) := by decide +kernel
theorem dX4_countUndelivered_6 : decode cX4_countUndelivered 6 = .ok (.istore_n 3, 1) := by decide +kernel
theorem dX4_countUndelivered_7 : decode cX4_countUndelivered 7 = .ok (.iload_n 3, 1) := by decide +kernel
theorem dX4_countUndelivered_8 : decode cX4_countUndelivered 8 = .ok (.aload_n 0, 1) := by decide +kernel
theorem dX4_countUndelivered_9 : decode cX4_countUndelivered 9 = .ok (.getfield 47, 3) := by decide +kernel
theorem dX4_countUndelivered_12 : decode cX4_countUndelivered 12 = .ok (.if_icmp .ge 28, 3) := by decide +kernel
theorem dX4_countUndelivered_15 : decode cX4_countUndelivered 15 = .ok (.aload_n 0, 1) := by decide +kernel
theorem dX4_countUndelivered_16 : decode cX4_countUndelivered 16 = .ok (.getfield 18, 3) := by decide +kernel
theorem dX4_countUndelivered_19 : decode cX4_countUndelivered 19 = .ok (.iload_n 3, 1) := by decide +kernel
theorem dX4_countUndelivered_20 : decode cX4_countUndelivered 20 = .ok (.invokestatic 80, 3) := by decide +kernel
theorem dX4_countUndelivered_23 : decode cX4_countUndelivered 23 = .ok (.iaload, 1) := by decide +kernel
theorem dX4_countUndelivered_24 : decode cX4_countUndelivered 24 = .ok (.invokestatic 92, 3) := by decide +kernel
theorem dX4_countUndelivered_27 : decode cX4_countUndelivered 27 = .ok (.iload_n 1, 1) := by decide +kernel
theorem dX4_countUndelivered_28 : decode cX4_countUndelivered 28 = .ok (.if_icmp .ne 6, 3) := by decide +kernel
theorem dX4_countUndelivered_31 : decode cX4_countUndelivered 31 = .ok (.iinc 2 1, 3) := by decide +kernel
theorem dX4_countUndelivered_34 : decode cX4_countUndelivered 34 = .ok (.iinc 3 1, 3) := by decide +kernel
theorem dX4_countUndelivered_37 : decode cX4_countUndelivered 37 = .ok (.goto (-30), 3) := by decide +kernel
theorem dX4_countUndelivered_40 : decode cX4_countUndelivered 40 = .ok (.iload_n 2, 1) := by decide +kernel
theorem dX4_countUndelivered_41 : decode cX4_countUndelivered 41 = .ok (.ireturn, 1) := by decide +kernel
theorem dX4_stateOf_0 : decode cX4_stateOf 0 = .ok (.iload_n 0, 1) := by decide +kernel
theorem dX4_stateOf_1 : decode cX4_stateOf 1 = .ok (.iconst (-1), 1) := by decide +kernel
theorem dX4_stateOf_2 : decode cX4_stateOf 2 = .ok (.if_icmp .ne 5, 3) := by decide +kernel
theorem dX4_stateOf_5 : decode cX4_stateOf 5 = .ok (.iconst 0, 1) := by decide +kernel
theorem dX4_stateOf_6 : decode cX4_stateOf 6 = .ok (.ireturn, 1) := by decide +kernel
theorem dX4_stateOf_7 : decode cX4_stateOf 7 = .ok (.iload_n 0, 1) := by decide +kernel
theorem dX4_stateOf_8 : decode cX4_stateOf 8 = .ok (.bipush (-2), 2) := by decide +kernel
theorem dX4_stateOf_10 : decode cX4_stateOf 10 = .ok (.if_icmp .ne 7, 3) := by decide +kernel
theorem dX4_stateOf_13 : decode cX4_stateOf 13 = .ok (.iconst 2, 1) := by decide +kernel
theorem dX4_stateOf_14 : decode cX4_stateOf 14 = .ok (.goto 4, 3) := by decide +kernel
theorem dX4_stateOf_17 : decode cX4_stateOf 17 = .ok (.iconst 1, 1) := by decide +kernel
theorem dX4_stateOf_18 : decode cX4_stateOf 18 = .ok (.ireturn, 1) := by decide +kernel
theorem dX4_firstNeededKey_0 : decode cX4_firstNeededKey 0 = .ok (.aload_n 0, 1) := by decide +kernel
theorem dX4_firstNeededKey_1 : decode cX4_firstNeededKey 1 = .ok (.getfield 50, 3) := by decide +kernel
theorem dX4_firstNeededKey_4 : decode cX4_firstNeededKey 4 = .ok (.aload_n 0, 1) := by decide +kernel
theorem dX4_firstNeededKey_5 : decode cX4_firstNeededKey 5 = .ok (.getfield 47, 3) := by decide +kernel
theorem dX4_firstNeededKey_8 : decode cX4_firstNeededKey 8 = .ok (.if_icmp .ge 18, 3) := by decide +kernel
theorem dX4_firstNeededKey_11 : decode cX4_firstNeededKey 11 = .ok (.aload_n 0, 1) := by decide +kernel
theorem dX4_firstNeededKey_12 : decode cX4_firstNeededKey 12 = .ok (.getfield 15, 3) := by decide +kernel
theorem dX4_firstNeededKey_15 : decode cX4_firstNeededKey 15 = .ok (.aload_n 0, 1) := by decide +kernel
theorem dX4_firstNeededKey_16 : decode cX4_firstNeededKey 16 = .ok (.getfield 50, 3) := by decide +kernel
theorem dX4_firstNeededKey_19 : decode cX4_firstNeededKey 19 = .ok (.invokestatic 80, 3) := by decide +kernel
theorem dX4_firstNeededKey_22 : decode cX4_firstNeededKey 22 = .ok (.iaload, 1) := by decide +kernel
theorem dX4_firstNeededKey_23 : decode cX4_firstNeededKey 23 = .ok (.goto 7, 3) := by decide +kernel
theorem dX4_firstNeededKey_26 : decode cX4_firstNeededKey 26 = .ok (.aload_n 0, 1) := by decide +kernel
theorem dX4_firstNeededKey_27 : decode cX4_firstNeededKey 27 = .ok (.getfield 53, 3) := by decide +kernel
theorem dX4_firstNeededKey_30 : decode cX4_firstNeededKey 30 = .ok (.ireturn, 1) := by decide +kernel
theorem dX5_init_0 : decode cX5_init 0 = .ok (.aload_n 0, 1) := by decide +kernel
theorem dX5_init_1 : decode cX5_init 1 = .ok (.invokespecial 3, 3) := by decide +kernel
theorem dX5_init_4 : decode cX5_init 4 = .ok (.aload_n 0, 1) := by decide +kernel
theorem dX5_init_5 : decode cX5_init 5 = .ok (.bipush 8, 2) := by decide +kernel
theorem dX5_init_7 : decode cX5_init 7 = .ok (.newarray .int, 2) := by decide +kernel
theorem dX5_init_9 : decode cX5_init 9 = .ok (.putfield 9, 3) := by decide +kernel
theorem dX5_init_12 : decode cX5_init 12 = .ok (.aload_n 0, 1) := by decide +kernel
theorem dX5_init_13 : decode cX5_init 13 = .ok (.bipush 8, 2) := by decide +kernel
theorem dX5_init_15 : decode cX5_init 15 = .ok (.newarray .int, 2) := by decide +kernel
theorem dX5_init_17 : decode cX5_init 17 = .ok (.putfield 15, 3) := by decide +kernel
theorem dX5_init_20 : decode cX5_init 20 = .ok (.aload_n 0, 1) := by decide +kernel
theorem dX5_init_21 : decode cX5_init 21 = .ok (.bipush 6, 2) := by decide +kernel
theorem dX5_init_23 : decode cX5_init 23 = .ok (.anewarray 18, 3) := by decide +kernel
theorem dX5_init_26 : decode cX5_init 26 = .ok (.putfield 20, 3) := by decide +kernel
theorem dX5_init_29 : decode cX5_init 29 = .ok (.iconst 0, 1) := by decide +kernel
theorem dX5_init_30 : decode cX5_init 30 = .ok (.istore_n 1, 1) := by decide +kernel
theorem dX5_init_31 : decode cX5_init 31 = .ok (.iload_n 1, 1) := by decide +kernel
theorem dX5_init_32 : decode cX5_init 32 = .ok (.bipush 6, 2) := by decide +kernel
theorem dX5_init_34 : decode cX5_init 34 = .ok (.if_icmp .ge 22, 3) := by decide +kernel
theorem dX5_init_37 : decode cX5_init 37 = .ok (.aload_n 0, 1) := by decide +kernel
theorem dX5_init_38 : decode cX5_init 38 = .ok (.getfield 20, 3) := by decide +kernel
theorem dX5_init_41 : decode cX5_init 41 = .ok (.iload_n 1, 1) := by decide +kernel
theorem dX5_init_42 : decode cX5_init 42 = .ok (.new 18, 3) := by decide +kernel
theorem dX5_init_45 : decode cX5_init 45 = .ok (.dup, 1) := by decide +kernel
theorem dX5_init_46 : decode cX5_init 46 = .ok (.invokespecial 24, 3) := by decide +kernel
theorem dX5_init_49 : decode cX5_init 49 = .ok (.aastore, 1) := by decide +kernel
theorem dX5_init_50 : decode cX5_init 50 = .ok (.iinc 1 1, 3) := by decide +kernel
theorem dX5_init_53 : decode cX5_init 53 = .ok (.goto (-22), 3) := by decide +kernel
theorem dX5_init_56 : decode cX5_init 56 = .ok (.return_, 1) := by decide +kernel
theorem dX5_copyFrom_0 : decode cX5_copyFrom 0 = .ok (.aload_n 0, 1) := by decide +kernel
theorem dX5_copyFrom_1 : decode cX5_copyFrom 1 = .ok (.aload_n 1, 1) := by decide +kernel
theorem dX5_copyFrom_2 : decode cX5_copyFrom 2 = .ok (.getfield 25, 3) := by decide +kernel
theorem dX5_copyFrom_5 : decode cX5_copyFrom 5 = .ok (.putfield 25, 3) := by decide +kernel
theorem dX5_copyFrom_8 : decode cX5_copyFrom 8 = .ok (.aload_n 1, 1) := by decide +kernel
theorem dX5_copyFrom_9 : decode cX5_copyFrom 9 = .ok (.getfield 9, 3) := by decide +kernel
theorem dX5_copyFrom_12 : decode cX5_copyFrom 12 = .ok (.iconst 0, 1) := by decide +kernel
theorem dX5_copyFrom_13 : decode cX5_copyFrom 13 = .ok (.aload_n 0, 1) := by decide +kernel
theorem dX5_copyFrom_14 : decode cX5_copyFrom 14 = .ok (.getfield 9, 3) := by decide +kernel
theorem dX5_copyFrom_17 : decode cX5_copyFrom 17 = .ok (.iconst 0, 1) := by decide +kernel
theorem dX5_copyFrom_18 : decode cX5_copyFrom 18 = .ok (.bipush 8, 2) := by decide +kernel
theorem dX5_copyFrom_20 : decode cX5_copyFrom 20 = .ok (.invokestatic 29, 3) := by decide +kernel
theorem dX5_copyFrom_23 : decode cX5_copyFrom 23 = .ok (.aload_n 1, 1) := by decide +kernel
theorem dX5_copyFrom_24 : decode cX5_copyFrom 24 = .ok (.getfield 15, 3) := by decide +kernel
theorem dX5_copyFrom_27 : decode cX5_copyFrom 27 = .ok (.iconst 0, 1) := by decide +kernel
theorem dX5_copyFrom_28 : decode cX5_copyFrom 28 = .ok (.aload_n 0, 1) := by decide +kernel
theorem dX5_copyFrom_29 : decode cX5_copyFrom 29 = .ok (.getfield 15, 3) := by decide +kernel
theorem dX5_copyFrom_32 : decode cX5_copyFrom 32 = .ok (.iconst 0, 1) := by decide +kernel
theorem dX5_copyFrom_33 : decode cX5_copyFrom 33 = .ok (.bipush 8, 2) := by decide +kernel
theorem dX5_copyFrom_35 : decode cX5_copyFrom 35 = .ok (.invokestatic 29, 3) := by decide +kernel
theorem dX5_copyFrom_38 : decode cX5_copyFrom 38 = .ok (.iconst 0, 1) := by decide +kernel
theorem dX5_copyFrom_39 : decode cX5_copyFrom 39 = .ok (.istore_n 2, 1) := by decide +kernel
theorem dX5_copyFrom_40 : decode cX5_copyFrom 40 = .ok (.iload_n 2, 1) := by decide +kernel
theorem dX5_copyFrom_41 : decode cX5_copyFrom 41 = .ok (.bipush 6, 2) := by decide +kernel
theorem dX5_copyFrom_43 : decode cX5_copyFrom 43 = .ok (.if_icmp .ge 24, 3) := by decide +kernel
theorem dX5_copyFrom_46 : decode cX5_copyFrom 46 = .ok (.aload_n 0, 1) := by decide +kernel
theorem dX5_copyFrom_47 : decode cX5_copyFrom 47 = .ok (.getfield 20, 3) := by decide +kernel
theorem dX5_copyFrom_50 : decode cX5_copyFrom 50 = .ok (.iload_n 2, 1) := by decide +kernel
theorem dX5_copyFrom_51 : decode cX5_copyFrom 51 = .ok (.aaload, 1) := by decide +kernel
theorem dX5_copyFrom_52 : decode cX5_copyFrom 52 = .ok (.aload_n 1, 1) := by decide +kernel
theorem dX5_copyFrom_53 : decode cX5_copyFrom 53 = .ok (.getfield 20, 3) := by decide +kernel
theorem dX5_copyFrom_56 : decode cX5_copyFrom 56 = .ok (.iload_n 2, 1) := by decide +kernel
theorem dX5_copyFrom_57 : decode cX5_copyFrom 57 = .ok (.aaload, 1) := by decide +kernel
theorem dX5_copyFrom_58 : decode cX5_copyFrom 58 = .ok (.invokevirtual 35, 3) := by decide +kernel
theorem dX5_copyFrom_61 : decode cX5_copyFrom 61 = .ok (.iinc 2 1, 3) := by decide +kernel
theorem dX5_copyFrom_64 : decode cX5_copyFrom 64 = .ok (.goto (-24), 3) := by decide +kernel
theorem dX5_copyFrom_67 : decode cX5_copyFrom 67 = .ok (.return_, 1) := by decide +kernel
theorem dX5_beginWith_0 : decode cX5_beginWith 0 = .ok (.aload_n 0, 1) := by decide +kernel
theorem dX5_beginWith_1 : decode cX5_beginWith 1 = .ok (.iconst 0, 1) := by decide +kernel
theorem dX5_beginWith_2 : decode cX5_beginWith 2 = .ok (.putfield 25, 3) := by decide +kernel
theorem dX5_beginWith_5 : decode cX5_beginWith 5 = .ok (.iconst 0, 1) := by decide +kernel
theorem dX5_beginWith_6 : decode cX5_beginWith 6 = .ok (.istore_n 2, 1) := by decide +kernel
theorem dX5_beginWith_7 : decode cX5_beginWith 7 = .ok (.iload_n 2, 1) := by decide +kernel
theorem dX5_beginWith_8 : decode cX5_beginWith 8 = .ok (.bipush 8, 2) := by decide +kernel
theorem dX5_beginWith_10 : decode cX5_beginWith 10 = .ok (.if_icmp .ge 63, 3) := by decide +kernel
theorem dX5_beginWith_13 : decode cX5_beginWith 13 = .ok (.aload_n 0, 1) := by decide +kernel
theorem dX5_beginWith_14 : decode cX5_beginWith 14 = .ok (.getfield 15, 3) := by decide +kernel
theorem dX5_beginWith_17 : decode cX5_beginWith 17 = .ok (.iload_n 2, 1) := by decide +kernel
theorem dX5_beginWith_18 : decode cX5_beginWith 18 = .ok (.aload_n 1, 1) := by decide +kernel
theorem dX5_beginWith_19 : decode cX5_beginWith 19 = .ok (.getfield 39, 3) := by decide +kernel
theorem dX5_beginWith_22 : decode cX5_beginWith 22 = .ok (.iload_n 2, 1) := by decide +kernel
theorem dX5_beginWith_23 : decode cX5_beginWith 23 = .ok (.iaload, 1) := by decide +kernel
theorem dX5_beginWith_24 : decode cX5_beginWith 24 = .ok (.iastore, 1) := by decide +kernel
theorem dX5_beginWith_25 : decode cX5_beginWith 25 = .ok (.aload_n 0, 1) := by decide +kernel
theorem dX5_beginWith_26 : decode cX5_beginWith 26 = .ok (.getfield 9, 3) := by decide +kernel
theorem dX5_beginWith_29 : decode cX5_beginWith 29 = .ok (.iload_n 2, 1) := by decide +kernel
theorem dX5_beginWith_30 : decode cX5_beginWith 30 = .ok (.iconst 0, 1) := by decide +kernel
theorem dX5_beginWith_31 : decode cX5_beginWith 31 = .ok (.iastore, 1) := by decide +kernel
theorem dX5_beginWith_32 : decode cX5_beginWith 32 = .ok (.iconst 0, 1) := by decide +kernel
theorem dX5_beginWith_33 : decode cX5_beginWith 33 = .ok (.istore_n 3, 1) := by decide +kernel
theorem dX5_beginWith_34 : decode cX5_beginWith 34 = .ok (.iload_n 3, 1) := by decide +kernel
theorem dX5_beginWith_35 : decode cX5_beginWith 35 = .ok (.bipush 8, 2) := by decide +kernel
theorem dX5_beginWith_37 : decode cX5_beginWith 37 = .ok (.if_icmp .ge 30, 3) := by decide +kernel
theorem dX5_beginWith_40 : decode cX5_beginWith 40 = .ok (.aload_n 1, 1) := by decide +kernel
theorem dX5_beginWith_41 : decode cX5_beginWith 41 = .ok (.iload_n 2, 1) := by decide +kernel
theorem dX5_beginWith_42 : decode cX5_beginWith 42 = .ok (.iload_n 3, 1) := by decide +kernel
theorem dX5_beginWith_43 : decode cX5_beginWith 43 = .ok (.invokevirtual 42, 3) := by decide +kernel
theorem dX5_beginWith_46 : decode cX5_beginWith 46 = .ok (.ifCond .eq 15, 3) := by decide +kernel
theorem dX5_beginWith_49 : decode cX5_beginWith 49 = .ok (.aload_n 0, 1) := by decide +kernel
theorem dX5_beginWith_50 : decode cX5_beginWith 50 = .ok (.getfield 9, 3) := by decide +kernel
theorem dX5_beginWith_53 : decode cX5_beginWith 53 = .ok (.iload_n 2, 1) := by decide +kernel
theorem dX5_beginWith_54 : decode cX5_beginWith 54 = .ok (.dup2, 1) := by decide +kernel
theorem dX5_beginWith_55 : decode cX5_beginWith 55 = .ok (.iaload, 1) := by decide +kernel
theorem dX5_beginWith_56 : decode cX5_beginWith 56 = .ok (.iconst 1, 1) := by decide +kernel
theorem dX5_beginWith_57 : decode cX5_beginWith 57 = .ok (.iload_n 3, 1) := by decide +kernel
theorem dX5_beginWith_58 : decode cX5_beginWith 58 = .ok (.ishl, 1) := by decide +kernel
theorem dX5_beginWith_59 : decode cX5_beginWith 59 = .ok (.ior, 1) := by decide +kernel
theorem dX5_beginWith_60 : decode cX5_beginWith 60 = .ok (.iastore, 1) := by decide +kernel
theorem dX5_beginWith_61 : decode cX5_beginWith 61 = .ok (.iinc 3 1, 3) := by decide +kernel
theorem dX5_beginWith_64 : decode cX5_beginWith 64 = .ok (.goto (-30), 3) := by decide +kernel
theorem dX5_beginWith_67 : decode cX5_beginWith 67 = .ok (.iinc 2 1, 3) := by decide +kernel
theorem dX5_beginWith_70 : decode cX5_beginWith 70 = .ok (.goto (-63), 3) := by decide +kernel
theorem dX5_beginWith_73 : decode cX5_beginWith 73 = .ok (.iconst 0, 1) := by decide +kernel
theorem dX5_beginWith_74 : decode cX5_beginWith 74 = .ok (.istore_n 2, 1) := by decide +kernel
theorem dX5_beginWith_75 : decode cX5_beginWith 75 = .ok (.iload_n 2, 1) := by decide +kernel
theorem dX5_beginWith_76 : decode cX5_beginWith 76 = .ok (.bipush 6, 2) := by decide +kernel
theorem dX5_beginWith_78 : decode cX5_beginWith 78 = .ok (.if_icmp .ge 19, 3) := by decide +kernel
theorem dX5_beginWith_81 : decode cX5_beginWith 81 = .ok (.aload_n 0, 1) := by decide +kernel
theorem dX5_beginWith_82 : decode cX5_beginWith 82 = .ok (.getfield 20, 3) := by decide +kernel
theorem dX5_beginWith_85 : decode cX5_beginWith 85 = .ok (.iload_n 2, 1) := by decide +kernel
theorem dX5_beginWith_86 : decode cX5_beginWith 86 = .ok (.aaload, 1) := by decide +kernel
theorem dX5_beginWith_87 : decode cX5_beginWith 87 = .ok (.iconst 0, 1) := by decide +kernel
theorem dX5_beginWith_88 : decode cX5_beginWith 88 = .ok (.putfield 46, 3) := by decide +kernel
theorem dX5_beginWith_91 : decode cX5_beginWith 91 = .ok (.iinc 2 1, 3) := by decide +kernel
theorem dX5_beginWith_94 : decode cX5_beginWith 94 = .ok (.goto (-19), 3) := by decide +kernel
theorem dX5_beginWith_97 : decode cX5_beginWith 97 = .ok (.return_, 1) := by decide +kernel
theorem dX5_acquainted_0 : decode cX5_acquainted 0 = .ok (.aload_n 0, 1) := by decide +kernel
theorem dX5_acquainted_1 : decode cX5_acquainted 1 = .ok (.getfield 15, 3) := by decide +kernel
theorem dX5_acquainted_4 : decode cX5_acquainted 4 = .ok (.iload_n 1, 1) := by decide +kernel
theorem dX5_acquainted_5 : decode cX5_acquainted 5 = .ok (.iaload, 1) := by decide +kernel
theorem dX5_acquainted_6 : decode cX5_acquainted 6 = .ok (.iload_n 2, 1) := by decide +kernel
theorem dX5_acquainted_7 : decode cX5_acquainted 7 = .ok (.ishr, 1) := by decide +kernel
theorem dX5_acquainted_8 : decode cX5_acquainted 8 = .ok (.iconst 1, 1) := by decide +kernel
theorem dX5_acquainted_9 : decode cX5_acquainted 9 = .ok (.iand, 1) := by decide +kernel
theorem dX5_acquainted_10 : decode cX5_acquainted 10 = .ok (.ifCond .eq 7, 3) := by decide +kernel
theorem dX5_acquainted_13 : decode cX5_acquainted 13 = .ok (.iconst 1, 1) := by decide +kernel
theorem dX5_acquainted_14 : decode cX5_acquainted 14 = .ok (.goto 4, 3) := by decide +kernel
theorem dX5_acquainted_17 : decode cX5_acquainted 17 = .ok (.iconst 0, 1) := by decide +kernel
theorem dX5_acquainted_18 : decode cX5_acquainted 18 = .ok (.ireturn, 1) := by decide +kernel
theorem dX5_acquaint_0 : decode cX5_acquaint 0 = .ok (.aload_n 0, 1) := by decide +kernel
theorem dX5_acquaint_1 : decode cX5_acquaint 1 = .ok (.getfield 15, 3) := by decide +kernel
theorem dX5_acquaint_4 : decode cX5_acquaint 4 = .ok (.iload_n 1, 1) := by decide +kernel
theorem dX5_acquaint_5 : decode cX5_acquaint 5 = .ok (.dup2, 1) := by decide +kernel
theorem dX5_acquaint_6 : decode cX5_acquaint 6 = .ok (.iaload, 1) := by decide +kernel
theorem dX5_acquaint_7 : decode cX5_acquaint 7 = .ok (.iconst 1, 1) := by decide +kernel
theorem dX5_acquaint_8 : decode cX5_acquaint 8 = .ok (.iload_n 2, 1) := by decide +kernel
theorem dX5_acquaint_9 : decode cX5_acquaint 9 = .ok (.ishl, 1) := by decide +kernel
theorem dX5_acquaint_10 : decode cX5_acquaint 10 = .ok (.ior, 1) := by decide +kernel
theorem dX5_acquaint_11 : decode cX5_acquaint 11 = .ok (.iastore, 1) := by decide +kernel
theorem dX5_acquaint_12 : decode cX5_acquaint 12 = .ok (.aload_n 0, 1) := by decide +kernel
theorem dX5_acquaint_13 : decode cX5_acquaint 13 = .ok (.getfield 15, 3) := by decide +kernel
theorem dX5_acquaint_16 : decode cX5_acquaint 16 = .ok (.iload_n 2, 1) := by decide +kernel
theorem dX5_acquaint_17 : decode cX5_acquaint 17 = .ok (.dup2, 1) := by decide +kernel
theorem dX5_acquaint_18 : decode cX5_acquaint 18 = .ok (.iaload, 1) := by decide +kernel
theorem dX5_acquaint_19 : decode cX5_acquaint 19 = .ok (.iconst 1, 1) := by decide +kernel
theorem dX5_acquaint_20 : decode cX5_acquaint 20 = .ok (.iload_n 1, 1) := by decide +kernel
theorem dX5_acquaint_21 : decode cX5_acquaint 21 = .ok (.ishl, 1) := by decide +kernel
theorem dX5_acquaint_22 : decode cX5_acquaint 22 = .ok (.ior, 1) := by decide +kernel
theorem dX5_acquaint_23 : decode cX5_acquaint 23 = .ok (.iastore, 1) := by decide +kernel
theorem dX5_acquaint_24 : decode cX5_acquaint 24 = .ok (.return_, 1) := by decide +kernel
theorem dX5_linkIsUp_0 : decode cX5_linkIsUp 0 = .ok (.aload_n 0, 1) := by decide +kernel
theorem dX5_linkIsUp_1 : decode cX5_linkIsUp 1 = .ok (.getfield 9, 3) := by decide +kernel
theorem dX5_linkIsUp_4 : decode cX5_linkIsUp 4 = .ok (.iload_n 1, 1) := by decide +kernel
theorem dX5_linkIsUp_5 : decode cX5_linkIsUp 5 = .ok (.iaload, 1) := by decide +kernel
theorem dX5_linkIsUp_6 : decode cX5_linkIsUp 6 = .ok (.iload_n 2, 1) := by decide +kernel
theorem dX5_linkIsUp_7 : decode cX5_linkIsUp 7 = .ok (.ishr, 1) := by decide +kernel
theorem dX5_linkIsUp_8 : decode cX5_linkIsUp 8 = .ok (.iconst 1, 1) := by decide +kernel
theorem dX5_linkIsUp_9 : decode cX5_linkIsUp 9 = .ok (.iand, 1) := by decide +kernel
theorem dX5_linkIsUp_10 : decode cX5_linkIsUp 10 = .ok (.ifCond .eq 7, 3) := by decide +kernel
theorem dX5_linkIsUp_13 : decode cX5_linkIsUp 13 = .ok (.iconst 1, 1) := by decide +kernel
theorem dX5_linkIsUp_14 : decode cX5_linkIsUp 14 = .ok (.goto 4, 3) := by decide +kernel
theorem dX5_linkIsUp_17 : decode cX5_linkIsUp 17 = .ok (.iconst 0, 1) := by decide +kernel
theorem dX5_linkIsUp_18 : decode cX5_linkIsUp 18 = .ok (.ireturn, 1) := by decide +kernel
theorem dX5_turnLink_0 : decode cX5_turnLink 0 = .ok (.aload_n 0, 1) := by decide +kernel
theorem dX5_turnLink_1 : decode cX5_turnLink 1 = .ok (.getfield 9, 3) := by decide +kernel
theorem dX5_turnLink_4 : decode cX5_turnLink 4 = .ok (.iload_n 1, 1) := by decide +kernel
theorem dX5_turnLink_5 : decode cX5_turnLink 5 = .ok (.dup2, 1) := by decide +kernel
theorem dX5_turnLink_6 : decode cX5_turnLink 6 = .ok (.iaload, 1) := by decide +kernel
theorem dX5_turnLink_7 : decode cX5_turnLink 7 = .ok (.iconst 1, 1) := by decide +kernel
theorem dX5_turnLink_8 : decode cX5_turnLink 8 = .ok (.iload_n 2, 1) := by decide +kernel
theorem dX5_turnLink_9 : decode cX5_turnLink 9 = .ok (.ishl, 1) := by decide +kernel
theorem dX5_turnLink_10 : decode cX5_turnLink 10 = .ok (.ixor, 1) := by decide +kernel
theorem dX5_turnLink_11 : decode cX5_turnLink 11 = .ok (.iastore, 1) := by decide +kernel
theorem dX5_turnLink_12 : decode cX5_turnLink 12 = .ok (.aload_n 0, 1) := by decide +kernel
theorem dX5_turnLink_13 : decode cX5_turnLink 13 = .ok (.getfield 9, 3) := by decide +kernel
theorem dX5_turnLink_16 : decode cX5_turnLink 16 = .ok (.iload_n 2, 1) := by decide +kernel
theorem dX5_turnLink_17 : decode cX5_turnLink 17 = .ok (.dup2, 1) := by decide +kernel
theorem dX5_turnLink_18 : decode cX5_turnLink 18 = .ok (.iaload, 1) := by decide +kernel
theorem dX5_turnLink_19 : decode cX5_turnLink 19 = .ok (.iconst 1, 1) := by decide +kernel
theorem dX5_turnLink_20 : decode cX5_turnLink 20 = .ok (.iload_n 1, 1) := by decide +kernel
theorem dX5_turnLink_21 : decode cX5_turnLink 21 = .ok (.ishl, 1) := by decide +kernel
theorem dX5_turnLink_22 : decode cX5_turnLink 22 = .ok (.ixor, 1) := by decide +kernel
theorem dX5_turnLink_23 : decode cX5_turnLink 23 = .ok (.iastore, 1) := by decide +kernel
theorem dX5_turnLink_24 : decode cX5_turnLink 24 = .ok (.return_, 1) := by decide +kernel
theorem dX5_stepsBetween_0 : decode cX5_stepsBetween 0 = .ok (.iconst 1, 1) := by decide +kernel
theorem dX5_stepsBetween_1 : decode cX5_stepsBetween 1 = .ok (.iload_n 1, 1) := by decide +kernel
theorem dX5_stepsBetween_2 : decode cX5_stepsBetween 2 = .ok (.ishl, 1) := by decide +kernel
theorem dX5_stepsBetween_3 : decode cX5_stepsBetween 3 = .ok (.istore_n 3, 1) := by decide +kernel
theorem dX5_stepsBetween_4 : decode cX5_stepsBetween 4 = .ok (.iconst 1, 1) := by decide +kernel
theorem dX5_stepsBetween_5 : decode cX5_stepsBetween 5 = .ok (.istore 4, 2) := by decide +kernel
theorem dX5_stepsBetween_7 : decode cX5_stepsBetween 7 = .ok (.iload 4, 2) := by decide +kernel
theorem dX5_stepsBetween_9 : decode cX5_stepsBetween 9 = .ok (.bipush 8, 2) := by decide +kernel
theorem dX5_stepsBetween_11 : decode cX5_stepsBetween 11 = .ok (.if_icmp .ge 63, 3) := by decide +kernel
theorem dX5_stepsBetween_14 : decode cX5_stepsBetween 14 = .ok (.iload_n 3, 1) := by decide +kernel
theorem dX5_stepsBetween_15 : decode cX5_stepsBetween 15 = .ok (.istore 5, 2) := by decide +kernel
theorem dX5_stepsBetween_17 : decode cX5_stepsBetween 17 = .ok (.iconst 0, 1) := by decide +kernel
theorem dX5_stepsBetween_18 : decode cX5_stepsBetween 18 = .ok (.istore 6, 2) := by decide +kernel
theorem dX5_stepsBetween_20 : decode cX5_stepsBetween 20 = .ok (.iload 6, 2) := by decide +kernel
theorem dX5_stepsBetween_22 : decode cX5_stepsBetween 22 = .ok (.bipush 8, 2) := by decide +kernel
theorem dX5_stepsBetween_24 : decode cX5_stepsBetween 24 = .ok (.if_icmp .ge 30, 3) := by decide +kernel
theorem dX5_stepsBetween_27 : decode cX5_stepsBetween 27 = .ok (.iload_n 3, 1) := by decide +kernel
theorem dX5_stepsBetween_28 : decode cX5_stepsBetween 28 = .ok (.iload 6, 2) := by decide +kernel
theorem dX5_stepsBetween_30 : decode cX5_stepsBetween 30 = .ok (.ishr, 1) := by decide +kernel
theorem dX5_stepsBetween_31 : decode cX5_stepsBetween 31 = .ok (.iconst 1, 1) := by decide +kernel
theorem dX5_stepsBetween_32 : decode cX5_stepsBetween 32 = .ok (.iand, 1) := by decide +kernel
theorem dX5_stepsBetween_33 : decode cX5_stepsBetween 33 = .ok (.ifCond .eq 15, 3) := by decide +kernel
theorem dX5_stepsBetween_36 : decode cX5_stepsBetween 36 = .ok (.iload 5, 2) := by decide +kernel
theorem dX5_stepsBetween_38 : decode cX5_stepsBetween 38 = .ok (.aload_n 0, 1) := by decide +kernel
theorem dX5_stepsBetween_39 : decode cX5_stepsBetween 39 = .ok (.getfield 15, 3) := by decide +kernel
theorem dX5_stepsBetween_42 : decode cX5_stepsBetween 42 = .ok (.iload 6, 2) := by decide +kernel
theorem dX5_stepsBetween_44 : decode cX5_stepsBetween 44 = .ok (.iaload, 1) := by decide +kernel
theorem dX5_stepsBetween_45 : decode cX5_stepsBetween 45 = .ok (.ior, 1) := by decide +kernel
theorem dX5_stepsBetween_46 : decode cX5_stepsBetween 46 = .ok (.istore 5, 2) := by decide +kernel
theorem dX5_stepsBetween_48 : decode cX5_stepsBetween 48 = .ok (.iinc 6 1, 3) := by decide +kernel
theorem dX5_stepsBetween_51 : decode cX5_stepsBetween 51 = .ok (.goto (-31), 3) := by decide +kernel
theorem dX5_stepsBetween_54 : decode cX5_stepsBetween 54 = .ok (.iload 5, 2) := by decide +kernel
theorem dX5_stepsBetween_56 : decode cX5_stepsBetween 56 = .ok (.istore_n 3, 1) := by decide +kernel
theorem dX5_stepsBetween_57 : decode cX5_stepsBetween 57 = .ok (.iload_n 3, 1) := by decide +kernel
theorem dX5_stepsBetween_58 : decode cX5_stepsBetween 58 = .ok (.iload_n 2, 1) := by decide +kernel
theorem dX5_stepsBetween_59 : decode cX5_stepsBetween 59 = .ok (.ishr, 1) := by decide +kernel
theorem dX5_stepsBetween_60 : decode cX5_stepsBetween 60 = .ok (.iconst 1, 1) := by decide +kernel
theorem dX5_stepsBetween_61 : decode cX5_stepsBetween 61 = .ok (.iand, 1) := by decide +kernel
theorem dX5_stepsBetween_62 : decode cX5_stepsBetween 62 = .ok (.ifCond .eq 6, 3) := by decide +kernel
theorem dX5_stepsBetween_65 : decode cX5_stepsBetween 65 = .ok (.iload 4, 2) := by decide +kernel
theorem dX5_stepsBetween_67 : decode cX5_stepsBetween 67 = .ok (.ireturn, 1) := by decide +kernel
theorem dX5_stepsBetween_68 : decode cX5_stepsBetween 68 = .ok (.iinc 4 1, 3) := by decide +kernel
theorem dX5_stepsBetween_71 : decode cX5_stepsBetween 71 = .ok (.goto (-64), 3) := by decide +kernel
theorem dX5_stepsBetween_74 : decode cX5_stepsBetween 74 = .ok (.iconst (-1), 1) := by decide +kernel
theorem dX5_stepsBetween_75 : decode cX5_stepsBetween 75 = .ok (.ireturn, 1) := by decide +kernel
theorem dX5_findSession_0 : decode cX5_findSession 0 = .ok (.iconst 0, 1) := by decide +kernel
theorem dX5_findSession_1 : decode cX5_findSession 1 = .ok (.istore_n 3, 1) := by decide +kernel
theorem dX5_findSession_2 : decode cX5_findSession 2 = .ok (.iload_n 3, 1) := by decide +kernel
theorem dX5_findSession_3 : decode cX5_findSession 3 = .ok (.bipush 6, 2) := by decide +kernel
theorem dX5_findSession_5 : decode cX5_findSession 5 = .ok (.if_icmp .ge 45, 3) := by decide +kernel
theorem dX5_findSession_8 : decode cX5_findSession 8 = .ok (.aload_n 0, 1) := by decide +kernel
theorem dX5_findSession_9 : decode cX5_findSession 9 = .ok (.getfield 20, 3) := by decide +kernel
theorem dX5_findSession_12 : decode cX5_findSession 12 = .ok (.iload_n 3, 1) := by decide +kernel
theorem dX5_findSession_13 : decode cX5_findSession 13 = .ok (.aaload, 1) := by decide +kernel
theorem dX5_findSession_14 : decode cX5_findSession 14 = .ok (.astore 4, 2) := by decide +kernel
theorem dX5_findSession_16 : decode cX5_findSession 16 = .ok (.aload 4, 2) := by decide +kernel
theorem dX5_findSession_18 : decode cX5_findSession 18 = .ok (.getfield 46, 3) := by decide +kernel
theorem dX5_findSession_21 : decode cX5_findSession 21 = .ok (.ifCond .eq 23, 3) := by decide +kernel
theorem dX5_findSession_24 : decode cX5_findSession 24 = .ok (.aload 4, 2) := by decide +kernel
theorem dX5_findSession_26 : decode cX5_findSession 26 = .ok (.getfield 50, 3) := by decide +kernel
theorem dX5_findSession_29 : decode cX5_findSession 29 = .ok (.iload_n 1, 1) := by decide +kernel
theorem dX5_findSession_30 : decode cX5_findSession 30 = .ok (.if_icmp .ne 14, 3) := by decide +kernel
theorem dX5_findSession_33 : decode cX5_findSession 33 = .ok (.aload 4, 2) := by decide +kernel
theorem dX5_findSession_35 : decode cX5_findSession 35 = .ok (.getfield 53, 3) := by decide +kernel
theorem dX5_findSession_38 : decode cX5_findSession 38 = .ok (.iload_n 2, 1) := by decide +kernel
theorem dX5_findSession_39 : decode cX5_findSession 39 = .ok (.if_icmp .ne 5, 3) := by decide +kernel
theorem dX5_findSession_42 : decode cX5_findSession 42 = .ok (.iload_n 3, 1) := by decide +kernel
theorem dX5_findSession_43 : decode cX5_findSession 43 = .ok (.ireturn, 1) := by decide +kernel
theorem dX5_findSession_44 : decode cX5_findSession 44 = .ok (.iinc 3 1, 3) := by decide +kernel
theorem dX5_findSession_47 : decode cX5_findSession 47 = .ok (.goto (-45), 3) := by decide +kernel
theorem dX5_findSession_50 : decode cX5_findSession 50 = .ok (.iconst (-1), 1) := by decide +kernel
theorem dX5_findSession_51 : decode cX5_findSession 51 = .ok (.ireturn, 1) := by decide +kernel
theorem dX5_freeSession_0 : decode cX5_freeSession 0 = .ok (.iconst 0, 1) := by decide +kernel
theorem dX5_freeSession_1 : decode cX5_freeSession 1 = .ok (.istore_n 1, 1) := by decide +kernel
theorem dX5_freeSession_2 : decode cX5_freeSession 2 = .ok (.iload_n 1, 1) := by decide +kernel
theorem dX5_freeSession_3 : decode cX5_freeSession 3 = .ok (.bipush 6, 2) := by decide +kernel
theorem dX5_freeSession_5 : decode cX5_freeSession 5 = .ok (.if_icmp .ge 23, 3) := by decide +kernel
theorem dX5_freeSession_8 : decode cX5_freeSession 8 = .ok (.aload_n 0, 1) := by decide +kernel
theorem dX5_freeSession_9 : decode cX5_freeSession 9 = .ok (.getfield 20, 3) := by decide +kernel
theorem dX5_freeSession_12 : decode cX5_freeSession 12 = .ok (.iload_n 1, 1) := by decide +kernel
theorem dX5_freeSession_13 : decode cX5_freeSession 13 = .ok (.aaload, 1) := by decide +kernel
theorem dX5_freeSession_14 : decode cX5_freeSession 14 = .ok (.getfield 46, 3) := by decide +kernel
theorem dX5_freeSession_17 : decode cX5_freeSession 17 = .ok (.ifCond .ne 5, 3) := by decide +kernel
theorem dX5_freeSession_20 : decode cX5_freeSession 20 = .ok (.iload_n 1, 1) := by decide +kernel
theorem dX5_freeSession_21 : decode cX5_freeSession 21 = .ok (.ireturn, 1) := by decide +kernel
theorem dX5_freeSession_22 : decode cX5_freeSession 22 = .ok (.iinc 1 1, 3) := by decide +kernel
theorem dX5_freeSession_25 : decode cX5_freeSession 25 = .ok (.goto (-23), 3) := by decide +kernel
theorem dX5_freeSession_28 : decode cX5_freeSession 28 = .ok (.iconst (-1), 1) := by decide +kernel
theorem dX5_freeSession_29 : decode cX5_freeSession 29 = .ok (.ireturn, 1) := by decide +kernel
theorem dX5_loadOf_0 : decode cX5_loadOf 0 = .ok (.iconst 0, 1) := by decide +kernel
theorem dX5_loadOf_1 : decode cX5_loadOf 1 = .ok (.istore_n 2, 1) := by decide +kernel
theorem dX5_loadOf_2 : decode cX5_loadOf 2 = .ok (.iconst 0, 1) := by decide +kernel
theorem dX5_loadOf_3 : decode cX5_loadOf 3 = .ok (.istore_n 3, 1) := by decide +kernel
theorem dX5_loadOf_4 : decode cX5_loadOf 4 = .ok (.iload_n 3, 1) := by decide +kernel
theorem dX5_loadOf_5 : decode cX5_loadOf 5 = .ok (.bipush 6, 2) := by decide +kernel
theorem dX5_loadOf_7 : decode cX5_loadOf 7 = .ok (.if_icmp .ge 25, 3) := by decide +kernel
theorem dX5_loadOf_10 : decode cX5_loadOf 10 = .ok (.aload_n 0, 1) := by decide +kernel
theorem dX5_loadOf_11 : decode cX5_loadOf 11 = .ok (.getfield 20, 3) := by decide +kernel
theorem dX5_loadOf_14 : decode cX5_loadOf 14 = .ok (.iload_n 3, 1) := by decide +kernel
theorem dX5_loadOf_15 : decode cX5_loadOf 15 = .ok (.aaload, 1) := by decide +kernel
theorem dX5_loadOf_16 : decode cX5_loadOf 16 = .ok (.iload_n 1, 1) := by decide +kernel
theorem dX5_loadOf_17 : decode cX5_loadOf 17 = .ok (.invokevirtual 56, 3) := by decide +kernel
theorem dX5_loadOf_20 : decode cX5_loadOf 20 = .ok (.ifCond .eq 6, 3) := by decide +kernel
theorem dX5_loadOf_23 : decode cX5_loadOf 23 = .ok (.iinc 2 1, 3) := by decide +kernel
theorem dX5_loadOf_26 : decode cX5_loadOf 26 = .ok (.iinc 3 1, 3) := by decide +kernel
theorem dX5_loadOf_29 : decode cX5_loadOf 29 = .ok (.goto (-25), 3) := by decide +kernel
theorem dX5_loadOf_32 : decode cX5_loadOf 32 = .ok (.iload_n 2, 1) := by decide +kernel
theorem dX5_loadOf_33 : decode cX5_loadOf 33 = .ok (.ireturn, 1) := by decide +kernel
theorem dX5_canRelay_0 : decode cX5_canRelay 0 = .ok (.iload_n 1, 1) := by decide +kernel
theorem dX5_canRelay_1 : decode cX5_canRelay 1 = .ok (.iload_n 2, 1) := by decide +kernel
theorem dX5_canRelay_2 : decode cX5_canRelay 2 = .ok (.if_icmp .eq 48, 3) := by decide +kernel
theorem dX5_canRelay_5 : decode cX5_canRelay 5 = .ok (.iload_n 1, 1) := by decide +kernel
theorem dX5_canRelay_6 : decode cX5_canRelay 6 = .ok (.iload_n 3, 1) := by decide +kernel
theorem dX5_canRelay_7 : decode cX5_canRelay 7 = .ok (.if_icmp .eq 43, 3) := by decide +kernel
theorem dX5_canRelay_10 : decode cX5_canRelay 10 = .ok (.aload_n 0, 1) := by decide +kernel
theorem dX5_canRelay_11 : decode cX5_canRelay 11 = .ok (.iload_n 1, 1) := by decide +kernel
theorem dX5_canRelay_12 : decode cX5_canRelay 12 = .ok (.iload_n 2, 1) := by decide +kernel
theorem dX5_canRelay_13 : decode cX5_canRelay 13 = .ok (.invokevirtual 60, 3) := by decide +kernel
theorem dX5_canRelay_16 : decode cX5_canRelay 16 = .ok (.ifCond .eq 34, 3) := by decide +kernel
theorem dX5_canRelay_19 : decode cX5_canRelay 19 = .ok (.aload_n 0, 1) := by decide +kernel
theorem dX5_canRelay_20 : decode cX5_canRelay 20 = .ok (.iload_n 1, 1) := by decide +kernel
theorem dX5_canRelay_21 : decode cX5_canRelay 21 = .ok (.iload_n 3, 1) := by decide +kernel
theorem dX5_canRelay_22 : decode cX5_canRelay 22 = .ok (.invokevirtual 60, 3) := by decide +kernel
theorem dX5_canRelay_25 : decode cX5_canRelay 25 = .ok (.ifCond .eq 25, 3) := by decide +kernel
theorem dX5_canRelay_28 : decode cX5_canRelay 28 = .ok (.aload_n 0, 1) := by decide +kernel
theorem dX5_canRelay_29 : decode cX5_canRelay 29 = .ok (.iload_n 1, 1) := by decide +kernel
theorem dX5_canRelay_30 : decode cX5_canRelay 30 = .ok (.iload_n 2, 1) := by decide +kernel
theorem dX5_canRelay_31 : decode cX5_canRelay 31 = .ok (.invokevirtual 64, 3) := by decide +kernel
theorem dX5_canRelay_34 : decode cX5_canRelay 34 = .ok (.ifCond .eq 16, 3) := by decide +kernel
theorem dX5_canRelay_37 : decode cX5_canRelay 37 = .ok (.aload_n 0, 1) := by decide +kernel
theorem dX5_canRelay_38 : decode cX5_canRelay 38 = .ok (.iload_n 1, 1) := by decide +kernel
theorem dX5_canRelay_39 : decode cX5_canRelay 39 = .ok (.iload_n 3, 1) := by decide +kernel
theorem dX5_canRelay_40 : decode cX5_canRelay 40 = .ok (.invokevirtual 64, 3) := by decide +kernel
theorem dX5_canRelay_43 : decode cX5_canRelay 43 = .ok (.ifCond .eq 7, 3) := by decide +kernel
theorem dX5_canRelay_46 : decode cX5_canRelay 46 = .ok (.iconst 1, 1) := by decide +kernel
theorem dX5_canRelay_47 : decode cX5_canRelay 47 = .ok (.goto 4, 3) := by decide +kernel
theorem dX5_canRelay_50 : decode cX5_canRelay 50 = .ok (.iconst 0, 1) := by decide +kernel
theorem dX5_canRelay_51 : decode cX5_canRelay 51 = .ok (.ireturn, 1) := by decide +kernel
theorem dX5_scoreOf_0 : decode cX5_scoreOf 0 = .ok (.aload_n 1, 1) := by decide +kernel
theorem dX5_scoreOf_1 : decode cX5_scoreOf 1 = .ok (.getfield 67, 3) := by decide +kernel
theorem dX5_scoreOf_4 : decode cX5_scoreOf 4 = .ok (.aload_n 1, 1) := by decide +kernel
theorem dX5_scoreOf_5 : decode cX5_scoreOf 5 = .ok (.iload_n 3, 1) := by decide +kernel
theorem dX5_scoreOf_6 : decode cX5_scoreOf 6 = .ok (.iload_n 2, 1) := by decide +kernel
theorem dX5_scoreOf_7 : decode cX5_scoreOf 7 = .ok (.invokevirtual 42, 3) := by decide +kernel
theorem dX5_scoreOf_10 : decode cX5_scoreOf 10 = .ok (.aload_n 1, 1) := by decide +kernel
theorem dX5_scoreOf_11 : decode cX5_scoreOf 11 = .ok (.iload_n 2, 1) := by decide +kernel
theorem dX5_scoreOf_12 : decode cX5_scoreOf 12 = .ok (.iload 4, 2) := by decide +kernel
theorem dX5_scoreOf_14 : decode cX5_scoreOf 14 = .ok (.invokevirtual 42, 3) := by decide +kernel
theorem dX5_scoreOf_17 : decode cX5_scoreOf 17 = .ok (.aload_n 0, 1) := by decide +kernel
theorem dX5_scoreOf_18 : decode cX5_scoreOf 18 = .ok (.iload_n 2, 1) := by decide +kernel
theorem dX5_scoreOf_19 : decode cX5_scoreOf 19 = .ok (.invokevirtual 71, 3) := by decide +kernel
theorem dX5_scoreOf_22 : decode cX5_scoreOf 22 = .ok (.aload_n 1, 1) := by decide +kernel
theorem dX5_scoreOf_23 : decode cX5_scoreOf 23 = .ok (.getfield 75, 3) := by decide +kernel
theorem dX5_scoreOf_26 : decode cX5_scoreOf 26 = .ok (.iload_n 2, 1) := by decide +kernel
theorem dX5_scoreOf_27 : decode cX5_scoreOf 27 = .ok (.iaload, 1) := by decide +kernel
theorem dX5_scoreOf_28 : decode cX5_scoreOf 28 = .ok (.aload_n 1, 1) := by decide +kernel
theorem dX5_scoreOf_29 : decode cX5_scoreOf 29 = .ok (.iload_n 2, 1) := by decide +kernel
theorem dX5_scoreOf_30 : decode cX5_scoreOf 30 = .ok (.iload_n 3, 1) := by decide +kernel
theorem dX5_scoreOf_31 : decode cX5_scoreOf 31 = .ok (.iload 4, 2) := by decide +kernel
theorem dX5_scoreOf_33 : decode cX5_scoreOf 33 = .ok (.invokevirtual 78, 3) := by decide +kernel
theorem dX5_scoreOf_36 : decode cX5_scoreOf 36 = .ok (.invokevirtual 82, 3) := by decide +kernel
theorem dX5_scoreOf_39 : decode cX5_scoreOf 39 = .ok (.ireturn, 1) := by decide +kernel
theorem dX5_chooseRelay_0 : decode cX5_chooseRelay 0 = .ok (.iconst (-1), 1) := by decide +kernel
theorem dX5_chooseRelay_1 : decode cX5_chooseRelay 1 = .ok (.istore 4, 2) := by decide +kernel
theorem dX5_chooseRelay_3 : decode cX5_chooseRelay 3 = .ok (.iconst 0, 1) := by decide +kernel
theorem dX5_chooseRelay_4 : decode cX5_chooseRelay 4 = .ok (.istore 5, 2) := by decide +kernel
theorem dX5_chooseRelay_6 : decode cX5_chooseRelay 6 = .ok (.iconst 0, 1) := by decide +kernel
theorem dX5_chooseRelay_7 : decode cX5_chooseRelay 7 = .ok (.istore 6, 2) := by decide +kernel
theorem dX5_chooseRelay_9 : decode cX5_chooseRelay 9 = .ok (.iload 6, 2) := by decide +kernel
theorem dX5_chooseRelay_11 : decode cX5_chooseRelay 11 = .ok (.aload_n 1, 1) := by decide +kernel
theorem dX5_chooseRelay_12 : decode cX5_chooseRelay 12 = .ok (.getfield 88, 3) := by decide +kernel
theorem dX5_chooseRelay_15 : decode cX5_chooseRelay 15 = .ok (.if_icmp .ge 68, 3) := by decide +kernel
theorem dX5_chooseRelay_18 : decode cX5_chooseRelay 18 = .ok (.aload_n 0, 1) := by decide +kernel
theorem dX5_chooseRelay_19 : decode cX5_chooseRelay 19 = .ok (.iload 6, 2) := by decide +kernel
theorem dX5_chooseRelay_21 : decode cX5_chooseRelay 21 = .ok (.iload_n 2, 1) := by decide +kernel
theorem dX5_chooseRelay_22 : decode cX5_chooseRelay 22 = .ok (.iload_n 3, 1) := by decide +kernel
theorem dX5_chooseRelay_23 : decode cX5_chooseRelay 23 = .ok (.invokevirtual 91, 3) := by decide +kernel
theorem dX5_chooseRelay_26 : decode cX5_chooseRelay 26 = .ok (.ifCond .eq 51, 3) := by decide +kernel
theorem dX5_chooseRelay_29 : decode cX5_chooseRelay 29 = .ok (.aload_n 0, 1) := by decide +kernel
theorem dX5_chooseRelay_30 : decode cX5_chooseRelay 30 = .ok (.iload 6, 2) := by decide +kernel
theorem dX5_chooseRelay_32 : decode cX5_chooseRelay 32 = .ok (.invokevirtual 71, 3) := by decide +kernel
theorem dX5_chooseRelay_35 : decode cX5_chooseRelay 35 = .ok (.aload_n 1, 1) := by decide +kernel
theorem dX5_chooseRelay_36 : decode cX5_chooseRelay 36 = .ok (.getfield 75, 3) := by decide +kernel
theorem dX5_chooseRelay_39 : decode cX5_chooseRelay 39 = .ok (.iload 6, 2) := by decide +kernel
theorem dX5_chooseRelay_41 : decode cX5_chooseRelay 41 = .ok (.iaload, 1) := by decide +kernel
theorem dX5_chooseRelay_42 : decode cX5_chooseRelay 42 = .ok (.if_icmp .ge 35, 3) := by decide +kernel
theorem dX5_chooseRelay_45 : decode cX5_chooseRelay 45 = .ok (.aload_n 0, 1) := by decide +kernel
theorem dX5_chooseRelay_46 : decode cX5_chooseRelay 46 = .ok (.aload_n 1, 1) := by decide +kernel
theorem dX5_chooseRelay_47 : decode cX5_chooseRelay 47 = .ok (.iload 6, 2) := by decide +kernel
theorem dX5_chooseRelay_49 : decode cX5_chooseRelay 49 = .ok (.iload_n 2, 1) := by decide +kernel
theorem dX5_chooseRelay_50 : decode cX5_chooseRelay 50 = .ok (.iload_n 3, 1) := by decide +kernel
theorem dX5_chooseRelay_51 : decode cX5_chooseRelay 51 = .ok (.invokevirtual 95, 3) := by decide +kernel
theorem dX5_chooseRelay_54 : decode cX5_chooseRelay 54 = .ok (.istore 7, 2) := by decide +kernel
theorem dX5_chooseRelay_56 : decode cX5_chooseRelay 56 = .ok (.iload 4, 2) := by decide +kernel
theorem dX5_chooseRelay_58 : decode cX5_chooseRelay 58 = .ok (.iconst (-1), 1) := by decide +kernel
theorem dX5_chooseRelay_59 : decode cX5_chooseRelay 59 = .ok (.if_icmp .eq 10, 3) := by decide +kernel
theorem dX5_chooseRelay_62 : decode cX5_chooseRelay 62 = .ok (.iload 7, 2) := by decide +kernel
theorem dX5_chooseRelay_64 : decode cX5_chooseRelay 64 = .ok (.iload 5, 2) := by decide +kernel
theorem dX5_chooseRelay_66 : decode cX5_chooseRelay 66 = .ok (.if_icmp .ge 11, 3) := by decide +kernel
theorem dX5_chooseRelay_69 : decode cX5_chooseRelay 69 = .ok (.iload 6, 2) := by decide +kernel
theorem dX5_chooseRelay_71 : decode cX5_chooseRelay 71 = .ok (.istore 4, 2) := by decide +kernel
theorem dX5_chooseRelay_73 : decode cX5_chooseRelay 73 = .ok (.iload 7, 2) := by decide +kernel
theorem dX5_chooseRelay_75 : decode cX5_chooseRelay 75 = .ok (.istore 5, 2) := by decide +kernel
theorem dX5_chooseRelay_77 : decode cX5_chooseRelay 77 = .ok (.iinc 6 1, 3) := by decide +kernel
theorem dX5_chooseRelay_80 : decode cX5_chooseRelay 80 = .ok (.goto (-71), 3) := by decide +kernel
theorem dX5_chooseRelay_83 : decode cX5_chooseRelay 83 = .ok (.iload 4, 2) := by decide +kernel
theorem dX5_chooseRelay_85 : decode cX5_chooseRelay 85 = .ok (.ireturn, 1) := by decide +kernel
theorem dX5_passTick_0 : decode cX5_passTick 0 = .ok (.aload_n 0, 1) := by decide +kernel
theorem dX5_passTick_1 : decode cX5_passTick 1 = .ok (.dup, 1) := by decide +kernel
theorem dX5_passTick_2 : decode cX5_passTick 2 = .ok (.getfield 25, 3) := by decide +kernel
theorem dX5_passTick_5 : decode cX5_passTick 5 = .ok (.iconst 1, 1) := by decide +kernel
theorem dX5_passTick_6 : decode cX5_passTick 6 = .ok (.iadd, 1) := by decide +kernel
theorem dX5_passTick_7 : decode cX5_passTick 7 = .ok (.putfield 25, 3) := by decide +kernel
theorem dX5_passTick_10 : decode cX5_passTick 10 = .ok (.iconst 0, 1) := by decide +kernel
theorem dX5_passTick_11 : decode cX5_passTick 11 = .ok (.istore_n 2, 1) := by decide +kernel
theorem dX5_passTick_12 : decode cX5_passTick 12 = .ok (.iconst 0, 1) := by decide +kernel
theorem dX5_passTick_13 : decode cX5_passTick 13 = .ok (.istore_n 3, 1) := by decide +kernel
theorem dX5_passTick_14 : decode cX5_passTick 14 = .ok (.iload_n 3, 1) := by decide +kernel
theorem dX5_passTick_15 : decode cX5_passTick 15 = .ok (.bipush 6, 2) := by decide +kernel
theorem dX5_passTick_17 : decode cX5_passTick 17 = .ok (.if_icmp .ge 37, 3) := by decide +kernel
theorem dX5_passTick_20 : decode cX5_passTick 20 = .ok (.aload_n 0, 1) := by decide +kernel
theorem dX5_passTick_21 : decode cX5_passTick 21 = .ok (.getfield 20, 3) := by decide +kernel
theorem dX5_passTick_24 : decode cX5_passTick 24 = .ok (.iload_n 3, 1) := by decide +kernel
theorem dX5_passTick_25 : decode cX5_passTick 25 = .ok (.aaload, 1) := by decide +kernel
theorem dX5_passTick_26 : decode cX5_passTick 26 = .ok (.getfield 46, 3) := by decide +kernel
theorem dX5_passTick_29 : decode cX5_passTick 29 = .ok (.ifCond .eq 19, 3) := by decide +kernel
theorem dX5_passTick_32 : decode cX5_passTick 32 = .ok (.iload_n 2, 1) := by decide +kernel
theorem dX5_passTick_33 : decode cX5_passTick 33 = .ok (.aload_n 0, 1) := by decide +kernel
theorem dX5_passTick_34 : decode cX5_passTick 34 = .ok (.getfield 20, 3) := by decide +kernel
theorem dX5_passTick_37 : decode cX5_passTick 37 = .ok (.iload_n 3, 1) := by decide +kernel
theorem dX5_passTick_38 : decode cX5_passTick 38 = .ok (.aaload, 1) := by decide +kernel
theorem dX5_passTick_39 : decode cX5_passTick 39 = .ok (.aload_n 0, 1) := by decide +kernel
theorem dX5_passTick_40 : decode cX5_passTick 40 = .ok (.getfield 25, 3) := by decide +kernel
theorem dX5_passTick_43 : decode cX5_passTick 43 = .ok (.invokevirtual 99, 3) := by decide +kernel
theorem dX5_passTick_46 : decode cX5_passTick 46 = .ok (.iadd, 1) := by decide +kernel
theorem dX5_passTick_47 : decode cX5_passTick 47 = .ok (.istore_n 2, 1) := by decide +kernel
theorem dX5_passTick_48 : decode cX5_passTick 48 = .ok (.iinc 3 1, 3) := by decide +kernel
theorem dX5_passTick_51 : decode cX5_passTick 51 = .ok (.goto (-37), 3) := by decide +kernel
theorem dX5_passTick_54 : decode cX5_passTick 54 = .ok (.iconst 0, 1) := by decide +kernel
theorem dX5_passTick_55 : decode cX5_passTick 55 = .ok (.istore_n 3, 1) := by decide +kernel
theorem dX5_passTick_56 : decode cX5_passTick 56 = .ok (.iload_n 3, 1) := by decide +kernel
theorem dX5_passTick_57 : decode cX5_passTick 57 = .ok (.bipush 6, 2) := by decide +kernel
theorem dX5_passTick_59 : decode cX5_passTick 59 = .ok (.if_icmp .ge 46, 3) := by decide +kernel
theorem dX5_passTick_62 : decode cX5_passTick 62 = .ok (.aload_n 0, 1) := by decide +kernel
theorem dX5_passTick_63 : decode cX5_passTick 63 = .ok (.getfield 20, 3) := by decide +kernel
theorem dX5_passTick_66 : decode cX5_passTick 66 = .ok (.iload_n 3, 1) := by decide +kernel
theorem dX5_passTick_67 : decode cX5_passTick 67 = .ok (.aaload, 1) := by decide +kernel
theorem dX5_passTick_68 : decode cX5_passTick 68 = .ok (.getfield 46, 3) := by decide +kernel
theorem dX5_passTick_71 : decode cX5_passTick 71 = .ok (.ifCond .eq 28, 3) := by decide +kernel
theorem dX5_passTick_74 : decode cX5_passTick 74 = .ok (.aload_n 0, 1) := by decide +kernel
theorem dX5_passTick_75 : decode cX5_passTick 75 = .ok (.getfield 20, 3) := by decide +kernel
theorem dX5_passTick_78 : decode cX5_passTick 78 = .ok (.iload_n 3, 1) := by decide +kernel
theorem dX5_passTick_79 : decode cX5_passTick 79 = .ok (.aaload, 1) := by decide +kernel
theorem dX5_passTick_80 : decode cX5_passTick 80 = .ok (.getfield 102, 3) := by decide +kernel
theorem dX5_passTick_83 : decode cX5_passTick 83 = .ok (.bipush 100, 2) := by decide +kernel
theorem dX5_passTick_85 : decode cX5_passTick 85 = .ok (.if_icmp .eq 14, 3) := by decide +kernel
theorem dX5_passTick_88 : decode cX5_passTick 88 = .ok (.aload_n 0, 1) := by decide +kernel
theorem dX5_passTick_89 : decode cX5_passTick 89 = .ok (.aload_n 1, 1) := by decide +kernel
theorem dX5_passTick_90 : decode cX5_passTick 90 = .ok (.aload_n 0, 1) := by decide +kernel
theorem dX5_passTick_91 : decode cX5_passTick 91 = .ok (.getfield 20, 3) := by decide +kernel
theorem dX5_passTick_94 : decode cX5_passTick 94 = .ok (.iload_n 3, 1) := by decide +kernel
theorem dX5_passTick_95 : decode cX5_passTick 95 = .ok (.aaload, 1) := by decide +kernel
theorem dX5_passTick_96 : decode cX5_passTick 96 = .ok (.invokevirtual 105, 3) := by decide +kernel
theorem dX5_passTick_99 : decode cX5_passTick 99 = .ok (.iinc 3 1, 3) := by decide +kernel
theorem dX5_passTick_102 : decode cX5_passTick 102 = .ok (.goto (-46), 3) := by decide +kernel
theorem dX5_passTick_105 : decode cX5_passTick 105 = .ok (.iconst 0, 1) := by decide +kernel
theorem dX5_passTick_106 : decode cX5_passTick 106 = .ok (.istore_n 3, 1) := by decide +kernel
theorem dX5_passTick_107 : decode cX5_passTick 107 = .ok (.iload_n 3, 1) := by decide +kernel
theorem dX5_passTick_108 : decode cX5_passTick 108 = .ok (.bipush 6, 2) := by decide +kernel
theorem dX5_passTick_110 : decode cX5_passTick 110 = .ok (.if_icmp .ge 45, 3) := by decide +kernel
theorem dX5_passTick_113 : decode cX5_passTick 113 = .ok (.aload_n 0, 1) := by decide +kernel
theorem dX5_passTick_114 : decode cX5_passTick 114 = .ok (.getfield 20, 3) := by decide +kernel
theorem dX5_passTick_117 : decode cX5_passTick 117 = .ok (.iload_n 3, 1) := by decide +kernel
theorem dX5_passTick_118 : decode cX5_passTick 118 = .ok (.aaload, 1) := by decide +kernel
theorem dX5_passTick_119 : decode cX5_passTick 119 = .ok (.getfield 46, 3) := by decide +kernel
theorem dX5_passTick_122 : decode cX5_passTick 122 = .ok (.ifCond .eq 27, 3) := by decide +kernel
theorem dX5_passTick_125 : decode cX5_passTick 125 = .ok (.aload_n 0, 1) := by decide +kernel
theorem dX5_passTick_126 : decode cX5_passTick 126 = .ok (.getfield 20, 3) := by decide +kernel
theorem dX5_passTick_129 : decode cX5_passTick 129 = .ok (.iload_n 3, 1) := by decide +kernel
theorem dX5_passTick_130 : decode cX5_passTick 130 = .ok (.aaload, 1) := by decide +kernel
theorem dX5_passTick_131 : decode cX5_passTick 131 = .ok (.getfield 102, 3) := by decide +kernel
theorem dX5_passTick_134 : decode cX5_passTick 134 = .ok (.iconst (-1), 1) := by decide +kernel
theorem dX5_passTick_135 : decode cX5_passTick 135 = .ok (.if_icmp .ne 14, 3) := by decide +kernel
theorem dX5_passTick_138 : decode cX5_passTick 138 = .ok (.aload_n 0, 1) := by decide +kernel
theorem dX5_passTick_139 : decode cX5_passTick 139 = .ok (.aload_n 1, 1) := by decide +kernel
theorem dX5_passTick_140 : decode cX5_passTick 140 = .ok (.aload_n 0, 1) := by decide +kernel
theorem dX5_passTick_141 : decode cX5_passTick 141 = .ok (.getfield 20, 3) := by decide +kernel
theorem dX5_passTick_144 : decode cX5_passTick 144 = .ok (.iload_n 3, 1) := by decide +kernel
theorem dX5_passTick_145 : decode cX5_passTick 145 = .ok (.aaload, 1) := by decide +kernel
theorem dX5_passTick_146 : decode cX5_passTick 146 = .ok (.invokevirtual 109, 3) := by decide +kernel
theorem dX5_passTick_149 : decode cX5_passTick 149 = .ok (.iinc 3 1, 3) := by decide +kernel
theorem dX5_passTick_152 : decode cX5_passTick 152 = .ok (.goto (-45), 3) := by decide +kernel
theorem dX5_passTick_155 : decode cX5_passTick 155 = .ok (.iconst 0, 1) := by decide +kernel
theorem dX5_passTick_156 : decode cX5_passTick 156 = .ok (.istore_n 3, 1) := by decide +kernel
theorem dX5_passTick_157 : decode cX5_passTick 157 = .ok (.iload_n 3, 1) := by decide +kernel
theorem dX5_passTick_158 : decode cX5_passTick 158 = .ok (.bipush 6, 2) := by decide +kernel
theorem dX5_passTick_160 : decode cX5_passTick 160 = .ok (.if_icmp .ge 30, 3) := by decide +kernel
theorem dX5_passTick_163 : decode cX5_passTick 163 = .ok (.aload_n 0, 1) := by decide +kernel
theorem dX5_passTick_164 : decode cX5_passTick 164 = .ok (.getfield 20, 3) := by decide +kernel
theorem dX5_passTick_167 : decode cX5_passTick 167 = .ok (.iload_n 3, 1) := by decide +kernel
theorem dX5_passTick_168 : decode cX5_passTick 168 = .ok (.aaload, 1) := by decide +kernel
theorem dX5_passTick_169 : decode cX5_passTick 169 = .ok (.getfield 46, 3) := by decide +kernel
theorem dX5_passTick_172 : decode cX5_passTick 172 = .ok (.ifCond .eq 12, 3) := by decide +kernel
theorem dX5_passTick_175 : decode cX5_passTick 175 = .ok (.aload_n 0, 1) := by decide +kernel
theorem dX5_passTick_176 : decode cX5_passTick 176 = .ok (.getfield 20, 3) := by decide +kernel
theorem dX5_passTick_179 : decode cX5_passTick 179 = .ok (.iload_n 3, 1) := by decide +kernel
theorem dX5_passTick_180 : decode cX5_passTick 180 = .ok (.aaload, 1) := by decide +kernel
theorem dX5_passTick_181 : decode cX5_passTick 181 = .ok (.invokevirtual 112, 3) := by decide +kernel
theorem dX5_passTick_184 : decode cX5_passTick 184 = .ok (.iinc 3 1, 3) := by decide +kernel
theorem dX5_passTick_187 : decode cX5_passTick 187 = .ok (.goto (-30), 3) := by decide +kernel
theorem dX5_passTick_190 : decode cX5_passTick 190 = .ok (.iload_n 2, 1) := by decide +kernel
theorem dX5_passTick_191 : decode cX5_passTick 191 = .ok (.ireturn, 1) := by decide +kernel
theorem dX5_probeIfDue_0 : decode cX5_probeIfDue 0 = .ok (.aload_n 1, 1) := by decide +kernel
theorem dX5_probeIfDue_1 : decode cX5_probeIfDue 1 = .ok (.getfield 115, 3) := by decide +kernel
theorem dX5_probeIfDue_4 : decode cX5_probeIfDue 4 = .ok (.iconst 1, 1) := by decide +kernel
theorem dX5_probeIfDue_5 : decode cX5_probeIfDue 5 = .ok (.if_icmp .lt 20, 3) := by decide +kernel
theorem dX5_probeIfDue_8 : decode cX5_probeIfDue 8 = .ok (.aload_n 0, 1) := by decide +kernel
theorem dX5_probeIfDue_9 : decode cX5_probeIfDue 9 = .ok (.getfield 25, 3) := by decide +kernel
theorem dX5_probeIfDue_12 : decode cX5_probeIfDue 12 = .ok (.aload_n 2, 1) := by decide +kernel
theorem dX5_probeIfDue_13 : decode cX5_probeIfDue 13 = .ok (.getfield 118, 3) := by decide +kernel
theorem dX5_probeIfDue_16 : decode cX5_probeIfDue 16 = .ok (.isub, 1) := by decide +kernel
theorem dX5_probeIfDue_17 : decode cX5_probeIfDue 17 = .ok (.aload_n 1, 1) := by decide +kernel
theorem dX5_probeIfDue_18 : decode cX5_probeIfDue 18 = .ok (.getfield 115, 3) := by decide +kernel
theorem dX5_probeIfDue_21 : decode cX5_probeIfDue 21 = .ok (.irem, 1) := by decide +kernel
theorem dX5_probeIfDue_22 : decode cX5_probeIfDue 22 = .ok (.ifCond .eq 4, 3) := by decide +kernel
theorem dX5_probeIfDue_25 : decode cX5_probeIfDue 25 = .ok (.return_, 1) := by decide +kernel
theorem dX5_probeIfDue_26 : decode cX5_probeIfDue 26 = .ok (.aload_n 0, 1) := by decide +kernel
theorem dX5_probeIfDue_27 : decode cX5_probeIfDue 27 = .ok (.aload_n 2, 1) := by decide +kernel
theorem dX5_probeIfDue_28 : decode cX5_probeIfDue 28 = .ok (.getfield 50, 3) := by decide +kernel
theorem dX5_probeIfDue_31 : decode cX5_probeIfDue 31 = .ok (.aload_n 2, 1) := by decide +kernel
theorem dX5_probeIfDue_32 : decode cX5_probeIfDue 32 = .ok (.getfield 53, 3) := by decide +kernel
theorem dX5_probeIfDue_35 : decode cX5_probeIfDue 35 = .ok (.invokevirtual 64, 3) := by decide +kernel
theorem dX5_probeIfDue_38 : decode cX5_probeIfDue 38 = .ok (.ifCond .ne 9, 3) := by decide +kernel
theorem dX5_probeIfDue_41 : decode cX5_probeIfDue 41 = .ok (.aload_n 2, 1) := by decide +kernel
theorem dX5_probeIfDue_42 : decode cX5_probeIfDue 42 = .ok (.iconst 0, 1) := by decide +kernel
theorem dX5_probeIfDue_43 : decode cX5_probeIfDue 43 = .ok (.putfield 121, 3) := by decide +kernel
theorem dX5_probeIfDue_46 : decode cX5_probeIfDue 46 = .ok (.return_, 1) := by decide +kernel
theorem dX5_probeIfDue_47 : decode cX5_probeIfDue 47 = .ok (.aload_n 2, 1) := by decide +kernel
theorem dX5_probeIfDue_48 : decode cX5_probeIfDue 48 = .ok (.dup, 1) := by decide +kernel
theorem dX5_probeIfDue_49 : decode cX5_probeIfDue 49 = .ok (.getfield 121, 3) := by decide +kernel
theorem dX5_probeIfDue_52 : decode cX5_probeIfDue 52 = .ok (.iconst 1, 1) := by decide +kernel
theorem dX5_probeIfDue_53 : decode cX5_probeIfDue 53 = .ok (.iadd, 1) := by decide +kernel
theorem dX5_probeIfDue_54 : decode cX5_probeIfDue 54 = .ok (.putfield 121, 3) := by decide +kernel
theorem dX5_probeIfDue_57 : decode cX5_probeIfDue 57 = .ok (.aload_n 2, 1) := by decide +kernel
theorem dX5_probeIfDue_58 : decode cX5_probeIfDue 58 = .ok (.getfield 121, 3) := by decide +kernel
theorem dX5_probeIfDue_61 : decode cX5_probeIfDue 61 = .ok (.aload_n 1, 1) := by decide +kernel
theorem dX5_probeIfDue_62 : decode cX5_probeIfDue 62 = .ok (.getfield 124, 3) := by decide +kernel
theorem dX5_probeIfDue_65 : decode cX5_probeIfDue 65 = .ok (.if_icmp .lt 9, 3) := by decide +kernel
theorem dX5_probeIfDue_68 : decode cX5_probeIfDue 68 = .ok (.aload_n 0, 1) := by decide +kernel
theorem dX5_probeIfDue_69 : decode cX5_probeIfDue 69 = .ok (.aload_n 1, 1) := by decide +kernel
theorem dX5_probeIfDue_70 : decode cX5_probeIfDue 70 = .ok (.aload_n 2, 1) := by decide +kernel
theorem dX5_probeIfDue_71 : decode cX5_probeIfDue 71 = .ok (.invokevirtual 127, 3) := by decide +kernel
theorem dX5_probeIfDue_74 : decode cX5_probeIfDue 74 = .ok (.return_, 1) := by decide +kernel
theorem dX5_upgrade_0 : decode cX5_upgrade 0 = .ok (.aload_n 2, 1) := by decide +kernel
theorem dX5_upgrade_1 : decode cX5_upgrade 1 = .ok (.iconst 0, 1) := by decide +kernel
theorem dX5_upgrade_2 : decode cX5_upgrade 2 = .ok (.putfield 121, 3) := by decide +kernel
theorem dX5_upgrade_5 : decode cX5_upgrade 5 = .ok (.aload_n 2, 1) := by decide +kernel
theorem dX5_upgrade_6 : decode cX5_upgrade 6 = .ok (.getfield 102, 3) := by decide +kernel
theorem dX5_upgrade_9 : decode cX5_upgrade 9 = .ok (.iconst (-1), 1) := by decide +kernel
theorem dX5_upgrade_10 : decode cX5_upgrade 10 = .ok (.if_icmp .eq 11, 3) := by decide +kernel
theorem dX5_upgrade_13 : decode cX5_upgrade 13 = .ok (.aload_n 2, 1) := by decide +kernel
theorem dX5_upgrade_14 : decode cX5_upgrade 14 = .ok (.aload_n 2, 1) := by decide +kernel
theorem dX5_upgrade_15 : decode cX5_upgrade 15 = .ok (.getfield 102, 3) := by decide +kernel
theorem dX5_upgrade_18 : decode cX5_upgrade 18 = .ok (.putfield 130, 3) := by decide +kernel
theorem dX5_upgrade_21 : decode cX5_upgrade 21 = .ok (.aload_n 2, 1) := by decide +kernel
theorem dX5_upgrade_22 : decode cX5_upgrade 22 = .ok (.bipush 100, 2) := by decide +kernel
theorem dX5_upgrade_24 : decode cX5_upgrade 24 = .ok (.invokevirtual 133, 3) := by decide +kernel
theorem dX5_upgrade_27 : decode cX5_upgrade 27 = .ok (.aload_n 2, 1) := by decide +kernel
theorem dX5_upgrade_28 : decode cX5_upgrade 28 = .ok (.aload_n 0, 1) := by decide +kernel
theorem dX5_upgrade_29 : decode cX5_upgrade 29 = .ok (.getfield 25, 3) := by decide +kernel
theorem dX5_upgrade_32 : decode cX5_upgrade 32 = .ok (.aload_n 1, 1) := by decide +kernel
theorem dX5_upgrade_33 : decode cX5_upgrade 33 = .ok (.aload_n 2, 1) := by decide +kernel
theorem dX5_upgrade_34 : decode cX5_upgrade 34 = .ok (.invokevirtual 137, 3) := by decide +kernel
theorem dX5_upgrade_37 : decode cX5_upgrade 37 = .ok (.iadd, 1) := by decide +kernel
theorem dX5_upgrade_38 : decode cX5_upgrade 38 = .ok (.invokevirtual 141, 3) := by decide +kernel
theorem dX5_upgrade_41 : decode cX5_upgrade 41 = .ok (.return_, 1) := by decide +kernel
theorem dX5_seekRelay_0 : decode cX5_seekRelay 0 = .ok (.aload_n 0, 1) := by decide +kernel
theorem dX5_seekRelay_1 : decode cX5_seekRelay 1 = .ok (.aload_n 1, 1) := by decide +kernel
theorem dX5_seekRelay_2 : decode cX5_seekRelay 2 = .ok (.aload_n 2, 1) := by decide +kernel
theorem dX5_seekRelay_3 : decode cX5_seekRelay 3 = .ok (.getfield 50, 3) := by decide +kernel
theorem dX5_seekRelay_6 : decode cX5_seekRelay 6 = .ok (.aload_n 2, 1) := by decide +kernel
theorem dX5_seekRelay_7 : decode cX5_seekRelay 7 = .ok (.getfield 53, 3) := by decide +kernel
theorem dX5_seekRelay_10 : decode cX5_seekRelay 10 = .ok (.invokevirtual 144, 3) := by decide +kernel
theorem dX5_seekRelay_13 : decode cX5_seekRelay 13 = .ok (.istore_n 3, 1) := by decide +kernel
theorem dX5_seekRelay_14 : decode cX5_seekRelay 14 = .ok (.iload_n 3, 1) := by decide +kernel
theorem dX5_seekRelay_15 : decode cX5_seekRelay 15 = .ok (.iconst (-1), 1) := by decide +kernel
theorem dX5_seekRelay_16 : decode cX5_seekRelay 16 = .ok (.if_icmp .eq 22, 3) := by decide +kernel
theorem dX5_seekRelay_19 : decode cX5_seekRelay 19 = .ok (.aload_n 2, 1) := by decide +kernel
theorem dX5_seekRelay_20 : decode cX5_seekRelay 20 = .ok (.iload_n 3, 1) := by decide +kernel
theorem dX5_seekRelay_21 : decode cX5_seekRelay 21 = .ok (.invokevirtual 133, 3) := by decide +kernel
theorem dX5_seekRelay_24 : decode cX5_seekRelay 24 = .ok (.aload_n 2, 1) := by decide +kernel
theorem dX5_seekRelay_25 : decode cX5_seekRelay 25 = .ok (.aload_n 0, 1) := by decide +kernel
theorem dX5_seekRelay_26 : decode cX5_seekRelay 26 = .ok (.getfield 25, 3) := by decide +kernel
theorem dX5_seekRelay_29 : decode cX5_seekRelay 29 = .ok (.aload_n 1, 1) := by decide +kernel
theorem dX5_seekRelay_30 : decode cX5_seekRelay 30 = .ok (.aload_n 2, 1) := by decide +kernel
theorem dX5_seekRelay_31 : decode cX5_seekRelay 31 = .ok (.invokevirtual 137, 3) := by decide +kernel
theorem dX5_seekRelay_34 : decode cX5_seekRelay 34 = .ok (.iadd, 1) := by decide +kernel
theorem dX5_seekRelay_35 : decode cX5_seekRelay 35 = .ok (.invokevirtual 141, 3) := by decide +kernel
theorem dX5_seekRelay_38 : decode cX5_seekRelay 38 = .ok (.return_, 1) := by decide +kernel
theorem dX5_leaveLink_0 : decode cX5_leaveLink 0 = .ok (.iconst 0, 1) := by decide +kernel
theorem dX5_leaveLink_1 : decode cX5_leaveLink 1 = .ok (.istore 4, 2) := by decide +kernel
theorem dX5_leaveLink_3 : decode cX5_leaveLink 3 = .ok (.iconst 0, 1) := by decide +kernel
theorem dX5_leaveLink_4 : decode cX5_leaveLink 4 = .ok (.istore 5, 2) := by decide +kernel
theorem dX5_leaveLink_6 : decode cX5_leaveLink 6 = .ok (.iload 5, 2) := by decide +kernel
theorem dX5_leaveLink_8 : decode cX5_leaveLink 8 = .ok (.bipush 6, 2) := by decide +kernel
theorem dX5_leaveLink_10 : decode cX5_leaveLink 10 = .ok (.if_icmp .ge 58, 3) := by decide +kernel
theorem dX5_leaveLink_13 : decode cX5_leaveLink 13 = .ok (.aload_n 0, 1) := by decide +kernel
theorem dX5_leaveLink_14 : decode cX5_leaveLink 14 = .ok (.getfield 20, 3) := by decide +kernel
theorem dX5_leaveLink_17 : decode cX5_leaveLink 17 = .ok (.iload 5, 2) := by decide +kernel
theorem dX5_leaveLink_19 : decode cX5_leaveLink 19 = .ok (.aaload, 1) := by decide +kernel
theorem dX5_leaveLink_20 : decode cX5_leaveLink 20 = .ok (.astore 6, 2) := by decide +kernel
theorem dX5_leaveLink_22 : decode cX5_leaveLink 22 = .ok (.aload 6, 2) := by decide +kernel
theorem dX5_leaveLink_24 : decode cX5_leaveLink 24 = .ok (.getfield 46, 3) := by decide +kernel
theorem dX5_leaveLink_27 : decode cX5_leaveLink 27 = .ok (.ifCond .eq 35, 3) := by decide +kernel
theorem dX5_leaveLink_30 : decode cX5_leaveLink 30 = .ok (.aload_n 0, 1) := by decide +kernel
theorem dX5_leaveLink_31 : decode cX5_leaveLink 31 = .ok (.aload_n 1, 1) := by decide +kernel
theorem dX5_leaveLink_32 : decode cX5_leaveLink 32 = .ok (.aload 6, 2) := by decide +kernel
theorem dX5_leaveLink_34 : decode cX5_leaveLink 34 = .ok (.iload_n 2, 1) := by decide +kernel
theorem dX5_leaveLink_35 : decode cX5_leaveLink 35 = .ok (.iload_n 3, 1) := by decide +kernel
theorem dX5_leaveLink_36 : decode cX5_leaveLink 36 = .ok (.invokevirtual 148, 3) := by decide +kernel
theorem dX5_leaveLink_39 : decode cX5_leaveLink 39 = .ok (.iload 4, 2) := by decide +kernel
theorem dX5_leaveLink_41 : decode cX5_leaveLink 41 = .ok (.aload 6, 2) := by decide +kernel
theorem dX5_leaveLink_43 : decode cX5_leaveLink 43 = .ok (.iload_n 2, 1) := by decide +kernel
theorem dX5_leaveLink_44 : decode cX5_leaveLink 44 = .ok (.iload_n 3, 1) := by decide +kernel
theorem dX5_leaveLink_45 : decode cX5_leaveLink 45 = .ok (.aload_n 0, 1) := by decide +kernel
theorem dX5_leaveLink_46 : decode cX5_leaveLink 46 = .ok (.getfield 25, 3) := by decide +kernel
theorem dX5_leaveLink_49 : decode cX5_leaveLink 49 = .ok (.aload_n 1, 1) := by decide +kernel
theorem dX5_leaveLink_50 : decode cX5_leaveLink 50 = .ok (.aload 6, 2) := by decide +kernel
theorem dX5_leaveLink_52 : decode cX5_leaveLink 52 = .ok (.invokevirtual 137, 3) := by decide +kernel
theorem dX5_leaveLink_55 : decode cX5_leaveLink 55 = .ok (.iadd, 1) := by decide +kernel
theorem dX5_leaveLink_56 : decode cX5_leaveLink 56 = .ok (.invokevirtual 152, 3) := by decide +kernel
theorem dX5_leaveLink_59 : decode cX5_leaveLink 59 = .ok (.iadd, 1) := by decide +kernel
theorem dX5_leaveLink_60 : decode cX5_leaveLink 60 = .ok (.istore 4, 2) := by decide +kernel
theorem dX5_leaveLink_62 : decode cX5_leaveLink 62 = .ok (.iinc 5 1, 3) := by decide +kernel
theorem dX5_leaveLink_65 : decode cX5_leaveLink 65 = .ok (.goto (-59), 3) := by decide +kernel
theorem dX5_leaveLink_68 : decode cX5_leaveLink 68 = .ok (.iload 4, 2) := by decide +kernel
theorem dX5_leaveLink_70 : decode cX5_leaveLink 70 = .ok (.ireturn, 1) := by decide +kernel
theorem dX5_leavePaths_0 : decode cX5_leavePaths 0 = .ok (.aload_n 2, 1) := by decide +kernel
theorem dX5_leavePaths_1 : decode cX5_leavePaths 1 = .ok (.aload_n 2, 1) := by decide +kernel
theorem dX5_leavePaths_2 : decode cX5_leavePaths 2 = .ok (.getfield 130, 3) := by decide +kernel
theorem dX5_leavePaths_5 : decode cX5_leavePaths 5 = .ok (.iload_n 3, 1) := by decide +kernel
theorem dX5_leavePaths_6 : decode cX5_leavePaths 6 = .ok (.iload 4, 2) := by decide +kernel
theorem dX5_leavePaths_8 : decode cX5_leavePaths 8 = .ok (.invokevirtual 155, 3) := by decide +kernel
theorem dX5_leavePaths_11 : decode cX5_leavePaths 11 = .ok (.ifCond .eq 8, 3) := by decide +kernel
theorem dX5_leavePaths_14 : decode cX5_leavePaths 14 = .ok (.aload_n 2, 1) := by decide +kernel
theorem dX5_leavePaths_15 : decode cX5_leavePaths 15 = .ok (.iconst (-1), 1) := by decide +kernel
theorem dX5_leavePaths_16 : decode cX5_leavePaths 16 = .ok (.putfield 130, 3) := by decide +kernel
theorem dX5_leavePaths_19 : decode cX5_leavePaths 19 = .ok (.aload_n 2, 1) := by decide +kernel
theorem dX5_leavePaths_20 : decode cX5_leavePaths 20 = .ok (.aload_n 2, 1) := by decide +kernel
theorem dX5_leavePaths_21 : decode cX5_leavePaths 21 = .ok (.getfield 102, 3) := by decide +kernel
theorem dX5_leavePaths_24 : decode cX5_leavePaths 24 = .ok (.iload_n 3, 1) := by decide +kernel
theorem dX5_leavePaths_25 : decode cX5_leavePaths 25 = .ok (.iload 4, 2) := by decide +kernel
theorem dX5_leavePaths_27 : decode cX5_leavePaths 27 = .ok (.invokevirtual 155, 3) := by decide +kernel
theorem dX5_leavePaths_30 : decode cX5_leavePaths 30 = .ok (.ifCond .eq 25, 3) := by decide +kernel
theorem dX5_leavePaths_33 : decode cX5_leavePaths 33 = .ok (.aload_n 2, 1) := by decide +kernel
theorem dX5_leavePaths_34 : decode cX5_leavePaths 34 = .ok (.iconst 0, 1) := by decide +kernel
theorem dX5_leavePaths_35 : decode cX5_leavePaths 35 = .ok (.putfield 121, 3) := by decide +kernel
theorem dX5_leavePaths_38 : decode cX5_leavePaths 38 = .ok (.aload_n 2, 1) := by decide +kernel
theorem dX5_leavePaths_39 : decode cX5_leavePaths 39 = .ok (.aload_n 0, 1) := by decide +kernel
theorem dX5_leavePaths_40 : decode cX5_leavePaths 40 = .ok (.aload_n 1, 1) := by decide +kernel
theorem dX5_leavePaths_41 : decode cX5_leavePaths 41 = .ok (.aload_n 2, 1) := by decide +kernel
theorem dX5_leavePaths_42 : decode cX5_leavePaths 42 = .ok (.getfield 50, 3) := by decide +kernel
theorem dX5_leavePaths_45 : decode cX5_leavePaths 45 = .ok (.aload_n 2, 1) := by decide +kernel
theorem dX5_leavePaths_46 : decode cX5_leavePaths 46 = .ok (.getfield 53, 3) := by decide +kernel
theorem dX5_leavePaths_49 : decode cX5_leavePaths 49 = .ok (.invokevirtual 144, 3) := by decide +kernel
theorem dX5_leavePaths_52 : decode cX5_leavePaths 52 = .ok (.invokevirtual 133, 3) := by decide +kernel
theorem dX5_leavePaths_55 : decode cX5_leavePaths 55 = .ok (.return_, 1) := by decide +kernel
theorem dX6_init_0 : decode cX6_init 0 = .ok (.aload_n 0, 1) := by decide +kernel
theorem dX6_init_1 : decode cX6_init 1 = .ok (.invokespecial 1, 3) := by decide +kernel
theorem dX6_init_4 : decode cX6_init 4 = .ok (.aload_n 0, 1) := by decide +kernel
theorem dX6_init_5 : decode cX6_init 5 = .ok (.sipush 600, 3) := by decide +kernel
theorem dX6_init_8 : decode cX6_init 8 = .ok (.newarray .byte, 2) := by decide +kernel
theorem dX6_init_10 : decode cX6_init 10 = .ok (.putfield 9, 3) := by decide +kernel
theorem dX6_init_13 : decode cX6_init 13 = .ok (.aload_n 0, 1) := by decide +kernel
theorem dX6_init_14 : decode cX6_init 14 = .ok (.iconst 0, 1) := by decide +kernel
theorem dX6_init_15 : decode cX6_init 15 = .ok (.putfield 13, 3) := by decide +kernel
theorem dX6_init_18 : decode cX6_init 18 = .ok (.aload_n 0, 1) := by decide +kernel
theorem dX6_init_19 : decode cX6_init 19 = .ok (.iconst (-1), 1) := by decide +kernel
theorem dX6_init_20 : decode cX6_init 20 = .ok (.putfield 17, 3) := by decide +kernel
theorem dX6_init_23 : decode cX6_init 23 = .ok (.aload_n 0, 1) := by decide +kernel
theorem dX6_init_24 : decode cX6_init 24 = .ok (.new 20, 3) := by decide +kernel
theorem dX6_init_27 : decode cX6_init 27 = .ok (.dup, 1) := by decide +kernel
theorem dX6_init_28 : decode cX6_init 28 = .ok (.invokespecial 22, 3) := by decide +kernel
theorem dX6_init_31 : decode cX6_init 31 = .ok (.putfield 23, 3) := by decide +kernel
theorem dX6_init_34 : decode cX6_init 34 = .ok (.aload_n 0, 1) := by decide +kernel
theorem dX6_init_35 : decode cX6_init 35 = .ok (.new 20, 3) := by decide +kernel
theorem dX6_init_38 : decode cX6_init 38 = .ok (.dup, 1) := by decide +kernel
theorem dX6_init_39 : decode cX6_init 39 = .ok (.invokespecial 22, 3) := by decide +kernel
theorem dX6_init_42 : decode cX6_init 42 = .ok (.putfield 27, 3) := by decide +kernel
theorem dX6_init_45 : decode cX6_init 45 = .ok (.aload_n 0, 1) := by decide +kernel
theorem dX6_init_46 : decode cX6_init 46 = .ok (.new 30, 3) := by decide +kernel
theorem dX6_init_49 : decode cX6_init 49 = .ok (.dup, 1) := by decide +kernel
theorem dX6_init_50 : decode cX6_init 50 = .ok (.invokespecial 32, 3) := by decide +kernel
theorem dX6_init_53 : decode cX6_init 53 = .ok (.putfield 33, 3) := by decide +kernel
theorem dX6_init_56 : decode cX6_init 56 = .ok (.aload_n 0, 1) := by decide +kernel
theorem dX6_init_57 : decode cX6_init 57 = .ok (.new 30, 3) := by decide +kernel
theorem dX6_init_60 : decode cX6_init 60 = .ok (.dup, 1) := by decide +kernel
theorem dX6_init_61 : decode cX6_init 61 = .ok (.invokespecial 32, 3) := by decide +kernel
theorem dX6_init_64 : decode cX6_init 64 = .ok (.putfield 37, 3) := by decide +kernel
theorem dX6_init_67 : decode cX6_init 67 = .ok (.aload_n 0, 1) := by decide +kernel
theorem dX6_init_68 : decode cX6_init 68 = .ok (.new 40, 3) := by decide +kernel
theorem dX6_init_71 : decode cX6_init 71 = .ok (.dup, 1) := by decide +kernel
theorem dX6_init_72 : decode cX6_init 72 = .ok (.invokespecial 42, 3) := by decide +kernel
theorem dX6_init_75 : decode cX6_init 75 = .ok (.putfield 43, 3) := by decide +kernel
theorem dX6_init_78 : decode cX6_init 78 = .ok (.aload_n 0, 1) := by decide +kernel
theorem dX6_init_79 : decode cX6_init 79 = .ok (.iconst 2, 1) := by decide +kernel
theorem dX6_init_80 : decode cX6_init 80 = .ok (.anewarray 30, 3) := by decide +kernel
theorem dX6_init_83 : decode cX6_init 83 = .ok (.putfield 47, 3) := by decide +kernel
theorem dX6_init_86 : decode cX6_init 86 = .ok (.iconst 0, 1) := by decide +kernel
theorem dX6_init_87 : decode cX6_init 87 = .ok (.istore_n 1, 1) := by decide +kernel
theorem dX6_init_88 : decode cX6_init 88 = .ok (.iload_n 1, 1) := by decide +kernel
theorem dX6_init_89 : decode cX6_init 89 = .ok (.iconst 2, 1) := by decide +kernel
theorem dX6_init_90 : decode cX6_init 90 = .ok (.if_icmp .ge 22, 3) := by decide +kernel
theorem dX6_init_93 : decode cX6_init 93 = .ok (.aload_n 0, 1) := by decide +kernel
theorem dX6_init_94 : decode cX6_init 94 = .ok (.getfield 47, 3) := by decide +kernel
theorem dX6_init_97 : decode cX6_init 97 = .ok (.iload_n 1, 1) := by decide +kernel
theorem dX6_init_98 : decode cX6_init 98 = .ok (.new 30, 3) := by decide +kernel
theorem dX6_init_101 : decode cX6_init 101 = .ok (.dup, 1) := by decide +kernel
theorem dX6_init_102 : decode cX6_init 102 = .ok (.invokespecial 32, 3) := by decide +kernel
theorem dX6_init_105 : decode cX6_init 105 = .ok (.aastore, 1) := by decide +kernel
theorem dX6_init_106 : decode cX6_init 106 = .ok (.iinc 1 1, 3) := by decide +kernel
theorem dX6_init_109 : decode cX6_init 109 = .ok (.goto (-21), 3) := by decide +kernel
theorem dX6_init_112 : decode cX6_init 112 = .ok (.aload_n 0, 1) := by decide +kernel
theorem dX6_init_113 : decode cX6_init 113 = .ok (.iconst 2, 1) := by decide +kernel
theorem dX6_init_114 : decode cX6_init 114 = .ok (.newarray .boolean, 2) := by decide +kernel
theorem dX6_init_116 : decode cX6_init 116 = .ok (.putfield 51, 3) := by decide +kernel
theorem dX6_init_119 : decode cX6_init 119 = .ok (.return_, 1) := by decide +kernel
theorem dX6_append_0 : decode cX6_append 0 = .ok (.aload_n 0, 1) := by decide +kernel
theorem dX6_append_1 : decode cX6_append 1 = .ok (.getfield 13, 3) := by decide +kernel
theorem dX6_append_4 : decode cX6_append 4 = .ok (.sipush 580, 3) := by decide +kernel
theorem dX6_append_7 : decode cX6_append 7 = .ok (.if_icmp .le 5, 3) := by decide +kernel
theorem dX6_append_10 : decode cX6_append 10 = .ok (.iconst (-1), 1) := by decide +kernel
theorem dX6_append_11 : decode cX6_append 11 = .ok (.ireturn, 1) := by decide +kernel
theorem dX6_append_12 : decode cX6_append 12 = .ok (.aload_n 0, 1) := by decide +kernel
theorem dX6_append_13 : decode cX6_append 13 = .ok (.iload_n 1, 1) := by decide +kernel
theorem dX6_append_14 : decode cX6_append 14 = .ok (.invokevirtual 55, 3) := by decide +kernel
theorem dX6_append_17 : decode cX6_append 17 = .ok (.aload_n 0, 1) := by decide +kernel
theorem dX6_append_18 : decode cX6_append 18 = .ok (.iload_n 2, 1) := by decide +kernel
theorem dX6_append_19 : decode cX6_append 19 = .ok (.invokevirtual 55, 3) := by decide +kernel
theorem dX6_append_22 : decode cX6_append 22 = .ok (.aload_n 0, 1) := by decide +kernel
theorem dX6_append_23 : decode cX6_append 23 = .ok (.iload_n 3, 1) := by decide +kernel
theorem dX6_append_24 : decode cX6_append 24 = .ok (.invokevirtual 55, 3) := by decide +kernel
theorem dX6_append_27 : decode cX6_append 27 = .ok (.aload_n 0, 1) := by decide +kernel
theorem dX6_append_28 : decode cX6_append 28 = .ok (.iload 4, 2) := by decide +kernel
theorem dX6_append_30 : decode cX6_append 30 = .ok (.invokevirtual 55, 3) := by decide +kernel
theorem dX6_append_33 : decode cX6_append 33 = .ok (.aload_n 0, 1) := by decide +kernel
theorem dX6_append_34 : decode cX6_append 34 = .ok (.iload 5, 2) := by decide +kernel
theorem dX6_append_36 : decode cX6_append 36 = .ok (.invokevirtual 55, 3) := by decide +kernel
theorem dX6_append_39 : decode cX6_append 39 = .ok (.aload_n 0, 1) := by decide +kernel
theorem dX6_append_40 : decode cX6_append 40 = .ok (.getfield 13, 3) := by decide +kernel
theorem dX6_append_43 : decode cX6_append 43 = .ok (.ireturn, 1) := by decide +kernel
theorem dX6_parse_0 : decode cX6_parse 0 = .ok (.iload_n 1, 1) := by decide +kernel
theorem dX6_parse_1 : decode cX6_parse 1 = .ok (.ifCond .lt 11, 3) := by decide +kernel
theorem dX6_parse_4 : decode cX6_parse 4 = .ok (.iload_n 1, 1) := by decide +kernel
theorem dX6_parse_5 : decode cX6_parse 5 = .ok (.aload_n 0, 1) := by decide +kernel
theorem dX6_parse_6 : decode cX6_parse 6 = .ok (.getfield 13, 3) := by decide +kernel
theorem dX6_parse_9 : decode cX6_parse 9 = .ok (.if_icmp .le 13, 3) := by decide +kernel
theorem dX6_parse_12 : decode cX6_parse 12 = .ok (.new 59, 3) := by decide +kernel
theorem dX6_parse_15 : decode cX6_parse 15 = .ok (.dup, 1) := by decide +kernel
theorem dX6_parse_16 : decode cX6_parse 16 = .ok (.ldc 61, 2) := by decide +kernel
theorem dX6_parse_18 : decode cX6_parse 18 = .ok (.invokespecial 63, 3) := by decide +kernel
theorem dX6_parse_21 : decode cX6_parse 21 = .ok (.athrow, 1) := by decide +kernel
theorem dX6_parse_22 : decode cX6_parse 22 = .ok (.new 66, 3) := by decide +kernel
theorem dX6_parse_25 : decode cX6_parse 25 = .ok (.dup, 1) := by decide +kernel
theorem dX6_parse_26 : decode cX6_parse 26 = .ok (.aload_n 0, 1) := by decide +kernel
theorem dX6_parse_27 : decode cX6_parse 27 = .ok (.getfield 9, 3) := by decide +kernel
theorem dX6_parse_30 : decode cX6_parse 30 = .ok (.iload_n 1, 1) := by decide +kernel
theorem dX6_parse_31 : decode cX6_parse 31 = .ok (.aload_n 0, 1) := by decide +kernel
theorem dX6_parse_32 : decode cX6_parse 32 = .ok (.getfield 27, 3) := by decide +kernel
theorem dX6_parse_35 : decode cX6_parse 35 = .ok (.invokespecial 68, 3) := by decide +kernel
theorem dX6_parse_38 : decode cX6_parse 38 = .ok (.astore_n 2, 1) := by decide +kernel
theorem dX6_parse_39 : decode cX6_parse 39 = .ok (.aload_n 2, 1) := by decide +kernel
theorem dX6_parse_40 : decode cX6_parse 40 = .ok (.invokevirtual 71, 3) := by decide +kernel
theorem dX6_parse_43 : decode cX6_parse 43 = .ok (.istore_n 3, 1) := by decide +kernel
theorem dX6_parse_44 : decode cX6_parse 44 = .ok (.aload_n 0, 1) := by decide +kernel
theorem dX6_parse_45 : decode cX6_parse 45 = .ok (.iconst 0, 1) := by decide +kernel
theorem dX6_parse_46 : decode cX6_parse 46 = .ok (.putfield 13, 3) := by decide +kernel
theorem dX6_parse_49 : decode cX6_parse 49 = .ok (.iload_n 3, 1) := by decide +kernel
theorem dX6_parse_50 : decode cX6_parse 50 = .ok (.ifCond .eq 13, 3) := by decide +kernel
theorem dX6_parse_53 : decode cX6_parse 53 = .ok (.aload_n 0, 1) := by decide +kernel
theorem dX6_parse_54 : decode cX6_parse 54 = .ok (.aload_n 2, 1) := by decide +kernel
theorem dX6_parse_55 : decode cX6_parse 55 = .ok (.getfield 75, 3) := by decide +kernel
theorem dX6_parse_58 : decode cX6_parse 58 = .ok (.putfield 17, 3) := by decide +kernel
theorem dX6_parse_61 : decode cX6_parse 61 = .ok (.iload_n 3, 1) := by decide +kernel
theorem dX6_parse_62 : decode cX6_parse 62 = .ok (.ireturn, 1) := by decide +kernel
theorem dX6_parse_63 : decode cX6_parse 63 = .ok (.aload_n 0, 1) := by decide +kernel
theorem dX6_parse_64 : decode cX6_parse 64 = .ok (.iconst (-1), 1) := by decide +kernel
theorem dX6_parse_65 : decode cX6_parse 65 = .ok (.putfield 17, 3) := by decide +kernel
theorem dX6_parse_68 : decode cX6_parse 68 = .ok (.aload_n 0, 1) := by decide +kernel
theorem dX6_parse_69 : decode cX6_parse 69 = .ok (.invokevirtual 76, 3) := by decide +kernel
theorem dX6_parse_72 : decode cX6_parse 72 = .ok (.iconst 0, 1) := by decide +kernel
theorem dX6_parse_73 : decode cX6_parse 73 = .ok (.ireturn, 1) := by decide +kernel
theorem dX6_errorPosition_0 : decode cX6_errorPosition 0 = .ok (.aload_n 0, 1) := by decide +kernel
theorem dX6_errorPosition_1 : decode cX6_errorPosition 1 = .ok (.getfield 17, 3) := by decide +kernel
theorem dX6_errorPosition_4 : decode cX6_errorPosition 4 = .ok (.ireturn, 1) := by decide +kernel
theorem dX6_peerCount_0 : decode cX6_peerCount 0 = .ok (.aload_n 0, 1) := by decide +kernel
theorem dX6_peerCount_1 : decode cX6_peerCount 1 = .ok (.getfield 23, 3) := by decide +kernel
theorem dX6_peerCount_4 : decode cX6_peerCount 4 = .ok (.getfield 79, 3) := by decide +kernel
theorem dX6_peerCount_7 : decode cX6_peerCount 7 = .ok (.ireturn, 1) := by decide +kernel
theorem dX6_tick_0 : decode cX6_tick 0 = .ok (.aload_n 0, 1) := by decide +kernel
theorem dX6_tick_1 : decode cX6_tick 1 = .ok (.getfield 33, 3) := by decide +kernel
theorem dX6_tick_4 : decode cX6_tick 4 = .ok (.getfield 82, 3) := by decide +kernel
theorem dX6_tick_7 : decode cX6_tick 7 = .ok (.ireturn, 1) := by decide +kernel
theorem dX6_knows_0 : decode cX6_knows 0 = .ok (.aload_n 0, 1) := by decide +kernel
theorem dX6_knows_1 : decode cX6_knows 1 = .ok (.iload_n 1, 1) := by decide +kernel
theorem dX6_knows_2 : decode cX6_knows 2 = .ok (.iload_n 2, 1) := by decide +kernel
theorem dX6_knows_3 : decode cX6_knows 3 = .ok (.invokevirtual 85, 3) := by decide +kernel
theorem dX6_knows_6 : decode cX6_knows 6 = .ok (.aload_n 0, 1) := by decide +kernel
theorem dX6_knows_7 : decode cX6_knows 7 = .ok (.getfield 33, 3) := by decide +kernel
theorem dX6_knows_10 : decode cX6_knows 10 = .ok (.iload_n 1, 1) := by decide +kernel
theorem dX6_knows_11 : decode cX6_knows 11 = .ok (.iload_n 2, 1) := by decide +kernel
theorem dX6_knows_12 : decode cX6_knows 12 = .ok (.invokevirtual 89, 3) := by decide +kernel
theorem dX6_knows_15 : decode cX6_knows 15 = .ok (.ireturn, 1) := by decide +kernel
theorem dX6_delay_0 : decode cX6_delay 0 = .ok (.aload_n 0, 1) := by decide +kernel
theorem dX6_delay_1 : decode cX6_delay 1 = .ok (.iload_n 1, 1) := by decide +kernel
theorem dX6_delay_2 : decode cX6_delay 2 = .ok (.iload_n 2, 1) := by decide +kernel
theorem dX6_delay_3 : decode cX6_delay 3 = .ok (.invokevirtual 85, 3) := by decide +kernel
theorem dX6_delay_6 : decode cX6_delay 6 = .ok (.aload_n 0, 1) := by decide +kernel
theorem dX6_delay_7 : decode cX6_delay 7 = .ok (.getfield 33, 3) := by decide +kernel
theorem dX6_delay_10 : decode cX6_delay 10 = .ok (.iload_n 1, 1) := by decide +kernel
theorem dX6_delay_11 : decode cX6_delay 11 = .ok (.iload_n 2, 1) := by decide +kernel
theorem dX6_delay_12 : decode cX6_delay 12 = .ok (.invokevirtual 93, 3) := by decide +kernel
theorem dX6_delay_15 : decode cX6_delay 15 = .ok (.ifCond .eq 15, 3) := by decide +kernel
theorem dX6_delay_18 : decode cX6_delay 18 = .ok (.aload_n 0, 1) := by decide +kernel
theorem dX6_delay_19 : decode cX6_delay 19 = .ok (.getfield 23, 3) := by decide +kernel
theorem dX6_delay_22 : decode cX6_delay 22 = .ok (.iload_n 1, 1) := by decide +kernel
theorem dX6_delay_23 : decode cX6_delay 23 = .ok (.iload_n 2, 1) := by decide +kernel
theorem dX6_delay_24 : decode cX6_delay 24 = .ok (.invokevirtual 96, 3) := by decide +kernel
theorem dX6_delay_27 : decode cX6_delay 27 = .ok (.goto 4, 3) := by decide +kernel
theorem dX6_delay_30 : decode cX6_delay 30 = .ok (.iconst (-1), 1) := by decide +kernel
theorem dX6_delay_31 : decode cX6_delay 31 = .ok (.ireturn, 1) := by decide +kernel
theorem dX6_introductionsNeeded_0 : decode cX6_introductionsNeeded 0 = .ok (.aload_n 0, 1) := by decide +kernel
theorem dX6_introductionsNeeded_1 : decode cX6_introductionsNeeded 1 = .ok (.iload_n 1, 1) := by decide +kernel
theorem dX6_introductionsNeeded_2 : decode cX6_introductionsNeeded 2 = .ok (.iload_n 2, 1) := by decide +kernel
theorem dX6_introductionsNeeded_3 : decode cX6_introductionsNeeded 3 = .ok (.invokevirtual 100, 3) := by decide +kernel
theorem dX6_introductionsNeeded_6 : decode cX6_introductionsNeeded 6 = .ok (.aload_n 0, 1) := by decide +kernel
theorem dX6_introductionsNeeded_7 : decode cX6_introductionsNeeded 7 = .ok (.getfield 33, 3) := by decide +kernel
theorem dX6_introductionsNeeded_10 : decode cX6_introductionsNeeded 10 = .ok (.iload_n 1, 1) := by decide +kernel
theorem dX6_introductionsNeeded_11 : decode cX6_introductionsNeeded 11 = .ok (.iload_n 2, 1) := by decide +kernel
theorem dX6_introductionsNeeded_12 : decode cX6_introductionsNeeded 12 = .ok (.invokevirtual 103, 3) := by decide +kernel
theorem dX6_introductionsNeeded_15 : decode cX6_introductionsNeeded 15 = .ok (.istore_n 3, 1) := by decide +kernel
theorem dX6_introductionsNeeded_16 : decode cX6_introductionsNeeded 16 = .ok (.iload_n 3, 1) := by decide +kernel
theorem dX6_introductionsNeeded_17 : decode cX6_introductionsNeeded 17 = .ok (.iconst (-1), 1) := by decide +kernel
theorem dX6_introductionsNeeded_18 : decode cX6_introductionsNeeded 18 = .ok (.if_icmp .ne 7, 3) := by decide +kernel
theorem dX6_introductionsNeeded_21 : decode cX6_introductionsNeeded 21 = .ok (.iconst (-1), 1) := by decide +kernel
theorem dX6_introductionsNeeded_22 : decode cX6_introductionsNeeded 22 = .ok (.goto 6, 3) := by decide +kernel
theorem dX6_introductionsNeeded_25 : decode cX6_introductionsNeeded 25 = .ok (.iload_n 3, 1) := by decide +kernel
theorem dX6_introductionsNeeded_26 : decode cX6_introductionsNeeded 26 = .ok (.iconst 1, 1) := by decide +kernel
theorem dX6_introductionsNeeded_27 : decode cX6_introductionsNeeded 27 = .ok (.isub, 1) := by decide +kernel
theorem dX6_introductionsNeeded_28 : decode cX6_introductionsNeeded 28 = .ok (.ireturn, 1) := by decide +kernel
theorem dX6_introducer_0 : decode cX6_introducer 0 = .ok (.aload_n 0, 1) := by decide +kernel
theorem dX6_introducer_1 : decode cX6_introducer 1 = .ok (.iload_n 1, 1) := by decide +kernel
theorem dX6_introducer_2 : decode cX6_introducer 2 = .ok (.iload_n 2, 1) := by decide +kernel
theorem dX6_introducer_3 : decode cX6_introducer 3 = .ok (.invokevirtual 100, 3) := by decide +kernel
theorem dX6_introducer_6 : decode cX6_introducer 6 = .ok (.iconst 0, 1) := by decide +kernel
theorem dX6_introducer_7 : decode cX6_introducer 7 = .ok (.istore_n 3, 1) := by decide +kernel
theorem dX6_introducer_8 : decode cX6_introducer 8 = .ok (.iload_n 3, 1) := by decide +kernel
theorem dX6_introducer_9 : decode cX6_introducer 9 = .ok (.aload_n 0, 1) := by decide +kernel
theorem dX6_introducer_10 : decode cX6_introducer 10 = .ok (.getfield 23, 3) := by decide +kernel
theorem dX6_introducer_13 : decode cX6_introducer 13 = .ok (.getfield 79, 3) := by decide +kernel
theorem dX6_introducer_16 : decode cX6_introducer 16 = .ok (.if_icmp .ge 35, 3) := by decide +kernel
theorem dX6_introducer_19 : decode cX6_introducer 19 = .ok (.aload_n 0, 1) := by decide +kernel
theorem dX6_introducer_20 : decode cX6_introducer 20 = .ok (.getfield 33, 3) := by decide +kernel
theorem dX6_introducer_23 : decode cX6_introducer 23 = .ok (.iload_n 3, 1) := by decide +kernel
theorem dX6_introducer_24 : decode cX6_introducer 24 = .ok (.iload_n 1, 1) := by decide +kernel
theorem dX6_introducer_25 : decode cX6_introducer 25 = .ok (.invokevirtual 89, 3) := by decide +kernel
theorem dX6_introducer_28 : decode cX6_introducer 28 = .ok (.ifCond .eq 17, 3) := by decide +kernel
theorem dX6_introducer_31 : decode cX6_introducer 31 = .ok (.aload_n 0, 1) := by decide +kernel
theorem dX6_introducer_32 : decode cX6_introducer 32 = .ok (.getfield 33, 3) := by decide +kernel
theorem dX6_introducer_35 : decode cX6_introducer 35 = .ok (.iload_n 3, 1) := by decide +kernel
theorem dX6_introducer_36 : decode cX6_introducer 36 = .ok (.iload_n 2, 1) := by decide +kernel
theorem dX6_introducer_37 : decode cX6_introducer 37 = .ok (.invokevirtual 89, 3) := by decide +kernel
theorem dX6_introducer_40 : decode cX6_introducer 40 = .ok (.ifCond .eq 5, 3) := by decide +kernel
theorem dX6_introducer_43 : decode cX6_introducer 43 = .ok (.iload_n 3, 1) := by decide +kernel
theorem dX6_introducer_44 : decode cX6_introducer 44 = .ok (.ireturn, 1) := by decide +kernel
theorem dX6_introducer_45 : decode cX6_introducer 45 = .ok (.iinc 3 1, 3) := by decide +kernel
theorem dX6_introducer_48 : decode cX6_introducer 48 = .ok (.goto (-40), 3) := by decide +kernel
theorem dX6_introducer_51 : decode cX6_introducer 51 = .ok (.iconst (-1), 1) := by decide +kernel
theorem dX6_introducer_52 : decode cX6_introducer 52 = .ok (.ireturn, 1) := by decide +kernel
theorem dX6_load_0 : decode cX6_load 0 = .ok (.aload_n 0, 1) := by decide +kernel
theorem dX6_load_1 : decode cX6_load 1 = .ok (.iload_n 1, 1) := by decide +kernel
theorem dX6_load_2 : decode cX6_load 2 = .ok (.invokevirtual 106, 3) := by decide +kernel
theorem dX6_load_5 : decode cX6_load 5 = .ok (.aload_n 0, 1) := by decide +kernel
theorem dX6_load_6 : decode cX6_load 6 = .ok (.getfield 33, 3) := by decide +kernel
theorem dX6_load_9 : decode cX6_load 9 = .ok (.iload_n 1, 1) := by decide +kernel
theorem dX6_load_10 : decode cX6_load 10 = .ok (.invokevirtual 109, 3) := by decide +kernel
theorem dX6_load_13 : decode cX6_load 13 = .ok (.ireturn, 1) := by decide +kernel
theorem dX6_bestRelay_0 : decode cX6_bestRelay 0 = .ok (.aload_n 0, 1) := by decide +kernel
theorem dX6_bestRelay_1 : decode cX6_bestRelay 1 = .ok (.iload_n 1, 1) := by decide +kernel
theorem dX6_bestRelay_2 : decode cX6_bestRelay 2 = .ok (.iload_n 2, 1) := by decide +kernel
theorem dX6_bestRelay_3 : decode cX6_bestRelay 3 = .ok (.invokevirtual 100, 3) := by decide +kernel
theorem dX6_bestRelay_6 : decode cX6_bestRelay 6 = .ok (.aload_n 0, 1) := by decide +kernel
theorem dX6_bestRelay_7 : decode cX6_bestRelay 7 = .ok (.getfield 33, 3) := by decide +kernel
theorem dX6_bestRelay_10 : decode cX6_bestRelay 10 = .ok (.aload_n 0, 1) := by decide +kernel
theorem dX6_bestRelay_11 : decode cX6_bestRelay 11 = .ok (.getfield 23, 3) := by decide +kernel
theorem dX6_bestRelay_14 : decode cX6_bestRelay 14 = .ok (.iload_n 1, 1) := by decide +kernel
theorem dX6_bestRelay_15 : decode cX6_bestRelay 15 = .ok (.iload_n 2, 1) := by decide +kernel
theorem dX6_bestRelay_16 : decode cX6_bestRelay 16 = .ok (.invokevirtual 113, 3) := by decide +kernel
theorem dX6_bestRelay_19 : decode cX6_bestRelay 19 = .ok (.ireturn, 1) := by decide +kernel
theorem dX6_relayScore_0 : decode cX6_relayScore 0 = .ok (.aload_n 0, 1) := by decide +kernel
theorem dX6_relayScore_1 : decode cX6_relayScore 1 = .ok (.iload_n 1, 1) := by decide +kernel
theorem dX6_relayScore_2 : decode cX6_relayScore 2 = .ok (.iload_n 2, 1) := by decide +kernel
theorem dX6_relayScore_3 : decode cX6_relayScore 3 = .ok (.iload_n 3, 1) := by decide +kernel
theorem dX6_relayScore_4 : decode cX6_relayScore 4 = .ok (.invokevirtual 117, 3) := by decide +kernel
theorem dX6_relayScore_7 : decode cX6_relayScore 7 = .ok (.aload_n 0, 1) := by decide +kernel
theorem dX6_relayScore_8 : decode cX6_relayScore 8 = .ok (.getfield 33, 3) := by decide +kernel
theorem dX6_relayScore_11 : decode cX6_relayScore 11 = .ok (.iload_n 1, 1) := by decide +kernel
theorem dX6_relayScore_12 : decode cX6_relayScore 12 = .ok (.iload_n 2, 1) := by decide +kernel
theorem dX6_relayScore_13 : decode cX6_relayScore 13 = .ok (.iload_n 3, 1) := by decide +kernel
theorem dX6_relayScore_14 : decode cX6_relayScore 14 = .ok (.invokevirtual 121, 3) := by decide +kernel
theorem dX6_relayScore_17 : decode cX6_relayScore 17 = .ok (.ifCond .ne 13, 3) := by decide +kernel
theorem dX6_relayScore_20 : decode cX6_relayScore 20 = .ok (.new 125, 3) := by decide +kernel
theorem dX6_relayScore_23 : decode cX6_relayScore 23 = .ok (.dup, 1) := by decide +kernel
theorem dX6_relayScore_24 : decode cX6_relayScore 24 = .ok (.ldc 127, 2) := by decide +kernel
theorem dX6_relayScore_26 : decode cX6_relayScore 26 = .ok (.invokespecial 129, 3) := by decide +kernel
theorem dX6_relayScore_29 : decode cX6_relayScore 29 = .ok (.athrow, 1) := by decide +kernel
theorem dX6_relayScore_30 : decode cX6_relayScore 30 = .ok (.aload_n 0, 1) := by decide +kernel
theorem dX6_relayScore_31 : decode cX6_relayScore 31 = .ok (.getfield 33, 3) := by decide +kernel
theorem dX6_relayScore_34 : decode cX6_relayScore 34 = .ok (.aload_n 0, 1) := by decide +kernel
theorem dX6_relayScore_35 : decode cX6_relayScore 35 = .ok (.getfield 23, 3) := by decide +kernel
theorem dX6_relayScore_38 : decode cX6_relayScore 38 = .ok (.iload_n 1, 1) := by decide +kernel
theorem dX6_relayScore_39 : decode cX6_relayScore 39 = .ok (.iload_n 2, 1) := by decide +kernel
theorem dX6_relayScore_40 : decode cX6_relayScore 40 = .ok (.iload_n 3, 1) := by decide +kernel
theorem dX6_relayScore_41 : decode cX6_relayScore 41 = .ok (.invokevirtual 130, 3) := by decide +kernel
theorem dX6_relayScore_44 : decode cX6_relayScore 44 = .ok (.ireturn, 1) := by decide +kernel
theorem dX6_sessions_0 : decode cX6_sessions 0 = .ok (.iconst 0, 1) := by decide +kernel
theorem dX6_sessions_1 : decode cX6_sessions 1 = .ok (.istore_n 1, 1) := by decide +kernel
theorem dX6_sessions_2 : decode cX6_sessions 2 = .ok (.iconst 0, 1) := by decide +kernel
theorem dX6_sessions_3 : decode cX6_sessions 3 = .ok (.istore_n 2, 1) := by decide +kernel
theorem dX6_sessions_4 : decode cX6_sessions 4 = .ok (.iload_n 2, 1) := by decide +kernel
theorem dX6_sessions_5 : decode cX6_sessions 5 = .ok (.bipush 6, 2) := by decide +kernel
theorem dX6_sessions_7 : decode cX6_sessions 7 = .ok (.if_icmp .ge 30, 3) := by decide +kernel
theorem dX6_sessions_10 : decode cX6_sessions 10 = .ok (.aload_n 0, 1) := by decide +kernel
theorem dX6_sessions_11 : decode cX6_sessions 11 = .ok (.getfield 33, 3) := by decide +kernel
theorem dX6_sessions_14 : decode cX6_sessions 14 = .ok (.getfield 134, 3) := by decide +kernel
theorem dX6_sessions_17 : decode cX6_sessions 17 = .ok (.iload_n 2, 1) := by decide +kernel
theorem dX6_sessions_18 : decode cX6_sessions 18 = .ok (.aaload, 1) := by decide +kernel
theorem dX6_sessions_19 : decode cX6_sessions 19 = .ok (.getfield 138, 3) := by decide +kernel
theorem dX6_sessions_22 : decode cX6_sessions 22 = .ok (.ifCond .eq 9, 3) := by decide +kernel
theorem dX6_sessions_25 : decode cX6_sessions 25 = .ok (.iload_n 1, 1) := by decide +kernel
theorem dX6_sessions_26 : decode cX6_sessions 26 = .ok (.iconst 1, 1) := by decide +kernel
theorem dX6_sessions_27 : decode cX6_sessions 27 = .ok (.iload_n 2, 1) := by decide +kernel
theorem dX6_sessions_28 : decode cX6_sessions 28 = .ok (.ishl, 1) := by decide +kernel
theorem dX6_sessions_29 : decode cX6_sessions 29 = .ok (.ior, 1) := by decide +kernel
theorem dX6_sessions_30 : decode cX6_sessions 30 = .ok (.istore_n 1, 1) := by decide +kernel
theorem dX6_sessions_31 : decode cX6_sessions 31 = .ok (.iinc 2 1, 3) := by decide +kernel
theorem dX6_sessions_34 : decode cX6_sessions 34 = .ok (.goto (-30), 3) := by decide +kernel
theorem dX6_sessions_37 : decode cX6_sessions 37 = .ok (.iload_n 1, 1) := by decide +kernel
theorem dX6_sessions_38 : decode cX6_sessions 38 = .ok (.ireturn, 1) := by decide +kernel
theorem dX6_session_0 : decode cX6_session 0 = .ok (.aload_n 0, 1) := by decide +kernel
theorem dX6_session_1 : decode cX6_session 1 = .ok (.iload_n 1, 1) := by decide +kernel
theorem dX6_session_2 : decode cX6_session 2 = .ok (.iload_n 2, 1) := by decide +kernel
theorem dX6_session_3 : decode cX6_session 3 = .ok (.invokevirtual 100, 3) := by decide +kernel
theorem dX6_session_6 : decode cX6_session 6 = .ok (.aload_n 0, 1) := by decide +kernel
theorem dX6_session_7 : decode cX6_session 7 = .ok (.getfield 33, 3) := by decide +kernel
theorem dX6_session_10 : decode cX6_session 10 = .ok (.iload_n 1, 1) := by decide +kernel
theorem dX6_session_11 : decode cX6_session 11 = .ok (.iload_n 2, 1) := by decide +kernel
theorem dX6_session_12 : decode cX6_session 12 = .ok (.invokevirtual 144, 3) := by decide +kernel
theorem dX6_session_15 : decode cX6_session 15 = .ok (.ireturn, 1) := by decide +kernel
theorem dX6_path_0 : decode cX6_path 0 = .ok (.aload_n 0, 1) := by decide +kernel
theorem dX6_path_1 : decode cX6_path 1 = .ok (.iload_n 1, 1) := by decide +kernel
theorem dX6_path_2 : decode cX6_path 2 = .ok (.invokevirtual 147, 3) := by decide +kernel
theorem dX6_path_5 : decode cX6_path 5 = .ok (.getfield 151, 3) := by decide +kernel
theorem dX6_path_8 : decode cX6_path 8 = .ok (.ireturn, 1) := by decide +kernel
theorem dX6_oldPath_0 : decode cX6_oldPath 0 = .ok (.aload_n 0, 1) := by decide +kernel
theorem dX6_oldPath_1 : decode cX6_oldPath 1 = .ok (.iload_n 1, 1) := by decide +kernel
theorem dX6_oldPath_2 : decode cX6_oldPath 2 = .ok (.invokevirtual 147, 3) := by decide +kernel
theorem dX6_oldPath_5 : decode cX6_oldPath 5 = .ok (.getfield 154, 3) := by decide +kernel
theorem dX6_oldPath_8 : decode cX6_oldPath 8 = .ok (.ireturn, 1) := by decide +kernel
theorem dX6_successes_0 : decode cX6_successes 0 = .ok (.aload_n 0, 1) := by decide +kernel
theorem dX6_successes_1 : decode cX6_successes 1 = .ok (.iload_n 1, 1) := by decide +kernel
theorem dX6_successes_2 : decode cX6_successes 2 = .ok (.invokevirtual 147, 3) := by decide +kernel
theorem dX6_successes_5 : decode cX6_successes 5 = .ok (.getfield 157, 3) := by decide +kernel
theorem dX6_successes_8 : decode cX6_successes 8 = .ok (.ireturn, 1) := by decide +kernel
theorem dX6_messages_0 : decode cX6_messages 0 = .ok (.aload_n 0, 1) := by decide +kernel
theorem dX6_messages_1 : decode cX6_messages 1 = .ok (.iload_n 1, 1) := by decide +kernel
theorem dX6_messages_2 : decode cX6_messages 2 = .ok (.invokevirtual 147, 3) := by decide +kernel
theorem dX6_messages_5 : decode cX6_messages 5 = .ok (.astore_n 3, 1) := by decide +kernel
theorem dX6_messages_6 : decode cX6_messages 6 = .ok (.iload_n 2, 1) := by decide +kernel
theorem dX6_messages_7 : decode cX6_messages 7 = .ok (.ifCond .lt 8, 3) := by decide +kernel
theorem dX6_messages_10 : decode cX6_messages 10 = .ok (.iload_n 2, 1) := by decide +kernel
theorem dX6_messages_11 : decode cX6_messages 11 = .ok (.iconst 3, 1) := by decide +kernel
theorem dX6_messages_12 : decode cX6_messages 12 = .ok (.if_icmp .le 13, 3) := by decide +kernel
theorem dX6_messages_15 : decode cX6_messages 15 = .ok (.new 59, 3) := by decide +kernel
theorem dX6_messages_18 : decode cX6_messages 18 = .ok (.dup, 1) := by decide +kernel
theorem dX6_messages_19 : decode cX6_messages 19 = .ok (.ldc 160, 2) := by decide +kernel
theorem dX6_messages_21 : decode cX6_messages 21 = .ok (.invokespecial 63, 3) := by decide +kernel
theorem dX6_messages_24 : decode cX6_messages 24 = .ok (.athrow, 1) := by decide +kernel
theorem dX6_messages_25 : decode cX6_messages 25 = .ok (.iload_n 2, 1) := by decide +kernel
theorem dX6_messages_26 : decode cX6_messages 26 = .ok (.iconst 3, 1) := by decide +kernel
theorem dX6_messages_27 : decode cX6_messages 27 = .ok (.if_icmp .ne 10, 3) := by decide +kernel
theorem dX6_messages_30 : decode cX6_messages 30 = .ok (.aload_n 3, 1) := by decide +kernel
theorem dX6_messages_31 : decode cX6_messages 31 = .ok (.getfield 162, 3) := by decide +kernel
theorem dX6_messages_34 : decode cX6_messages 34 = .ok (.goto 8, 3) := by decide +kernel
theorem dX6_messages_37 : decode cX6_messages 37 = .ok (.aload_n 3, 1) := by decide +kernel
theorem dX6_messages_38 : decode cX6_messages 38 = .ok (.iload_n 2, 1) := by decide +kernel
theorem dX6_messages_39 : decode cX6_messages 39 = .ok (.invokevirtual 165, 3) := by decide +kernel
theorem dX6_messages_42 : decode cX6_messages 42 = .ok (.ireturn, 1) := by decide +kernel
theorem dX6_lastValue_0 : decode cX6_lastValue 0 = .ok (.aload_n 0, 1) := by decide +kernel
theorem dX6_lastValue_1 : decode cX6_lastValue 1 = .ok (.iload_n 1, 1) := by decide +kernel
theorem dX6_lastValue_2 : decode cX6_lastValue 2 = .ok (.invokevirtual 147, 3) := by decide +kernel
theorem dX6_lastValue_5 : decode cX6_lastValue 5 = .ok (.astore_n 2, 1) := by decide +kernel
theorem dX6_lastValue_6 : decode cX6_lastValue 6 = .ok (.aload_n 2, 1) := by decide +kernel
theorem dX6_lastValue_7 : decode cX6_lastValue 7 = .ok (.getfield 162, 3) := by decide +kernel
theorem dX6_lastValue_10 : decode cX6_lastValue 10 = .ok (.ifCond .ne 13, 3) := by decide +kernel
theorem dX6_lastValue_13 : decode cX6_lastValue 13 = .ok (.new 125, 3) := by decide +kernel
theorem dX6_lastValue_16 : decode cX6_lastValue 16 = .ok (.dup, 1) := by decide +kernel
theorem dX6_lastValue_17 : decode cX6_lastValue 17 = .ok (.ldc 168, 2) := by decide +kernel
theorem dX6_lastValue_19 : decode cX6_lastValue 19 = .ok (.invokespecial 129, 3) := by decide +kernel
theorem dX6_lastValue_22 : decode cX6_lastValue 22 = .ok (.athrow, 1) := by decide +kernel
theorem dX6_lastValue_23 : decode cX6_lastValue 23 = .ok (.aload_n 2, 1) := by decide +kernel
theorem dX6_lastValue_24 : decode cX6_lastValue 24 = .ok (.getfield 170, 3) := by decide +kernel
theorem dX6_lastValue_27 : decode cX6_lastValue 27 = .ok (.ireturn, 1) := by decide +kernel
theorem dX6_digest_0 : decode cX6_digest 0 = .ok (.aload_n 0, 1) := by decide +kernel
theorem dX6_digest_1 : decode cX6_digest 1 = .ok (.iload_n 1, 1) := by decide +kernel
theorem dX6_digest_2 : decode cX6_digest 2 = .ok (.invokevirtual 147, 3) := by decide +kernel
theorem dX6_digest_5 : decode cX6_digest 5 = .ok (.getfield 173, 3) := by decide +kernel
theorem dX6_digest_8 : decode cX6_digest 8 = .ok (.ireturn, 1) := by decide +kernel
theorem dX6_key_0 : decode cX6_key 0 = .ok (.aload_n 0, 1) := by decide +kernel
theorem dX6_key_1 : decode cX6_key 1 = .ok (.iload_n 1, 1) := by decide +kernel
theorem dX6_key_2 : decode cX6_key 2 = .ok (.invokevirtual 147, 3) := by decide +kernel
theorem dX6_key_5 : decode cX6_key 5 = .ok (.getfield 176, 3) := by decide +kernel
theorem dX6_key_8 : decode cX6_key 8 = .ok (.ireturn, 1) := by decide +kernel
theorem dX6_oldestKey_0 : decode cX6_oldestKey 0 = .ok (.aload_n 0, 1) := by decide +kernel
theorem dX6_oldestKey_1 : decode cX6_oldestKey 1 = .ok (.iload_n 1, 1) := by decide +kernel
theorem dX6_oldestKey_2 : decode cX6_oldestKey 2 = .ok (.invokevirtual 147, 3) := by decide +kernel
theorem dX6_oldestKey_5 : decode cX6_oldestKey 5 = .ok (.invokevirtual 179, 3) := by decide +kernel
theorem dX6_oldestKey_8 : decode cX6_oldestKey 8 = .ok (.ireturn, 1) := by decide +kernel
theorem dX6_keyStart_0 : decode cX6_keyStart 0 = .ok (.aload_n 0, 1) := by decide +kernel
theorem dX6_keyStart_1 : decode cX6_keyStart 1 = .ok (.iload_n 1, 1) := by decide +kernel
theorem dX6_keyStart_2 : decode cX6_keyStart 2 = .ok (.invokevirtual 147, 3) := by decide +kernel
theorem dX6_keyStart_5 : decode cX6_keyStart 5 = .ok (.astore_n 2, 1) := by decide +kernel
theorem dX6_keyStart_6 : decode cX6_keyStart 6 = .ok (.aload_n 2, 1) := by decide +kernel
theorem dX6_keyStart_7 : decode cX6_keyStart 7 = .ok (.getfield 182, 3) := by decide +kernel
theorem dX6_keyStart_10 : decode cX6_keyStart 10 = .ok (.aload_n 2, 1) := by decide +kernel
theorem dX6_keyStart_11 : decode cX6_keyStart 11 = .ok (.getfield 185, 3) := by decide +kernel
theorem dX6_keyStart_14 : decode cX6_keyStart 14 = .ok (.isub, 1) := by decide +kernel
theorem dX6_keyStart_15 : decode cX6_keyStart 15 = .ok (.ireturn, 1) := by decide +kernel
theorem dX6_ticksToDeliver_0 : decode cX6_ticksToDeliver 0 = .ok (.aload_n 0, 1) := by decide +kernel
theorem dX6_ticksToDeliver_1 : decode cX6_ticksToDeliver 1 = .ok (.iload_n 1, 1) := by decide +kernel
theorem dX6_ticksToDeliver_2 : decode cX6_ticksToDeliver 2 = .ok (.invokevirtual 188, 3) := by decide +kernel
theorem dX6_ticksToDeliver_5 : decode cX6_ticksToDeliver 5 = .ok (.astore_n 2, 1) := by decide +kernel
theorem dX6_ticksToDeliver_6 : decode cX6_ticksToDeliver 6 = .ok (.iconst 0, 1) := by decide +kernel
theorem dX6_ticksToDeliver_7 : decode cX6_ticksToDeliver 7 = .ok (.istore_n 3, 1) := by decide +kernel
theorem dX6_ticksToDeliver_8 : decode cX6_ticksToDeliver 8 = .ok (.iload_n 3, 1) := by decide +kernel
theorem dX6_ticksToDeliver_9 : decode cX6_ticksToDeliver 9 = .ok (.sipush 300, 3) := by decide +kernel
theorem dX6_ticksToDeliver_12 : decode cX6_ticksToDeliver 12 = .ok (.if_icmp .gt 34, 3) := by decide +kernel
theorem dX6_ticksToDeliver_15 : decode cX6_ticksToDeliver 15 = .ok (.aload_n 2, 1) := by decide +kernel
theorem dX6_ticksToDeliver_16 : decode cX6_ticksToDeliver 16 = .ok (.getfield 162, 3) := by decide +kernel
theorem dX6_ticksToDeliver_19 : decode cX6_ticksToDeliver 19 = .ok (.aload_n 2, 1) := by decide +kernel
theorem dX6_ticksToDeliver_20 : decode cX6_ticksToDeliver 20 = .ok (.getfield 182, 3) := by decide +kernel
theorem dX6_ticksToDeliver_23 : decode cX6_ticksToDeliver 23 = .ok (.if_icmp .ne 5, 3) := by decide +kernel
theorem dX6_ticksToDeliver_26 : decode cX6_ticksToDeliver 26 = .ok (.iload_n 3, 1) := by decide +kernel
theorem dX6_ticksToDeliver_27 : decode cX6_ticksToDeliver 27 = .ok (.ireturn, 1) := by decide +kernel
theorem dX6_ticksToDeliver_28 : decode cX6_ticksToDeliver 28 = .ok (.aload_n 0, 1) := by decide +kernel
theorem dX6_ticksToDeliver_29 : decode cX6_ticksToDeliver 29 = .ok (.getfield 37, 3) := by decide +kernel
theorem dX6_ticksToDeliver_32 : decode cX6_ticksToDeliver 32 = .ok (.aload_n 0, 1) := by decide +kernel
theorem dX6_ticksToDeliver_33 : decode cX6_ticksToDeliver 33 = .ok (.getfield 23, 3) := by decide +kernel
theorem dX6_ticksToDeliver_36 : decode cX6_ticksToDeliver 36 = .ok (.invokevirtual 191, 3) := by decide +kernel
theorem dX6_ticksToDeliver_39 : decode cX6_ticksToDeliver 39 = .ok (.pop, 1) := by decide +kernel
theorem dX6_ticksToDeliver_40 : decode cX6_ticksToDeliver 40 = .ok (.iinc 3 1, 3) := by decide +kernel
theorem dX6_ticksToDeliver_43 : decode cX6_ticksToDeliver 43 = .ok (.goto (-35), 3) := by decide +kernel
theorem dX6_ticksToDeliver_46 : decode cX6_ticksToDeliver 46 = .ok (.iconst (-1), 1) := by decide +kernel
theorem dX6_ticksToDeliver_47 : decode cX6_ticksToDeliver 47 = .ok (.ireturn, 1) := by decide +kernel
theorem dX6_ticksToDirect_0 : decode cX6_ticksToDirect 0 = .ok (.aload_n 0, 1) := by decide +kernel
theorem dX6_ticksToDirect_1 : decode cX6_ticksToDirect 1 = .ok (.iload_n 1, 1) := by decide +kernel
theorem dX6_ticksToDirect_2 : decode cX6_ticksToDirect 2 = .ok (.invokevirtual 188, 3) := by decide +kernel
theorem dX6_ticksToDirect_5 : decode cX6_ticksToDirect 5 = .ok (.astore_n 2, 1) := by decide +kernel
theorem dX6_ticksToDirect_6 : decode cX6_ticksToDirect 6 = .ok (.iconst 0, 1) := by decide +kernel
theorem dX6_ticksToDirect_7 : decode cX6_ticksToDirect 7 = .ok (.istore_n 3, 1) := by decide +kernel
theorem dX6_ticksToDirect_8 : decode cX6_ticksToDirect 8 = .ok (.iload_n 3, 1) := by decide +kernel
theorem dX6_ticksToDirect_9 : decode cX6_ticksToDirect 9 = .ok (.sipush 300, 3) := by decide +kernel
theorem dX6_ticksToDirect_12 : decode cX6_ticksToDirect 12 = .ok (.if_icmp .gt 32, 3) := by decide +kernel
theorem dX6_ticksToDirect_15 : decode cX6_ticksToDirect 15 = .ok (.aload_n 2, 1) := by decide +kernel
theorem dX6_ticksToDirect_16 : decode cX6_ticksToDirect 16 = .ok (.getfield 151, 3) := by decide +kernel
theorem dX6_ticksToDirect_19 : decode cX6_ticksToDirect 19 = .ok (.bipush 100, 2) := by decide +kernel
theorem dX6_ticksToDirect_21 : decode cX6_ticksToDirect 21 = .ok (.if_icmp .ne 5, 3) := by decide +kernel
theorem dX6_ticksToDirect_24 : decode cX6_ticksToDirect 24 = .ok (.iload_n 3, 1) := by decide +kernel
theorem dX6_ticksToDirect_25 : decode cX6_ticksToDirect 25 = .ok (.ireturn, 1) := by decide +kernel
theorem dX6_ticksToDirect_26 : decode cX6_ticksToDirect 26 = .ok (.aload_n 0, 1) := by decide +kernel
theorem dX6_ticksToDirect_27 : decode cX6_ticksToDirect 27 = .ok (.getfield 37, 3) := by decide +kernel
theorem dX6_ticksToDirect_30 : decode cX6_ticksToDirect 30 = .ok (.aload_n 0, 1) := by decide +kernel
theorem dX6_ticksToDirect_31 : decode cX6_ticksToDirect 31 = .ok (.getfield 23, 3) := by decide +kernel
theorem dX6_ticksToDirect_34 : decode cX6_ticksToDirect 34 = .ok (.invokevirtual 191, 3) := by decide +kernel
theorem dX6_ticksToDirect_37 : decode cX6_ticksToDirect 37 = .ok (.pop, 1) := by decide +kernel
theorem dX6_ticksToDirect_38 : decode cX6_ticksToDirect 38 = .ok (.iinc 3 1, 3) := by decide +kernel
theorem dX6_ticksToDirect_41 : decode cX6_ticksToDirect 41 = .ok (.goto (-33), 3) := by decide +kernel
theorem dX6_ticksToDirect_44 : decode cX6_ticksToDirect 44 = .ok (.iconst (-1), 1) := by decide +kernel
theorem dX6_ticksToDirect_45 : decode cX6_ticksToDirect 45 = .ok (.ireturn, 1) := by decide +kernel
theorem dX6_run_0 : decode cX6_run 0 = .ok (.iload_n 1, 1) := by decide +kernel
theorem dX6_run_1 : decode cX6_run 1 = .ok (.iconst 1, 1) := by decide +kernel
theorem dX6_run_2 : decode cX6_run 2 = .ok (.if_icmp .lt 10, 3) := by decide +kernel
theorem dX6_run_5 : decode cX6_run 5 = .ok (.iload_n 1, 1) := by decide +kernel
theorem dX6_run_6 : decode cX6_run 6 = .ok (.sipush 300, 3) := by decide +kernel
theorem dX6_run_9 : decode cX6_run 9 = .ok (.if_icmp .le 13, 3) := by decide +kernel
theorem dX6_run_12 : decode cX6_run 12 = .ok (.new 59, 3) := by decide +kernel
theorem dX6_run_15 : decode cX6_run 15 = .ok (.dup, 1) := by decide +kernel
theorem dX6_run_16 : decode cX6_run 16 = .ok (.ldc 195, 2) := by decide +kernel
theorem dX6_run_18 : decode cX6_run 18 = .ok (.invokespecial 63, 3) := by decide +kernel
theorem dX6_run_21 : decode cX6_run 21 = .ok (.athrow, 1) := by decide +kernel
theorem dX6_run_22 : decode cX6_run 22 = .ok (.iload_n 1, 1) := by decide +kernel
theorem dX6_run_23 : decode cX6_run 23 = .ok (.sipush 9999, 3) := by decide +kernel
theorem dX6_run_26 : decode cX6_run 26 = .ok (.aload_n 0, 1) := by decide +kernel
theorem dX6_run_27 : decode cX6_run 27 = .ok (.getfield 33, 3) := by decide +kernel
theorem dX6_run_30 : decode cX6_run 30 = .ok (.getfield 82, 3) := by decide +kernel
theorem dX6_run_33 : decode cX6_run 33 = .ok (.isub, 1) := by decide +kernel
theorem dX6_run_34 : decode cX6_run 34 = .ok (.if_icmp .le 13, 3) := by decide +kernel
theorem dX6_run_37 : decode cX6_run 37 = .ok (.new 125, 3) := by decide +kernel
theorem dX6_run_40 : decode cX6_run 40 = .ok (.dup, 1) := by decide +kernel
theorem dX6_run_41 : decode cX6_run 41 = .ok (.ldc 197, 2) := by decide +kernel
theorem dX6_run_43 : decode cX6_run 43 = .ok (.invokespecial 129, 3) := by decide +kernel
theorem dX6_run_46 : decode cX6_run 46 = .ok (.athrow, 1) := by decide +kernel
theorem dX6_run_47 : decode cX6_run 47 = .ok (.aload_n 0, 1) := by decide +kernel
theorem dX6_run_48 : decode cX6_run 48 = .ok (.getfield 43, 3) := by decide +kernel
theorem dX6_run_51 : decode cX6_run 51 = .ok (.aload_n 0, 1) := by decide +kernel
theorem dX6_run_52 : decode cX6_run 52 = .ok (.getfield 33, 3) := by decide +kernel
theorem dX6_run_55 : decode cX6_run 55 = .ok (.invokevirtual 199, 3) := by decide +kernel
theorem dX6_run_58 : decode cX6_run 58 = .ok (.iconst 0, 1) := by decide +kernel
theorem dX6_run_59 : decode cX6_run 59 = .ok (.istore_n 2, 1) := by decide +kernel
theorem dX6_run_60 : decode cX6_run 60 = .ok (.iconst 0, 1) := by decide +kernel
theorem dX6_run_61 : decode cX6_run 61 = .ok (.istore_n 3, 1) := by decide +kernel
theorem dX6_run_62 : decode cX6_run 62 = .ok (.iload_n 3, 1) := by decide +kernel
theorem dX6_run_63 : decode cX6_run 63 = .ok (.iload_n 1, 1) := by decide +kernel
theorem dX6_run_64 : decode cX6_run 64 = .ok (.if_icmp .ge 23, 3) := by decide +kernel
theorem dX6_run_67 : decode cX6_run 67 = .ok (.iload_n 2, 1) := by decide +kernel
theorem dX6_run_68 : decode cX6_run 68 = .ok (.aload_n 0, 1) := by decide +kernel
theorem dX6_run_69 : decode cX6_run 69 = .ok (.getfield 33, 3) := by decide +kernel
theorem dX6_run_72 : decode cX6_run 72 = .ok (.aload_n 0, 1) := by decide +kernel
theorem dX6_run_73 : decode cX6_run 73 = .ok (.getfield 23, 3) := by decide +kernel
theorem dX6_run_76 : decode cX6_run 76 = .ok (.invokevirtual 191, 3) := by decide +kernel
theorem dX6_run_79 : decode cX6_run 79 = .ok (.iadd, 1) := by decide +kernel
theorem dX6_run_80 : decode cX6_run 80 = .ok (.istore_n 2, 1) := by decide +kernel
theorem dX6_run_81 : decode cX6_run 81 = .ok (.iinc 3 1, 3) := by decide +kernel
theorem dX6_run_84 : decode cX6_run 84 = .ok (.goto (-22), 3) := by decide +kernel
theorem dX6_run_87 : decode cX6_run 87 = .ok (.iload_n 2, 1) := by decide +kernel
theorem dX6_run_88 : decode cX6_run 88 = .ok (.ireturn, 1) := by decide +kernel
theorem dX6_introduce_0 : decode cX6_introduce 0 = .ok (.aload_n 0, 1) := by decide +kernel
theorem dX6_introduce_1 : decode cX6_introduce 1 = .ok (.iload_n 1, 1) := by decide +kernel
theorem dX6_introduce_2 : decode cX6_introduce 2 = .ok (.iload_n 2, 1) := by decide +kernel
theorem dX6_introduce_3 : decode cX6_introduce 3 = .ok (.iload_n 3, 1) := by decide +kernel
theorem dX6_introduce_4 : decode cX6_introduce 4 = .ok (.invokevirtual 117, 3) := by decide +kernel
theorem dX6_introduce_7 : decode cX6_introduce 7 = .ok (.aload_n 0, 1) := by decide +kernel
theorem dX6_introduce_8 : decode cX6_introduce 8 = .ok (.getfield 33, 3) := by decide +kernel
theorem dX6_introduce_11 : decode cX6_introduce 11 = .ok (.iload_n 1, 1) := by decide +kernel
theorem dX6_introduce_12 : decode cX6_introduce 12 = .ok (.iload_n 2, 1) := by decide +kernel
theorem dX6_introduce_13 : decode cX6_introduce 13 = .ok (.invokevirtual 89, 3) := by decide +kernel
theorem dX6_introduce_16 : decode cX6_introduce 16 = .ok (.ifCond .eq 15, 3) := by decide +kernel
theorem dX6_introduce_19 : decode cX6_introduce 19 = .ok (.aload_n 0, 1) := by decide +kernel
theorem dX6_introduce_20 : decode cX6_introduce 20 = .ok (.getfield 33, 3) := by decide +kernel
theorem dX6_introduce_23 : decode cX6_introduce 23 = .ok (.iload_n 1, 1) := by decide +kernel
theorem dX6_introduce_24 : decode cX6_introduce 24 = .ok (.iload_n 3, 1) := by decide +kernel
theorem dX6_introduce_25 : decode cX6_introduce 25 = .ok (.invokevirtual 89, 3) := by decide +kernel
theorem dX6_introduce_28 : decode cX6_introduce 28 = .ok (.ifCond .ne 13, 3) := by decide +kernel
theorem dX6_introduce_31 : decode cX6_introduce 31 = .ok (.new 125, 3) := by decide +kernel
theorem dX6_introduce_34 : decode cX6_introduce 34 = .ok (.dup, 1) := by decide +kernel
theorem dX6_introduce_35 : decode cX6_introduce 35 = .ok (.ldc 203, 2) := by decide +kernel
theorem dX6_introduce_37 : decode cX6_introduce 37 = .ok (.invokespecial 129, 3) := by decide +kernel
theorem dX6_introduce_40 : decode cX6_introduce 40 = .ok (.athrow, 1) := by decide +kernel
theorem dX6_introduce_41 : decode cX6_introduce 41 = .ok (.aload_n 0, 1) := by decide +kernel
theorem dX6_introduce_42 : decode cX6_introduce 42 = .ok (.getfield 33, 3) := by decide +kernel
theorem dX6_introduce_45 : decode cX6_introduce 45 = .ok (.iload_n 2, 1) := by decide +kernel
theorem dX6_introduce_46 : decode cX6_introduce 46 = .ok (.iload_n 3, 1) := by decide +kernel
theorem dX6_introduce_47 : decode cX6_introduce 47 = .ok (.invokevirtual 89, 3) := by decide +kernel
theorem dX6_introduce_50 : decode cX6_introduce 50 = .ok (.ifCond .eq 13, 3) := by decide +kernel
theorem dX6_introduce_53 : decode cX6_introduce 53 = .ok (.new 125, 3) := by decide +kernel
theorem dX6_introduce_56 : decode cX6_introduce 56 = .ok (.dup, 1) := by decide +kernel
theorem dX6_introduce_57 : decode cX6_introduce 57 = .ok (.ldc 205, 2) := by decide +kernel
theorem dX6_introduce_59 : decode cX6_introduce 59 = .ok (.invokespecial 129, 3) := by decide +kernel
theorem dX6_introduce_62 : decode cX6_introduce 62 = .ok (.athrow, 1) := by decide +kernel
theorem dX6_introduce_63 : decode cX6_introduce 63 = .ok (.aload_n 0, 1) := by decide +kernel
theorem dX6_introduce_64 : decode cX6_introduce 64 = .ok (.getfield 43, 3) := by decide +kernel
theorem dX6_introduce_67 : decode cX6_introduce 67 = .ok (.aload_n 0, 1) := by decide +kernel
theorem dX6_introduce_68 : decode cX6_introduce 68 = .ok (.getfield 33, 3) := by decide +kernel
theorem dX6_introduce_71 : decode cX6_introduce 71 = .ok (.invokevirtual 199, 3) := by decide +kernel
theorem dX6_introduce_74 : decode cX6_introduce 74 = .ok (.aload_n 0, 1) := by decide +kernel
theorem dX6_introduce_75 : decode cX6_introduce 75 = .ok (.getfield 33, 3) := by decide +kernel
theorem dX6_introduce_78 : decode cX6_introduce 78 = .ok (.iload_n 2, 1) := by decide +kernel
theorem dX6_introduce_79 : decode cX6_introduce 79 = .ok (.iload_n 3, 1) := by decide +kernel
theorem dX6_introduce_80 : decode cX6_introduce 80 = .ok (.invokevirtual 207, 3) := by decide +kernel
theorem dX6_introduce_83 : decode cX6_introduce 83 = .ok (.aload_n 0, 1) := by decide +kernel
theorem dX6_introduce_84 : decode cX6_introduce 84 = .ok (.getfield 33, 3) := by decide +kernel
theorem dX6_introduce_87 : decode cX6_introduce 87 = .ok (.getfield 210, 3) := by decide +kernel
theorem dX6_introduce_90 : decode cX6_introduce 90 = .ok (.iload_n 2, 1) := by decide +kernel
theorem dX6_introduce_91 : decode cX6_introduce 91 = .ok (.iaload, 1) := by decide +kernel
theorem dX6_introduce_92 : decode cX6_introduce 92 = .ok (.invokestatic 214, 3) := by decide +kernel
theorem dX6_introduce_95 : decode cX6_introduce 95 = .ok (.ireturn, 1) := by decide +kernel
theorem dX6_open_0 : decode cX6_open 0 = .ok (.aload_n 0, 1) := by decide +kernel
theorem dX6_open_1 : decode cX6_open 1 = .ok (.iload_n 1, 1) := by decide +kernel
theorem dX6_open_2 : decode cX6_open 2 = .ok (.iload_n 2, 1) := by decide +kernel
theorem dX6_open_3 : decode cX6_open 3 = .ok (.invokevirtual 100, 3) := by decide +kernel
theorem dX6_open_6 : decode cX6_open 6 = .ok (.aload_n 0, 1) := by decide +kernel
theorem dX6_open_7 : decode cX6_open 7 = .ok (.getfield 33, 3) := by decide +kernel
theorem dX6_open_10 : decode cX6_open 10 = .ok (.invokevirtual 219, 3) := by decide +kernel
theorem dX6_open_13 : decode cX6_open 13 = .ok (.istore_n 3, 1) := by decide +kernel
theorem dX6_open_14 : decode cX6_open 14 = .ok (.iload_n 3, 1) := by decide +kernel
theorem dX6_open_15 : decode cX6_open 15 = .ok (.iconst (-1), 1) := by decide +kernel
theorem dX6_open_16 : decode cX6_open 16 = .ok (.if_icmp .ne 13, 3) := by decide +kernel
theorem dX6_open_19 : decode cX6_open 19 = .ok (.new 125, 3) := by decide +kernel
theorem dX6_open_22 : decode cX6_open 22 = .ok (.dup, 1) := by decide +kernel
theorem dX6_open_23 : decode cX6_open 23 = .ok (.ldc 222, 2) := by decide +kernel
theorem dX6_open_25 : decode cX6_open 25 = .ok (.invokespecial 129, 3) := by decide +kernel
theorem dX6_open_28 : decode cX6_open 28 = .ok (.athrow, 1) := by decide +kernel
theorem dX6_open_29 : decode cX6_open 29 = .ok (.aload_n 0, 1) := by decide +kernel
theorem dX6_open_30 : decode cX6_open 30 = .ok (.getfield 33, 3) := by decide +kernel
theorem dX6_open_33 : decode cX6_open 33 = .ok (.iload_n 1, 1) := by decide +kernel
theorem dX6_open_34 : decode cX6_open 34 = .ok (.iload_n 2, 1) := by decide +kernel
theorem dX6_open_35 : decode cX6_open 35 = .ok (.invokevirtual 89, 3) := by decide +kernel
theorem dX6_open_38 : decode cX6_open 38 = .ok (.ifCond .ne 13, 3) := by decide +kernel
theorem dX6_open_41 : decode cX6_open 41 = .ok (.new 125, 3) := by decide +kernel
theorem dX6_open_44 : decode cX6_open 44 = .ok (.dup, 1) := by decide +kernel
theorem dX6_open_45 : decode cX6_open 45 = .ok (.ldc 224, 2) := by decide +kernel
theorem dX6_open_47 : decode cX6_open 47 = .ok (.invokespecial 129, 3) := by decide +kernel
theorem dX6_open_50 : decode cX6_open 50 = .ok (.athrow, 1) := by decide +kernel
theorem dX6_open_51 : decode cX6_open 51 = .ok (.aload_n 0, 1) := by decide +kernel
theorem dX6_open_52 : decode cX6_open 52 = .ok (.getfield 33, 3) := by decide +kernel
theorem dX6_open_55 : decode cX6_open 55 = .ok (.iload_n 1, 1) := by decide +kernel
theorem dX6_open_56 : decode cX6_open 56 = .ok (.iload_n 2, 1) := by decide +kernel
theorem dX6_open_57 : decode cX6_open 57 = .ok (.invokevirtual 144, 3) := by decide +kernel
theorem dX6_open_60 : decode cX6_open 60 = .ok (.iconst (-1), 1) := by decide +kernel
theorem dX6_open_61 : decode cX6_open 61 = .ok (.if_icmp .eq 13, 3) := by decide +kernel
theorem dX6_open_64 : decode cX6_open 64 = .ok (.new 125, 3) := by decide +kernel
theorem dX6_open_67 : decode cX6_open 67 = .ok (.dup, 1) := by decide +kernel
theorem dX6_open_68 : decode cX6_open 68 = .ok (.ldc 226, 2) := by decide +kernel
theorem dX6_open_70 : decode cX6_open 70 = .ok (.invokespecial 129, 3) := by decide +kernel
theorem dX6_open_73 : decode cX6_open 73 = .ok (.athrow, 1) := by decide +kernel
theorem dX6_open_74 : decode cX6_open 74 = .ok (.aload_n 0, 1) := by decide +kernel
theorem dX6_open_75 : decode cX6_open 75 = .ok (.getfield 43, 3) := by decide +kernel
theorem dX6_open_78 : decode cX6_open 78 = .ok (.aload_n 0, 1) := by decide +kernel
theorem dX6_open_79 : decode cX6_open 79 = .ok (.getfield 33, 3) := by decide +kernel
theorem dX6_open_82 : decode cX6_open 82 = .ok (.invokevirtual 199, 3) := by decide +kernel
theorem dX6_open_85 : decode cX6_open 85 = .ok (.aload_n 0, 1) := by decide +kernel
theorem dX6_open_86 : decode cX6_open 86 = .ok (.getfield 33, 3) := by decide +kernel
theorem dX6_open_89 : decode cX6_open 89 = .ok (.aload_n 0, 1) := by decide +kernel
theorem dX6_open_90 : decode cX6_open 90 = .ok (.getfield 23, 3) := by decide +kernel
theorem dX6_open_93 : decode cX6_open 93 = .ok (.iload_n 1, 1) := by decide +kernel
theorem dX6_open_94 : decode cX6_open 94 = .ok (.iload_n 2, 1) := by decide +kernel
theorem dX6_open_95 : decode cX6_open 95 = .ok (.invokevirtual 113, 3) := by decide +kernel
theorem dX6_open_98 : decode cX6_open 98 = .ok (.istore 4, 2) := by decide +kernel
theorem dX6_open_100 : decode cX6_open 100 = .ok (.aload_n 0, 1) := by decide +kernel
theorem dX6_open_101 : decode cX6_open 101 = .ok (.getfield 33, 3) := by decide +kernel
theorem dX6_open_104 : decode cX6_open 104 = .ok (.getfield 134, 3) := by decide +kernel
theorem dX6_open_107 : decode cX6_open 107 = .ok (.iload_n 3, 1) := by decide +kernel
theorem dX6_open_108 : decode cX6_open 108 = .ok (.aaload, 1) := by decide +kernel
theorem dX6_open_109 : decode cX6_open 109 = .ok (.iload_n 1, 1) := by decide +kernel
theorem dX6_open_110 : decode cX6_open 110 = .ok (.iload_n 2, 1) := by decide +kernel
theorem dX6_open_111 : decode cX6_open 111 = .ok (.aload_n 0, 1) := by decide +kernel
theorem dX6_open_112 : decode cX6_open 112 = .ok (.getfield 33, 3) := by decide +kernel
theorem dX6_open_115 : decode cX6_open 115 = .ok (.getfield 82, 3) := by decide +kernel
theorem dX6_open_118 : decode cX6_open 118 = .ok (.iload 4, 2) := by decide +kernel
theorem dX6_open_120 : decode cX6_open 120 = .ok (.invokevirtual 228, 3) := by decide +kernel
theorem dX6_open_123 : decode cX6_open 123 = .ok (.iload_n 3, 1) := by decide +kernel
theorem dX6_open_124 : decode cX6_open 124 = .ok (.ireturn, 1) := by decide +kernel
theorem dX6_send_0 : decode cX6_send 0 = .ok (.aload_n 0, 1) := by decide +kernel
theorem dX6_send_1 : decode cX6_send 1 = .ok (.iload_n 1, 1) := by decide +kernel
theorem dX6_send_2 : decode cX6_send 2 = .ok (.invokevirtual 147, 3) := by decide +kernel
theorem dX6_send_5 : decode cX6_send 5 = .ok (.astore_n 3, 1) := by decide +kernel
theorem dX6_send_6 : decode cX6_send 6 = .ok (.aload_n 3, 1) := by decide +kernel
theorem dX6_send_7 : decode cX6_send 7 = .ok (.getfield 182, 3) := by decide +kernel
theorem dX6_send_10 : decode cX6_send 10 = .ok (.aload_n 3, 1) := by decide +kernel
theorem dX6_send_11 : decode cX6_send 11 = .ok (.getfield 162, 3) := by decide +kernel
theorem dX6_send_14 : decode cX6_send 14 = .ok (.isub, 1) := by decide +kernel
theorem dX6_send_15 : decode cX6_send 15 = .ok (.bipush 24, 2) := by decide +kernel
theorem dX6_send_17 : decode cX6_send 17 = .ok (.if_icmp .lt 13, 3) := by decide +kernel
theorem dX6_send_20 : decode cX6_send 20 = .ok (.new 125, 3) := by decide +kernel
theorem dX6_send_23 : decode cX6_send 23 = .ok (.dup, 1) := by decide +kernel
theorem dX6_send_24 : decode cX6_send 24 = .ok (.ldc 232, 2) := by decide +kernel
theorem dX6_send_26 : decode cX6_send 26 = .ok (.invokespecial 129, 3) := by decide +kernel
theorem dX6_send_29 : decode cX6_send 29 = .ok (.athrow, 1) := by decide +kernel
theorem dX6_send_30 : decode cX6_send 30 = .ok (.aload_n 0, 1) := by decide +kernel
theorem dX6_send_31 : decode cX6_send 31 = .ok (.getfield 43, 3) := by decide +kernel
theorem dX6_send_34 : decode cX6_send 34 = .ok (.aload_n 0, 1) := by decide +kernel
theorem dX6_send_35 : decode cX6_send 35 = .ok (.getfield 33, 3) := by decide +kernel
theorem dX6_send_38 : decode cX6_send 38 = .ok (.invokevirtual 199, 3) := by decide +kernel
theorem dX6_send_41 : decode cX6_send 41 = .ok (.aload_n 3, 1) := by decide +kernel
theorem dX6_send_42 : decode cX6_send 42 = .ok (.iload_n 2, 1) := by decide +kernel
theorem dX6_send_43 : decode cX6_send 43 = .ok (.aload_n 0, 1) := by decide +kernel
theorem dX6_send_44 : decode cX6_send 44 = .ok (.getfield 23, 3) := by decide +kernel
theorem dX6_send_47 : decode cX6_send 47 = .ok (.getfield 234, 3) := by decide +kernel
theorem dX6_send_50 : decode cX6_send 50 = .ok (.aload_n 0, 1) := by decide +kernel
theorem dX6_send_51 : decode cX6_send 51 = .ok (.getfield 33, 3) := by decide +kernel
theorem dX6_send_54 : decode cX6_send 54 = .ok (.getfield 82, 3) := by decide +kernel
theorem dX6_send_57 : decode cX6_send 57 = .ok (.aload_n 0, 1) := by decide +kernel
theorem dX6_send_58 : decode cX6_send 58 = .ok (.getfield 23, 3) := by decide +kernel
theorem dX6_send_61 : decode cX6_send 61 = .ok (.aload_n 3, 1) := by decide +kernel
theorem dX6_send_62 : decode cX6_send 62 = .ok (.invokevirtual 237, 3) := by decide +kernel
theorem dX6_send_65 : decode cX6_send 65 = .ok (.iadd, 1) := by decide +kernel
theorem dX6_send_66 : decode cX6_send 66 = .ok (.invokevirtual 241, 3) := by decide +kernel
theorem dX6_send_69 : decode cX6_send 69 = .ok (.ireturn, 1) := by decide +kernel
theorem dX6_setLink_0 : decode cX6_setLink 0 = .ok (.aload_n 0, 1) := by decide +kernel
theorem dX6_setLink_1 : decode cX6_setLink 1 = .ok (.iload_n 1, 1) := by decide +kernel
theorem dX6_setLink_2 : decode cX6_setLink 2 = .ok (.iload_n 2, 1) := by decide +kernel
theorem dX6_setLink_3 : decode cX6_setLink 3 = .ok (.invokevirtual 100, 3) := by decide +kernel
theorem dX6_setLink_6 : decode cX6_setLink 6 = .ok (.aload_n 0, 1) := by decide +kernel
theorem dX6_setLink_7 : decode cX6_setLink 7 = .ok (.getfield 23, 3) := by decide +kernel
theorem dX6_setLink_10 : decode cX6_setLink 10 = .ok (.iload_n 1, 1) := by decide +kernel
theorem dX6_setLink_11 : decode cX6_setLink 11 = .ok (.iload_n 2, 1) := by decide +kernel
theorem dX6_setLink_12 : decode cX6_setLink 12 = .ok (.invokevirtual 96, 3) := by decide +kernel
theorem dX6_setLink_15 : decode cX6_setLink 15 = .ok (.ifCond .ne 13, 3) := by decide +kernel
theorem dX6_setLink_18 : decode cX6_setLink 18 = .ok (.new 125, 3) := by decide +kernel
theorem dX6_setLink_21 : decode cX6_setLink 21 = .ok (.dup, 1) := by decide +kernel
theorem dX6_setLink_22 : decode cX6_setLink 22 = .ok (.ldc 245, 2) := by decide +kernel
theorem dX6_setLink_24 : decode cX6_setLink 24 = .ok (.invokespecial 129, 3) := by decide +kernel
theorem dX6_setLink_27 : decode cX6_setLink 27 = .ok (.athrow, 1) := by decide +kernel
theorem dX6_setLink_28 : decode cX6_setLink 28 = .ok (.aload_n 0, 1) := by decide +kernel
theorem dX6_setLink_29 : decode cX6_setLink 29 = .ok (.getfield 33, 3) := by decide +kernel
theorem dX6_setLink_32 : decode cX6_setLink 32 = .ok (.iload_n 1, 1) := by decide +kernel
theorem dX6_setLink_33 : decode cX6_setLink 33 = .ok (.iload_n 2, 1) := by decide +kernel
theorem dX6_setLink_34 : decode cX6_setLink 34 = .ok (.invokevirtual 93, 3) := by decide +kernel
theorem dX6_setLink_37 : decode cX6_setLink 37 = .ok (.iload_n 3, 1) := by decide +kernel
theorem dX6_setLink_38 : decode cX6_setLink 38 = .ok (.if_icmp .ne 13, 3) := by decide +kernel
theorem dX6_setLink_41 : decode cX6_setLink 41 = .ok (.new 125, 3) := by decide +kernel
theorem dX6_setLink_44 : decode cX6_setLink 44 = .ok (.dup, 1) := by decide +kernel
theorem dX6_setLink_45 : decode cX6_setLink 45 = .ok (.ldc 247, 2) := by decide +kernel
theorem dX6_setLink_47 : decode cX6_setLink 47 = .ok (.invokespecial 129, 3) := by decide +kernel
theorem dX6_setLink_50 : decode cX6_setLink 50 = .ok (.athrow, 1) := by decide +kernel
theorem dX6_setLink_51 : decode cX6_setLink 51 = .ok (.aload_n 0, 1) := by decide +kernel
theorem dX6_setLink_52 : decode cX6_setLink 52 = .ok (.getfield 43, 3) := by decide +kernel
theorem dX6_setLink_55 : decode cX6_setLink 55 = .ok (.aload_n 0, 1) := by decide +kernel
theorem dX6_setLink_56 : decode cX6_setLink 56 = .ok (.getfield 33, 3) := by decide +kernel
theorem dX6_setLink_59 : decode cX6_setLink 59 = .ok (.invokevirtual 199, 3) := by decide +kernel
theorem dX6_setLink_62 : decode cX6_setLink 62 = .ok (.aload_n 0, 1) := by decide +kernel
theorem dX6_setLink_63 : decode cX6_setLink 63 = .ok (.getfield 33, 3) := by decide +kernel
theorem dX6_setLink_66 : decode cX6_setLink 66 = .ok (.iload_n 1, 1) := by decide +kernel
theorem dX6_setLink_67 : decode cX6_setLink 67 = .ok (.iload_n 2, 1) := by decide +kernel
theorem dX6_setLink_68 : decode cX6_setLink 68 = .ok (.invokevirtual 249, 3) := by decide +kernel
theorem dX6_setLink_71 : decode cX6_setLink 71 = .ok (.iload_n 3, 1) := by decide +kernel
theorem dX6_setLink_72 : decode cX6_setLink 72 = .ok (.ifCond .eq 7, 3) := by decide +kernel
theorem dX6_setLink_75 : decode cX6_setLink 75 = .ok (.iconst 0, 1) := by decide +kernel
theorem dX6_setLink_76 : decode cX6_setLink 76 = .ok (.goto 16, 3) := by decide +kernel
theorem dX6_setLink_79 : decode cX6_setLink 79 = .ok (.aload_n 0, 1) := by decide +kernel
theorem dX6_setLink_80 : decode cX6_setLink 80 = .ok (.getfield 33, 3) := by decide +kernel
theorem dX6_setLink_83 : decode cX6_setLink 83 = .ok (.aload_n 0, 1) := by decide +kernel
theorem dX6_setLink_84 : decode cX6_setLink 84 = .ok (.getfield 23, 3) := by decide +kernel
theorem dX6_setLink_87 : decode cX6_setLink 87 = .ok (.iload_n 1, 1) := by decide +kernel
theorem dX6_setLink_88 : decode cX6_setLink 88 = .ok (.iload_n 2, 1) := by decide +kernel
theorem dX6_setLink_89 : decode cX6_setLink 89 = .ok (.invokevirtual 252, 3) := by decide +kernel
theorem dX6_setLink_92 : decode cX6_setLink 92 = .ok (.ireturn, 1) := by decide +kernel
theorem dX6_close_0 : decode cX6_close 0 = .ok (.aload_n 0, 1) := by decide +kernel
theorem dX6_close_1 : decode cX6_close 1 = .ok (.iload_n 1, 1) := by decide +kernel
theorem dX6_close_2 : decode cX6_close 2 = .ok (.invokevirtual 147, 3) := by decide +kernel
theorem dX6_close_5 : decode cX6_close 5 = .ok (.astore_n 2, 1) := by decide +kernel
theorem dX6_close_6 : decode cX6_close 6 = .ok (.aload_n 2, 1) := by decide +kernel
theorem dX6_close_7 : decode cX6_close 7 = .ok (.getfield 162, 3) := by decide +kernel
theorem dX6_close_10 : decode cX6_close 10 = .ok (.aload_n 2, 1) := by decide +kernel
theorem dX6_close_11 : decode cX6_close 11 = .ok (.getfield 182, 3) := by decide +kernel
theorem dX6_close_14 : decode cX6_close 14 = .ok (.if_icmp .eq 13, 3) := by decide +kernel
theorem dX6_close_17 : decode cX6_close 17 = .ok (.new 125, 3) := by decide +kernel
theorem dX6_close_20 : decode cX6_close 20 = .ok (.dup, 1) := by decide +kernel
theorem dX6_close_21 : decode cX6_close 21 = .ok (.ldc 255, 2) := by decide +kernel
theorem dX6_close_23 : decode cX6_close 23 = .ok (.invokespecial 129, 3) := by decide +kernel
theorem dX6_close_26 : decode cX6_close 26 = .ok (.athrow, 1) := by decide +kernel
theorem dX6_close_27 : decode cX6_close 27 = .ok (.aload_n 0, 1) := by decide +kernel
theorem dX6_close_28 : decode cX6_close 28 = .ok (.getfield 43, 3) := by decide +kernel
theorem dX6_close_31 : decode cX6_close 31 = .ok (.aload_n 0, 1) := by decide +kernel
theorem dX6_close_32 : decode cX6_close 32 = .ok (.getfield 33, 3) := by decide +kernel
theorem dX6_close_35 : decode cX6_close 35 = .ok (.invokevirtual 199, 3) := by decide +kernel
theorem dX6_close_38 : decode cX6_close 38 = .ok (.aload_n 2, 1) := by decide +kernel
theorem dX6_close_39 : decode cX6_close 39 = .ok (.iconst 0, 1) := by decide +kernel
theorem dX6_close_40 : decode cX6_close 40 = .ok (.putfield 138, 3) := by decide +kernel
theorem dX6_close_43 : decode cX6_close 43 = .ok (.aload_n 2, 1) := by decide +kernel
theorem dX6_close_44 : decode cX6_close 44 = .ok (.getfield 182, 3) := by decide +kernel
theorem dX6_close_47 : decode cX6_close 47 = .ok (.ireturn, 1) := by decide +kernel
theorem dX6_undo_0 : decode cX6_undo 0 = .ok (.aload_n 0, 1) := by decide +kernel
theorem dX6_undo_1 : decode cX6_undo 1 = .ok (.getfield 43, 3) := by decide +kernel
theorem dX6_undo_4 : decode cX6_undo 4 = .ok (.aload_n 0, 1) := by decide +kernel
theorem dX6_undo_5 : decode cX6_undo 5 = .ok (.getfield 33, 3) := by decide +kernel
theorem dX6_undo_8 : decode cX6_undo 8 = .ok (.invokevirtual 257, 3) := by decide +kernel
theorem dX6_undo_11 : decode cX6_undo 11 = .ok (.ireturn, 1) := by decide +kernel
theorem dX6_saveSnapshot_0 : decode cX6_saveSnapshot 0 = .ok (.aload_n 0, 1) := by decide +kernel
theorem dX6_saveSnapshot_1 : decode cX6_saveSnapshot 1 = .ok (.iload_n 1, 1) := by decide +kernel
theorem dX6_saveSnapshot_2 : decode cX6_saveSnapshot 2 = .ok (.invokevirtual 261, 3) := by decide +kernel
theorem dX6_saveSnapshot_5 : decode cX6_saveSnapshot 5 = .ok (.aload_n 0, 1) := by decide +kernel
theorem dX6_saveSnapshot_6 : decode cX6_saveSnapshot 6 = .ok (.getfield 51, 3) := by decide +kernel
theorem dX6_saveSnapshot_9 : decode cX6_saveSnapshot 9 = .ok (.iload_n 1, 1) := by decide +kernel
theorem dX6_saveSnapshot_10 : decode cX6_saveSnapshot 10 = .ok (.baload, 1) := by decide +kernel
theorem dX6_saveSnapshot_11 : decode cX6_saveSnapshot 11 = .ok (.istore_n 2, 1) := by decide +kernel
theorem dX6_saveSnapshot_12 : decode cX6_saveSnapshot 12 = .ok (.aload_n 0, 1) := by decide +kernel
theorem dX6_saveSnapshot_13 : decode cX6_saveSnapshot 13 = .ok (.getfield 47, 3) := by decide +kernel
theorem dX6_saveSnapshot_16 : decode cX6_saveSnapshot 16 = .ok (.iload_n 1, 1) := by decide +kernel
theorem dX6_saveSnapshot_17 : decode cX6_saveSnapshot 17 = .ok (.aaload, 1) := by decide +kernel
theorem dX6_saveSnapshot_18 : decode cX6_saveSnapshot 18 = .ok (.aload_n 0, 1) := by decide +kernel
theorem dX6_saveSnapshot_19 : decode cX6_saveSnapshot 19 = .ok (.getfield 33, 3) := by decide +kernel
theorem dX6_saveSnapshot_22 : decode cX6_saveSnapshot 22 = .ok (.invokevirtual 264, 3) := by decide +kernel
theorem dX6_saveSnapshot_25 : decode cX6_saveSnapshot 25 = .ok (.aload_n 0, 1) := by decide +kernel
theorem dX6_saveSnapshot_26 : decode cX6_saveSnapshot 26 = .ok (.getfield 51, 3) := by decide +kernel
theorem dX6_saveSnapshot_29 : decode cX6_saveSnapshot 29 = .ok (.iload_n 1, 1) := by decide +kernel
theorem dX6_saveSnapshot_30 : decode cX6_saveSnapshot 30 = .ok (.iconst 1, 1) := by decide +kernel
theorem dX6_saveSnapshot_31 : decode cX6_saveSnapshot 31 = .ok (.bastore, 1) := by decide +kernel
theorem dX6_saveSnapshot_32 : decode cX6_saveSnapshot 32 = .ok (.iload_n 2, 1) := by decide +kernel
theorem dX6_saveSnapshot_33 : decode cX6_saveSnapshot 33 = .ok (.ireturn, 1) := by decide +kernel
theorem dX6_restoreSnapshot_0 : decode cX6_restoreSnapshot 0 = .ok (.aload_n 0, 1) := by decide +kernel
theorem dX6_restoreSnapshot_1 : decode cX6_restoreSnapshot 1 = .ok (.iload_n 1, 1) := by decide +kernel
theorem dX6_restoreSnapshot_2 : decode cX6_restoreSnapshot 2 = .ok (.invokevirtual 261, 3) := by decide +kernel
theorem dX6_restoreSnapshot_5 : decode cX6_restoreSnapshot 5 = .ok (.aload_n 0, 1) := by decide +kernel
theorem dX6_restoreSnapshot_6 : decode cX6_restoreSnapshot 6 = .ok (.getfield 51, 3) := by decide +kernel
theorem dX6_restoreSnapshot_9 : decode cX6_restoreSnapshot 9 = .ok (.iload_n 1, 1) := by decide +kernel
theorem dX6_restoreSnapshot_10 : decode cX6_restoreSnapshot 10 = .ok (.baload, 1) := by decide +kernel
theorem dX6_restoreSnapshot_11 : decode cX6_restoreSnapshot 11 = .ok (.ifCond .ne 14, 3) := by decide +kernel
theorem dX6_restoreSnapshot_14 : decode cX6_restoreSnapshot 14 = .ok (.new 125, 3) := by decide +kernel
theorem dX6_restoreSnapshot_17 : decode cX6_restoreSnapshot 17 = .ok (.dup, 1) := by decide +kernel
theorem dX6_restoreSnapshot_18 : decode cX6_restoreSnapshot 18 = .ok (.ldc_w 267, 3) := by decide +kernel
theorem dX6_restoreSnapshot_21 : decode cX6_restoreSnapshot 21 = .ok (.invokespecial 129, 3) := by decide +kernel
theorem dX6_restoreSnapshot_24 : decode cX6_restoreSnapshot 24 = .ok (.athrow, 1) := by decide +kernel
theorem dX6_restoreSnapshot_25 : decode cX6_restoreSnapshot 25 = .ok (.aload_n 0, 1) := by decide +kernel
theorem dX6_restoreSnapshot_26 : decode cX6_restoreSnapshot 26 = .ok (.getfield 33, 3) := by decide +kernel
theorem dX6_restoreSnapshot_29 : decode cX6_restoreSnapshot 29 = .ok (.aload_n 0, 1) := by decide +kernel
theorem dX6_restoreSnapshot_30 : decode cX6_restoreSnapshot 30 = .ok (.getfield 47, 3) := by decide +kernel
theorem dX6_restoreSnapshot_33 : decode cX6_restoreSnapshot 33 = .ok (.iload_n 1, 1) := by decide +kernel
theorem dX6_restoreSnapshot_34 : decode cX6_restoreSnapshot 34 = .ok (.aaload, 1) := by decide +kernel
theorem dX6_restoreSnapshot_35 : decode cX6_restoreSnapshot 35 = .ok (.invokevirtual 264, 3) := by decide +kernel
theorem dX6_restoreSnapshot_38 : decode cX6_restoreSnapshot 38 = .ok (.aload_n 0, 1) := by decide +kernel
theorem dX6_restoreSnapshot_39 : decode cX6_restoreSnapshot 39 = .ok (.getfield 43, 3) := by decide +kernel
theorem dX6_restoreSnapshot_42 : decode cX6_restoreSnapshot 42 = .ok (.invokevirtual 269, 3) := by decide +kernel
theorem dX6_restoreSnapshot_45 : decode cX6_restoreSnapshot 45 = .ok (.aload_n 0, 1) := by decide +kernel
theorem dX6_restoreSnapshot_46 : decode cX6_restoreSnapshot 46 = .ok (.getfield 33, 3) := by decide +kernel
theorem dX6_restoreSnapshot_49 : decode cX6_restoreSnapshot 49 = .ok (.getfield 82, 3) := by decide +kernel
theorem dX6_restoreSnapshot_52 : decode cX6_restoreSnapshot 52 = .ok (.ireturn, 1) := by decide +kernel
theorem dX6_putFourBytes_0 : decode cX6_putFourBytes 0 = .ok (.bipush 24, 2) := by decide +kernel
theorem dX6_putFourBytes_2 : decode cX6_putFourBytes 2 = .ok (.istore_n 2, 1) := by decide +kernel
theorem dX6_putFourBytes_3 : decode cX6_putFourBytes 3 = .ok (.iload_n 2, 1) := by decide +kernel
theorem dX6_putFourBytes_4 : decode cX6_putFourBytes 4 = .ok (.ifCond .lt 42, 3) := by decide +kernel
theorem dX6_putFourBytes_7 : decode cX6_putFourBytes 7 = .ok (.aload_n 0, 1) := by decide +kernel
theorem dX6_putFourBytes_8 : decode cX6_putFourBytes 8 = .ok (.getfield 13, 3) := by decide +kernel
theorem dX6_putFourBytes_11 : decode cX6_putFourBytes 11 = .ok (.sipush 600, 3) := by decide +kernel
theorem dX6_putFourBytes_14 : decode cX6_putFourBytes 14 = .ok (.if_icmp .ge 26, 3) := by decide +kernel
theorem dX6_putFourBytes_17 : decode cX6_putFourBytes 17 = .ok (.aload_n 0, 1) := by decide +kernel
theorem dX6_putFourBytes_18 : decode cX6_putFourBytes 18 = .ok (.getfield 9, 3) := by decide +kernel
theorem dX6_putFourBytes_21 : decode cX6_putFourBytes 21 = .ok (.aload_n 0, 1) := by decide +kernel
theorem dX6_putFourBytes_22 : decode cX6_putFourBytes 22 = .ok (.getfield 13, 3) := by decide +kernel
theorem dX6_putFourBytes_25 : decode cX6_putFourBytes 25 = .ok (.iload_n 1, 1) := by decide +kernel
theorem dX6_putFourBytes_26 : decode cX6_putFourBytes 26 = .ok (.iload_n 2, 1) := by decide +kernel
theorem dX6_putFourBytes_27 : decode cX6_putFourBytes 27 = .ok (.ishr, 1) := by decide +kernel
theorem dX6_putFourBytes_28 : decode cX6_putFourBytes 28 = .ok (.i2b, 1) := by decide +kernel
theorem dX6_putFourBytes_29 : decode cX6_putFourBytes 29 = .ok (.bastore, 1) := by decide +kernel
theorem dX6_putFourBytes_30 : decode cX6_putFourBytes 30 = .ok (.aload_n 0, 1) := by decide +kernel
theorem dX6_putFourBytes_31 : decode cX6_putFourBytes 31 = .ok (.dup, 1) := by decide +kernel
theorem dX6_putFourBytes_32 : decode cX6_putFourBytes 32 = .ok (.getfield 13, 3) := by decide +kernel
theorem dX6_putFourBytes_35 : decode cX6_putFourBytes 35 = .ok (.iconst 1, 1) := by decide +kernel
theorem dX6_putFourBytes_36 : decode cX6_putFourBytes 36 = .ok (.iadd, 1) := by decide +kernel
theorem dX6_putFourBytes_37 : decode cX6_putFourBytes 37 = .ok (.putfield 13, 3) := by decide +kernel
theorem dX6_putFourBytes_40 : decode cX6_putFourBytes 40 = .ok (.iinc 2 (-8), 3) := by decide +kernel
theorem dX6_putFourBytes_43 : decode cX6_putFourBytes 43 = .ok (.goto (-40), 3) := by decide +kernel
theorem dX6_putFourBytes_46 : decode cX6_putFourBytes 46 = .ok (.return_, 1) := by decide +kernel
theorem dX6_useDraft_0 : decode cX6_useDraft 0 = .ok (.aload_n 0, 1) := by decide +kernel
theorem dX6_useDraft_1 : decode cX6_useDraft 1 = .ok (.getfield 23, 3) := by decide +kernel
theorem dX6_useDraft_4 : decode cX6_useDraft 4 = .ok (.astore_n 1, 1) := by decide +kernel
theorem dX6_useDraft_5 : decode cX6_useDraft 5 = .ok (.aload_n 0, 1) := by decide +kernel
theorem dX6_useDraft_6 : decode cX6_useDraft 6 = .ok (.aload_n 0, 1) := by decide +kernel
theorem dX6_useDraft_7 : decode cX6_useDraft 7 = .ok (.getfield 27, 3) := by decide +kernel
theorem dX6_useDraft_10 : decode cX6_useDraft 10 = .ok (.putfield 23, 3) := by decide +kernel
theorem dX6_useDraft_13 : decode cX6_useDraft 13 = .ok (.aload_n 0, 1) := by decide +kernel
theorem dX6_useDraft_14 : decode cX6_useDraft 14 = .ok (.aload_n 1, 1) := by decide +kernel
theorem dX6_useDraft_15 : decode cX6_useDraft 15 = .ok (.putfield 27, 3) := by decide +kernel
theorem dX6_useDraft_18 : decode cX6_useDraft 18 = .ok (.aload_n 0, 1) := by decide +kernel
theorem dX6_useDraft_19 : decode cX6_useDraft 19 = .ok (.getfield 33, 3) := by decide +kernel
theorem dX6_useDraft_22 : decode cX6_useDraft 22 = .ok (.aload_n 0, 1) := by decide +kernel
theorem dX6_useDraft_23 : decode cX6_useDraft 23 = .ok (.getfield 23, 3) := by decide +kernel
theorem dX6_useDraft_26 : decode cX6_useDraft 26 = .ok (.invokevirtual 272, 3) := by decide +kernel
theorem dX6_useDraft_29 : decode cX6_useDraft 29 = .ok (.aload_n 0, 1) := by decide +kernel
theorem dX6_useDraft_30 : decode cX6_useDraft 30 = .ok (.getfield 43, 3) := by decide +kernel
theorem dX6_useDraft_33 : decode cX6_useDraft 33 = .ok (.invokevirtual 269, 3) := by decide +kernel
theorem dX6_useDraft_36 : decode cX6_useDraft 36 = .ok (.iconst 0, 1) := by decide +kernel
theorem dX6_useDraft_37 : decode cX6_useDraft 37 = .ok (.istore_n 2, 1) := by decide +kernel
theorem dX6_useDraft_38 : decode cX6_useDraft 38 = .ok (.iload_n 2, 1) := by decide +kernel
theorem dX6_useDraft_39 : decode cX6_useDraft 39 = .ok (.iconst 2, 1) := by decide +kernel
theorem dX6_useDraft_40 : decode cX6_useDraft 40 = .ok (.if_icmp .ge 16, 3) := by decide +kernel
theorem dX6_useDraft_43 : decode cX6_useDraft 43 = .ok (.aload_n 0, 1) := by decide +kernel
theorem dX6_useDraft_44 : decode cX6_useDraft 44 = .ok (.getfield 51, 3) := by decide +kernel
theorem dX6_useDraft_47 : decode cX6_useDraft 47 = .ok (.iload_n 2, 1) := by decide +kernel
theorem dX6_useDraft_48 : decode cX6_useDraft 48 = .ok (.iconst 0, 1) := by decide +kernel
theorem dX6_useDraft_49 : decode cX6_useDraft 49 = .ok (.bastore, 1) := by decide +kernel
theorem dX6_useDraft_50 : decode cX6_useDraft 50 = .ok (.iinc 2 1, 3) := by decide +kernel
theorem dX6_useDraft_53 : decode cX6_useDraft 53 = .ok (.goto (-15), 3) := by decide +kernel
theorem dX6_useDraft_56 : decode cX6_useDraft 56 = .ok (.return_, 1) := by decide +kernel
theorem dX6_checkPeer_0 : decode cX6_checkPeer 0 = .ok (.iload_n 1, 1) := by decide +kernel
theorem dX6_checkPeer_1 : decode cX6_checkPeer 1 = .ok (.ifCond .lt 14, 3) := by decide +kernel
theorem dX6_checkPeer_4 : decode cX6_checkPeer 4 = .ok (.iload_n 1, 1) := by decide +kernel
theorem dX6_checkPeer_5 : decode cX6_checkPeer 5 = .ok (.aload_n 0, 1) := by decide +kernel
theorem dX6_checkPeer_6 : decode cX6_checkPeer 6 = .ok (.getfield 23, 3) := by decide +kernel
theorem dX6_checkPeer_9 : decode cX6_checkPeer 9 = .ok (.getfield 79, 3) := by decide +kernel
theorem dX6_checkPeer_12 : decode cX6_checkPeer 12 = .ok (.if_icmp .lt 14, 3) := by decide +kernel
theorem dX6_checkPeer_15 : decode cX6_checkPeer 15 = .ok (.new 276, 3) := by decide +kernel
theorem dX6_checkPeer_18 : decode cX6_checkPeer 18 = .ok (.dup, 1) := by decide +kernel
theorem dX6_checkPeer_19 : decode cX6_checkPeer 19 = .ok (.ldc_w 278, 3) := by decide +kernel
theorem dX6_checkPeer_22 : decode cX6_checkPeer 22 = .ok (.invokespecial 280, 3) := by decide +kernel
theorem dX6_checkPeer_25 : decode cX6_checkPeer 25 = .ok (.athrow, 1) := by decide +kernel
theorem dX6_checkPeer_26 : decode cX6_checkPeer 26 = .ok (.return_, 1) := by decide +kernel
theorem dX6_checkPeers_0 : decode cX6_checkPeers 0 = .ok (.aload_n 0, 1) := by decide +kernel
theorem dX6_checkPeers_1 : decode cX6_checkPeers 1 = .ok (.iload_n 1, 1) := by decide +kernel
theorem dX6_checkPeers_2 : decode cX6_checkPeers 2 = .ok (.invokevirtual 106, 3) := by decide +kernel
theorem dX6_checkPeers_5 : decode cX6_checkPeers 5 = .ok (.aload_n 0, 1) := by decide +kernel
theorem dX6_checkPeers_6 : decode cX6_checkPeers 6 = .ok (.iload_n 2, 1) := by decide +kernel
theorem dX6_checkPeers_7 : decode cX6_checkPeers 7 = .ok (.invokevirtual 106, 3) := by decide +kernel
theorem dX6_checkPeers_10 : decode cX6_checkPeers 10 = .ok (.return_, 1) := by decide +kernel
theorem dX6_checkTwoPeers_0 : decode cX6_checkTwoPeers 0 = .ok (.aload_n 0, 1) := by decide +kernel
theorem dX6_checkTwoPeers_1 : decode cX6_checkTwoPeers 1 = .ok (.iload_n 1, 1) := by decide +kernel
theorem dX6_checkTwoPeers_2 : decode cX6_checkTwoPeers 2 = .ok (.iload_n 2, 1) := by decide +kernel
theorem dX6_checkTwoPeers_3 : decode cX6_checkTwoPeers 3 = .ok (.invokevirtual 85, 3) := by decide +kernel
theorem dX6_checkTwoPeers_6 : decode cX6_checkTwoPeers 6 = .ok (.iload_n 1, 1) := by decide +kernel
theorem dX6_checkTwoPeers_7 : decode cX6_checkTwoPeers 7 = .ok (.iload_n 2, 1) := by decide +kernel
theorem dX6_checkTwoPeers_8 : decode cX6_checkTwoPeers 8 = .ok (.if_icmp .ne 14, 3) := by decide +kernel
theorem dX6_checkTwoPeers_11 : decode cX6_checkTwoPeers 11 = .ok (.new 59, 3) := by decide +kernel
theorem dX6_checkTwoPeers_14 : decode cX6_checkTwoPeers 14 = .ok (.dup, 1) := by decide +kernel
theorem dX6_checkTwoPeers_15 : decode cX6_checkTwoPeers 15 = .ok (.ldc_w 281, 3) := by decide +kernel
theorem dX6_checkTwoPeers_18 : decode cX6_checkTwoPeers 18 = .ok (.invokespecial 63, 3) := by decide +kernel
theorem dX6_checkTwoPeers_21 : decode cX6_checkTwoPeers 21 = .ok (.athrow, 1) := by decide +kernel
theorem dX6_checkTwoPeers_22 : decode cX6_checkTwoPeers 22 = .ok (.return_, 1) := by decide +kernel
theorem dX6_checkThreePeers_0 : decode cX6_checkThreePeers 0 = .ok (.aload_n 0, 1) := by decide +kernel
theorem dX6_checkThreePeers_1 : decode cX6_checkThreePeers 1 = .ok (.iload_n 1, 1) := by decide +kernel
theorem dX6_checkThreePeers_2 : decode cX6_checkThreePeers 2 = .ok (.invokevirtual 106, 3) := by decide +kernel
theorem dX6_checkThreePeers_5 : decode cX6_checkThreePeers 5 = .ok (.aload_n 0, 1) := by decide +kernel
theorem dX6_checkThreePeers_6 : decode cX6_checkThreePeers 6 = .ok (.iload_n 2, 1) := by decide +kernel
theorem dX6_checkThreePeers_7 : decode cX6_checkThreePeers 7 = .ok (.iload_n 3, 1) := by decide +kernel
theorem dX6_checkThreePeers_8 : decode cX6_checkThreePeers 8 = .ok (.invokevirtual 85, 3) := by decide +kernel
theorem dX6_checkThreePeers_11 : decode cX6_checkThreePeers 11 = .ok (.iload_n 1, 1) := by decide +kernel
theorem dX6_checkThreePeers_12 : decode cX6_checkThreePeers 12 = .ok (.iload_n 2, 1) := by decide +kernel
theorem dX6_checkThreePeers_13 : decode cX6_checkThreePeers 13 = .ok (.if_icmp .eq 13, 3) := by decide +kernel
theorem dX6_checkThreePeers_16 : decode cX6_checkThreePeers 16 = .ok (.iload_n 1, 1) := by decide +kernel
theorem dX6_checkThreePeers_17 : decode cX6_checkThreePeers 17 = .ok (.iload_n 3, 1) := by decide +kernel
theorem dX6_checkThreePeers_18 : decode cX6_checkThreePeers 18 = .ok (.if_icmp .eq 8, 3) := by decide +kernel
theorem dX6_checkThreePeers_21 : decode cX6_checkThreePeers 21 = .ok (.iload_n 2, 1) := by decide +kernel
theorem dX6_checkThreePeers_22 : decode cX6_checkThreePeers 22 = .ok (.iload_n 3, 1) := by decide +kernel
theorem dX6_checkThreePeers_23 : decode cX6_checkThreePeers 23 = .ok (.if_icmp .ne 14, 3) := by decide +kernel
theorem dX6_checkThreePeers_26 : decode cX6_checkThreePeers 26 = .ok (.new 59, 3) := by decide +kernel
theorem dX6_checkThreePeers_29 : decode cX6_checkThreePeers 29 = .ok (.dup, 1) := by decide +kernel
theorem dX6_checkThreePeers_30 : decode cX6_checkThreePeers 30 = .ok (.ldc_w 283, 3) := by decide +kernel
theorem dX6_checkThreePeers_33 : decode cX6_checkThreePeers 33 = .ok (.invokespecial 63, 3) := by decide +kernel
theorem dX6_checkThreePeers_36 : decode cX6_checkThreePeers 36 = .ok (.athrow, 1) := by decide +kernel
theorem dX6_checkThreePeers_37 : decode cX6_checkThreePeers 37 = .ok (.return_, 1) := by decide +kernel
theorem dX6_checkSlot_0 : decode cX6_checkSlot 0 = .ok (.iload_n 1, 1) := by decide +kernel
theorem dX6_checkSlot_1 : decode cX6_checkSlot 1 = .ok (.ifCond .lt 8, 3) := by decide +kernel
theorem dX6_checkSlot_4 : decode cX6_checkSlot 4 = .ok (.iload_n 1, 1) := by decide +kernel
theorem dX6_checkSlot_5 : decode cX6_checkSlot 5 = .ok (.iconst 2, 1) := by decide +kernel
theorem dX6_checkSlot_6 : decode cX6_checkSlot 6 = .ok (.if_icmp .lt 14, 3) := by decide +kernel
theorem dX6_checkSlot_9 : decode cX6_checkSlot 9 = .ok (.new 276, 3) := by decide +kernel
theorem dX6_checkSlot_12 : decode cX6_checkSlot 12 = .ok (.dup, 1) := by decide +kernel
theorem dX6_checkSlot_13 : decode cX6_checkSlot 13 = .ok (.ldc_w 285, 3) := by decide +kernel
theorem dX6_checkSlot_16 : decode cX6_checkSlot 16 = .ok (.invokespecial 280, 3) := by decide +kernel
theorem dX6_checkSlot_19 : decode cX6_checkSlot 19 = .ok (.athrow, 1) := by decide +kernel
theorem dX6_checkSlot_20 : decode cX6_checkSlot 20 = .ok (.return_, 1) := by decide +kernel
theorem dX6_openSession_0 : decode cX6_openSession 0 = .ok (.iload_n 1, 1) := by decide +kernel
theorem dX6_openSession_1 : decode cX6_openSession 1 = .ok (.ifCond .lt 24, 3) := by decide +kernel
theorem dX6_openSession_4 : decode cX6_openSession 4 = .ok (.iload_n 1, 1) := by decide +kernel
theorem dX6_openSession_5 : decode cX6_openSession 5 = .ok (.bipush 6, 2) := by decide +kernel
theorem dX6_openSession_7 : decode cX6_openSession 7 = .ok (.if_icmp .ge 18, 3) := by decide +kernel
theorem dX6_openSession_10 : decode cX6_openSession 10 = .ok (.aload_n 0, 1) := by decide +kernel
theorem dX6_openSession_11 : decode cX6_openSession 11 = .ok (.getfield 33, 3) := by decide +kernel
theorem dX6_openSession_14 : decode cX6_openSession 14 = .ok (.getfield 134, 3) := by decide +kernel
theorem dX6_openSession_17 : decode cX6_openSession 17 = .ok (.iload_n 1, 1) := by decide +kernel
theorem dX6_openSession_18 : decode cX6_openSession 18 = .ok (.aaload, 1) := by decide +kernel
theorem dX6_openSession_19 : decode cX6_openSession 19 = .ok (.getfield 138, 3) := by decide +kernel
theorem dX6_openSession_22 : decode cX6_openSession 22 = .ok (.ifCond .ne 14, 3) := by decide +kernel
theorem dX6_openSession_25 : decode cX6_openSession 25 = .ok (.new 276, 3) := by decide +kernel
theorem dX6_openSession_28 : decode cX6_openSession 28 = .ok (.dup, 1) := by decide +kernel
theorem dX6_openSession_29 : decode cX6_openSession 29 = .ok (.ldc_w 287, 3) := by decide +kernel
theorem dX6_openSession_32 : decode cX6_openSession 32 = .ok (.invokespecial 280, 3) := by decide +kernel
theorem dX6_openSession_35 : decode cX6_openSession 35 = .ok (.athrow, 1) := by decide +kernel
theorem dX6_openSession_36 : decode cX6_openSession 36 = .ok (.aload_n 0, 1) := by decide +kernel
theorem dX6_openSession_37 : decode cX6_openSession 37 = .ok (.getfield 33, 3) := by decide +kernel
theorem dX6_openSession_40 : decode cX6_openSession 40 = .ok (.getfield 134, 3) := by decide +kernel
theorem dX6_openSession_43 : decode cX6_openSession 43 = .ok (.iload_n 1, 1) := by decide +kernel
theorem dX6_openSession_44 : decode cX6_openSession 44 = .ok (.aaload, 1) := by decide +kernel
theorem dX6_openSession_45 : decode cX6_openSession 45 = .ok (.areturn, 1) := by decide +kernel
theorem dX6_forecastOf_0 : decode cX6_forecastOf 0 = .ok (.aload_n 0, 1) := by decide +kernel
theorem dX6_forecastOf_1 : decode cX6_forecastOf 1 = .ok (.iload_n 1, 1) := by decide +kernel
theorem dX6_forecastOf_2 : decode cX6_forecastOf 2 = .ok (.invokevirtual 147, 3) := by decide +kernel
theorem dX6_forecastOf_5 : decode cX6_forecastOf 5 = .ok (.pop, 1) := by decide +kernel
theorem dX6_forecastOf_6 : decode cX6_forecastOf 6 = .ok (.aload_n 0, 1) := by decide +kernel
theorem dX6_forecastOf_7 : decode cX6_forecastOf 7 = .ok (.getfield 37, 3) := by decide +kernel
theorem dX6_forecastOf_10 : decode cX6_forecastOf 10 = .ok (.aload_n 0, 1) := by decide +kernel
theorem dX6_forecastOf_11 : decode cX6_forecastOf 11 = .ok (.getfield 33, 3) := by decide +kernel
theorem dX6_forecastOf_14 : decode cX6_forecastOf 14 = .ok (.invokevirtual 264, 3) := by decide +kernel
theorem dX6_forecastOf_17 : decode cX6_forecastOf 17 = .ok (.aload_n 0, 1) := by decide +kernel
theorem dX6_forecastOf_18 : decode cX6_forecastOf 18 = .ok (.getfield 37, 3) := by decide +kernel
theorem dX6_forecastOf_21 : decode cX6_forecastOf 21 = .ok (.getfield 134, 3) := by decide +kernel
theorem dX6_forecastOf_24 : decode cX6_forecastOf 24 = .ok (.iload_n 1, 1) := by decide +kernel
theorem dX6_forecastOf_25 : decode cX6_forecastOf 25 = .ok (.aaload, 1) := by decide +kernel
theorem dX6_forecastOf_26 : decode cX6_forecastOf 26 = .ok (.areturn, 1) := by decide +kernel
theorem dX7_init_0 : decode cX7_init 0 = .ok (.aload_n 0, 1) := by decide +kernel
theorem dX7_init_1 : decode cX7_init 1 = .ok (.invokespecial 1, 3) := by decide +kernel
theorem dX7_init_4 : decode cX7_init 4 = .ok (.aload_n 0, 1) := by decide +kernel
theorem dX7_init_5 : decode cX7_init 5 = .ok (.sipush 821, 3) := by decide +kernel
theorem dX7_init_8 : decode cX7_init 8 = .ok (.newarray .int, 2) := by decide +kernel
theorem dX7_init_10 : decode cX7_init 10 = .ok (.putfield 7, 3) := by decide +kernel
theorem dX7_init_13 : decode cX7_init 13 = .ok (.aload_n 0, 1) := by decide +kernel
theorem dX7_init_14 : decode cX7_init 14 = .ok (.bipush 8, 2) := by decide +kernel
theorem dX7_init_16 : decode cX7_init 16 = .ok (.newarray .int, 2) := by decide +kernel
theorem dX7_init_18 : decode cX7_init 18 = .ok (.putfield 13, 3) := by decide +kernel
theorem dX7_init_21 : decode cX7_init 21 = .ok (.aload_n 0, 1) := by decide +kernel
theorem dX7_init_22 : decode cX7_init 22 = .ok (.bipush 16, 2) := by decide +kernel
theorem dX7_init_24 : decode cX7_init 24 = .ok (.newarray .int, 2) := by decide +kernel
theorem dX7_init_26 : decode cX7_init 26 = .ok (.putfield 16, 3) := by decide +kernel
theorem dX7_init_29 : decode cX7_init 29 = .ok (.aload_n 0, 1) := by decide +kernel
theorem dX7_init_30 : decode cX7_init 30 = .ok (.bipush 16, 2) := by decide +kernel
theorem dX7_init_32 : decode cX7_init 32 = .ok (.newarray .int, 2) := by decide +kernel
theorem dX7_init_34 : decode cX7_init 34 = .ok (.putfield 19, 3) := by decide +kernel
theorem dX7_init_37 : decode cX7_init 37 = .ok (.aload_n 0, 1) := by decide +kernel
theorem dX7_init_38 : decode cX7_init 38 = .ok (.sipush 128, 3) := by decide +kernel
theorem dX7_init_41 : decode cX7_init 41 = .ok (.newarray .int, 2) := by decide +kernel
theorem dX7_init_43 : decode cX7_init 43 = .ok (.putfield 22, 3) := by decide +kernel
theorem dX7_init_46 : decode cX7_init 46 = .ok (.aload_n 0, 1) := by decide +kernel
theorem dX7_init_47 : decode cX7_init 47 = .ok (.bipush 16, 2) := by decide +kernel
theorem dX7_init_49 : decode cX7_init 49 = .ok (.newarray .int, 2) := by decide +kernel
theorem dX7_init_51 : decode cX7_init 51 = .ok (.putfield 25, 3) := by decide +kernel
theorem dX7_init_54 : decode cX7_init 54 = .ok (.aload_n 0, 1) := by decide +kernel
theorem dX7_init_55 : decode cX7_init 55 = .ok (.iconst 2, 1) := by decide +kernel
theorem dX7_init_56 : decode cX7_init 56 = .ok (.newarray .int, 2) := by decide +kernel
theorem dX7_init_58 : decode cX7_init 58 = .ok (.putfield 28, 3) := by decide +kernel
theorem dX7_init_61 : decode cX7_init 61 = .ok (.aload_n 0, 1) := by decide +kernel
theorem dX7_init_62 : decode cX7_init 62 = .ok (.sipush 1240, 3) := by decide +kernel
theorem dX7_init_65 : decode cX7_init 65 = .ok (.newarray .int, 2) := by decide +kernel
theorem dX7_init_67 : decode cX7_init 67 = .ok (.putfield 31, 3) := by decide +kernel
theorem dX7_init_70 : decode cX7_init 70 = .ok (.aload_n 0, 1) := by decide +kernel
theorem dX7_init_71 : decode cX7_init 71 = .ok (.sipush 600, 3) := by decide +kernel
theorem dX7_init_74 : decode cX7_init 74 = .ok (.newarray .byte, 2) := by decide +kernel
theorem dX7_init_76 : decode cX7_init 76 = .ok (.putfield 34, 3) := by decide +kernel
theorem dX7_init_79 : decode cX7_init 79 = .ok (.aload_n 0, 1) := by decide +kernel
theorem dX7_init_80 : decode cX7_init 80 = .ok (.iconst (-1), 1) := by decide +kernel
theorem dX7_init_81 : decode cX7_init 81 = .ok (.putfield 38, 3) := by decide +kernel
theorem dX7_init_84 : decode cX7_init 84 = .ok (.aload_n 0, 1) := by decide +kernel
theorem dX7_init_85 : decode cX7_init 85 = .ok (.bipush 40, 2) := by decide +kernel
theorem dX7_init_87 : decode cX7_init 87 = .ok (.newarray .int, 2) := by decide +kernel
theorem dX7_init_89 : decode cX7_init 89 = .ok (.putfield 42, 3) := by decide +kernel
theorem dX7_init_92 : decode cX7_init 92 = .ok (.aload_n 0, 1) := by decide +kernel
theorem dX7_init_93 : decode cX7_init 93 = .ok (.bipush 6, 2) := by decide +kernel
theorem dX7_init_95 : decode cX7_init 95 = .ok (.newarray .int, 2) := by decide +kernel
theorem dX7_init_97 : decode cX7_init 97 = .ok (.putfield 45, 3) := by decide +kernel
theorem dX7_init_100 : decode cX7_init 100 = .ok (.aload_n 0, 1) := by decide +kernel
theorem dX7_init_101 : decode cX7_init 101 = .ok (.sipush 821, 3) := by decide +kernel
theorem dX7_init_104 : decode cX7_init 104 = .ok (.newarray .int, 2) := by decide +kernel
theorem dX7_init_106 : decode cX7_init 106 = .ok (.putfield 48, 3) := by decide +kernel
theorem dX7_init_109 : decode cX7_init 109 = .ok (.aload_n 0, 1) := by decide +kernel
theorem dX7_init_110 : decode cX7_init 110 = .ok (.sipush 8210, 3) := by decide +kernel
theorem dX7_init_113 : decode cX7_init 113 = .ok (.newarray .int, 2) := by decide +kernel
theorem dX7_init_115 : decode cX7_init 115 = .ok (.putfield 51, 3) := by decide +kernel
theorem dX7_init_118 : decode cX7_init 118 = .ok (.aload_n 0, 1) := by decide +kernel
theorem dX7_init_119 : decode cX7_init 119 = .ok (.sipush 1642, 3) := by decide +kernel
theorem dX7_init_122 : decode cX7_init 122 = .ok (.newarray .int, 2) := by decide +kernel
theorem dX7_init_124 : decode cX7_init 124 = .ok (.putfield 54, 3) := by decide +kernel
theorem dX7_init_127 : decode cX7_init 127 = .ok (.aload_n 0, 1) := by decide +kernel
theorem dX7_init_128 : decode cX7_init 128 = .ok (.iconst 2, 1) := by decide +kernel
theorem dX7_init_129 : decode cX7_init 129 = .ok (.newarray .boolean, 2) := by decide +kernel
theorem dX7_init_131 : decode cX7_init 131 = .ok (.putfield 57, 3) := by decide +kernel
theorem dX7_init_134 : decode cX7_init 134 = .ok (.aload_n 0, 1) := by decide +kernel
theorem dX7_init_135 : decode cX7_init 135 = .ok (.invokevirtual 61, 3) := by decide +kernel
theorem dX7_init_138 : decode cX7_init 138 = .ok (.aload_n 0, 1) := by decide +kernel
theorem dX7_init_139 : decode cX7_init 139 = .ok (.invokevirtual 64, 3) := by decide +kernel
theorem dX7_init_142 : decode cX7_init 142 = .ok (.aload_n 0, 1) := by decide +kernel
theorem dX7_init_143 : decode cX7_init 143 = .ok (.invokevirtual 67, 3) := by decide +kernel
theorem dX7_init_146 : decode cX7_init 146 = .ok (.return_, 1) := by decide +kernel
theorem dX7_thrown_0 : decode cX7_thrown 0 = .ok (.aload_n 0, 1) := by decide +kernel
theorem dX7_thrown_1 : decode cX7_thrown 1 = .ok (.getfield 70, 3) := by decide +kernel
theorem dX7_thrown_4 : decode cX7_thrown 4 = .ok (.ireturn, 1) := by decide +kernel
theorem dX7_within_0 : decode cX7_within 0 = .ok (.iload_n 0, 1) := by decide +kernel
theorem dX7_within_1 : decode cX7_within 1 = .ok (.iload_n 1, 1) := by decide +kernel
theorem dX7_within_2 : decode cX7_within 2 = .ok (.if_icmp .lt 12, 3) := by decide +kernel
theorem dX7_within_5 : decode cX7_within 5 = .ok (.iload_n 0, 1) := by decide +kernel
theorem dX7_within_6 : decode cX7_within 6 = .ok (.iload_n 2, 1) := by decide +kernel
theorem dX7_within_7 : decode cX7_within 7 = .ok (.if_icmp .gt 7, 3) := by decide +kernel
theorem dX7_within_10 : decode cX7_within 10 = .ok (.iconst 1, 1) := by decide +kernel
theorem dX7_within_11 : decode cX7_within 11 = .ok (.goto 4, 3) := by decide +kernel
theorem dX7_within_14 : decode cX7_within 14 = .ok (.iconst 0, 1) := by decide +kernel
theorem dX7_within_15 : decode cX7_within 15 = .ok (.ireturn, 1) := by decide +kernel
theorem dX7_has_0 : decode cX7_has 0 = .ok (.iload_n 0, 1) := by decide +kernel
theorem dX7_has_1 : decode cX7_has 1 = .ok (.iload_n 1, 1) := by decide +kernel
theorem dX7_has_2 : decode cX7_has 2 = .ok (.ishr, 1) := by decide +kernel
theorem dX7_has_3 : decode cX7_has 3 = .ok (.iconst 1, 1) := by decide +kernel
theorem dX7_has_4 : decode cX7_has 4 = .ok (.iand, 1) := by decide +kernel
theorem dX7_has_5 : decode cX7_has 5 = .ok (.iconst 1, 1) := by decide +kernel
theorem dX7_has_6 : decode cX7_has 6 = .ok (.if_icmp .ne 7, 3) := by decide +kernel
theorem dX7_has_9 : decode cX7_has 9 = .ok (.iconst 1, 1) := by decide +kernel
theorem dX7_has_10 : decode cX7_has 10 = .ok (.goto 4, 3) := by decide +kernel
theorem dX7_has_13 : decode cX7_has 13 = .ok (.iconst 0, 1) := by decide +kernel
theorem dX7_has_14 : decode cX7_has 14 = .ok (.ireturn, 1) := by decide +kernel
theorem dX7_bits_0 : decode cX7_bits 0 = .ok (.iconst 0, 1) := by decide +kernel
theorem dX7_bits_1 : decode cX7_bits 1 = .ok (.istore_n 1, 1) := by decide +kernel
theorem dX7_bits_2 : decode cX7_bits 2 = .ok (.iload_n 0, 1) := by decide +kernel
theorem dX7_bits_3 : decode cX7_bits 3 = .ok (.istore_n 2, 1) := by decide +kernel
theorem dX7_bits_4 : decode cX7_bits 4 = .ok (.iload_n 2, 1) := by decide +kernel
theorem dX7_bits_5 : decode cX7_bits 5 = .ok (.ifCond .eq 15, 3) := by decide +kernel
theorem dX7_bits_8 : decode cX7_bits 8 = .ok (.iinc 1 1, 3) := by decide +kernel
theorem dX7_bits_11 : decode cX7_bits 11 = .ok (.iload_n 2, 1) := by decide +kernel
theorem dX7_bits_12 : decode cX7_bits 12 = .ok (.iload_n 2, 1) := by decide +kernel
theorem dX7_bits_13 : decode cX7_bits 13 = .ok (.iconst 1, 1) := by decide +kernel
theorem dX7_bits_14 : decode cX7_bits 14 = .ok (.isub, 1) := by decide +kernel
theorem dX7_bits_15 : decode cX7_bits 15 = .ok (.iand, 1) := by decide +kernel
theorem dX7_bits_16 : decode cX7_bits 16 = .ok (.istore_n 2, 1) := by decide +kernel
theorem dX7_bits_17 : decode cX7_bits 17 = .ok (.goto (-13), 3) := by decide +kernel
theorem dX7_bits_20 : decode cX7_bits 20 = .ok (.iload_n 1, 1) := by decide +kernel
theorem dX7_bits_21 : decode cX7_bits 21 = .ok (.ireturn, 1) := by decide +kernel
theorem dX7_throwsIf_0 : decode cX7_throwsIf 0 = .ok (.aload_n 0, 1) := by decide +kernel
theorem dX7_throwsIf_1 : decode cX7_throwsIf 1 = .ok (.getfield 70, 3) := by decide +kernel
theorem dX7_throwsIf_4 : decode cX7_throwsIf 4 = .ok (.ifCond .ne 12, 3) := by decide +kernel
theorem dX7_throwsIf_7 : decode cX7_throwsIf 7 = .ok (.iload_n 1, 1) := by decide +kernel
theorem dX7_throwsIf_8 : decode cX7_throwsIf 8 = .ok (.ifCond .eq 8, 3) := by decide +kernel
theorem dX7_throwsIf_11 : decode cX7_throwsIf 11 = .ok (.aload_n 0, 1) := by decide +kernel
theorem dX7_throwsIf_12 : decode cX7_throwsIf 12 = .ok (.iload_n 2, 1) := by decide +kernel
theorem dX7_throwsIf_13 : decode cX7_throwsIf 13 = .ok (.putfield 70, 3) := by decide +kernel
theorem dX7_throwsIf_16 : decode cX7_throwsIf 16 = .ok (.aload_n 0, 1) := by decide +kernel
theorem dX7_throwsIf_17 : decode cX7_throwsIf 17 = .ok (.getfield 70, 3) := by decide +kernel
theorem dX7_throwsIf_20 : decode cX7_throwsIf 20 = .ok (.ifCond .le 7, 3) := by decide +kernel
theorem dX7_throwsIf_23 : decode cX7_throwsIf 23 = .ok (.iconst 1, 1) := by decide +kernel
theorem dX7_throwsIf_24 : decode cX7_throwsIf 24 = .ok (.goto 4, 3) := by decide +kernel
theorem dX7_throwsIf_27 : decode cX7_throwsIf 27 = .ok (.iconst 0, 1) := by decide +kernel
theorem dX7_throwsIf_28 : decode cX7_throwsIf 28 = .ok (.ireturn, 1) := by decide +kernel
theorem dX7_lifts_0 : decode cX7_lifts 0 = .ok (.iconst 0, 1) := by decide +kernel
theorem dX7_lifts_1 : decode cX7_lifts 1 = .ok (.istore_n 1, 1) := by decide +kernel
theorem dX7_lifts_2 : decode cX7_lifts 2 = .ok (.iload_n 1, 1) := by decide +kernel
theorem dX7_lifts_3 : decode cX7_lifts 3 = .ok (.aload_n 0, 1) := by decide +kernel
theorem dX7_lifts_4 : decode cX7_lifts 4 = .ok (.arraylength, 1) := by decide +kernel
theorem dX7_lifts_5 : decode cX7_lifts 5 = .ok (.iconst 2, 1) := by decide +kernel
theorem dX7_lifts_6 : decode cX7_lifts 6 = .ok (.idiv, 1) := by decide +kernel
theorem dX7_lifts_7 : decode cX7_lifts 7 = .ok (.if_icmp .ge 20, 3) := by decide +kernel
theorem dX7_lifts_10 : decode cX7_lifts 10 = .ok (.aload_n 0, 1) := by decide +kernel
theorem dX7_lifts_11 : decode cX7_lifts 11 = .ok (.iload_n 1, 1) := by decide +kernel
theorem dX7_lifts_12 : decode cX7_lifts 12 = .ok (.aload_n 0, 1) := by decide +kernel
theorem dX7_lifts_13 : decode cX7_lifts 13 = .ok (.aload_n 0, 1) := by decide +kernel
theorem dX7_lifts_14 : decode cX7_lifts 14 = .ok (.arraylength, 1) := by decide +kernel
theorem dX7_lifts_15 : decode cX7_lifts 15 = .ok (.iconst 2, 1) := by decide +kernel
theorem dX7_lifts_16 : decode cX7_lifts 16 = .ok (.idiv, 1) := by decide +kernel
theorem dX7_lifts_17 : decode cX7_lifts 17 = .ok (.iload_n 1, 1) := by decide +kernel
theorem dX7_lifts_18 : decode cX7_lifts 18 = .ok (.iadd, 1) := by decide +kernel
theorem dX7_lifts_19 : decode cX7_lifts 19 = .ok (.iaload, 1) := by decide +kernel
theorem dX7_lifts_20 : decode cX7_lifts 20 = .ok (.iastore, 1) := by decide +kernel
theorem dX7_lifts_21 : decode cX7_lifts 21 = .ok (.iinc 1 1, 3) := by decide +kernel
theorem dX7_lifts_24 : decode cX7_lifts 24 = .ok (.goto (-22), 3) := by decide +kernel
theorem dX7_lifts_27 : decode cX7_lifts 27 = .ok (.return_, 1) := by decide +kernel
theorem dX7_liftsAll_0 : decode cX7_liftsAll 0 = .ok (.aload_n 0, 1) := by decide +kernel
theorem dX7_liftsAll_1 : decode cX7_liftsAll 1 = .ok (.getfield 13, 3) := by decide +kernel
theorem dX7_liftsAll_4 : decode cX7_liftsAll 4 = .ok (.invokestatic 73, 3) := by decide +kernel
theorem dX7_liftsAll_7 : decode cX7_liftsAll 7 = .ok (.aload_n 0, 1) := by decide +kernel
theorem dX7_liftsAll_8 : decode cX7_liftsAll 8 = .ok (.getfield 16, 3) := by decide +kernel
theorem dX7_liftsAll_11 : decode cX7_liftsAll 11 = .ok (.invokestatic 73, 3) := by decide +kernel
theorem dX7_liftsAll_14 : decode cX7_liftsAll 14 = .ok (.aload_n 0, 1) := by decide +kernel
theorem dX7_liftsAll_15 : decode cX7_liftsAll 15 = .ok (.getfield 19, 3) := by decide +kernel
theorem dX7_liftsAll_18 : decode cX7_liftsAll 18 = .ok (.invokestatic 73, 3) := by decide +kernel
theorem dX7_liftsAll_21 : decode cX7_liftsAll 21 = .ok (.aload_n 0, 1) := by decide +kernel
theorem dX7_liftsAll_22 : decode cX7_liftsAll 22 = .ok (.getfield 22, 3) := by decide +kernel
theorem dX7_liftsAll_25 : decode cX7_liftsAll 25 = .ok (.invokestatic 73, 3) := by decide +kernel
theorem dX7_liftsAll_28 : decode cX7_liftsAll 28 = .ok (.aload_n 0, 1) := by decide +kernel
theorem dX7_liftsAll_29 : decode cX7_liftsAll 29 = .ok (.getfield 25, 3) := by decide +kernel
theorem dX7_liftsAll_32 : decode cX7_liftsAll 32 = .ok (.invokestatic 73, 3) := by decide +kernel
theorem dX7_liftsAll_35 : decode cX7_liftsAll 35 = .ok (.aload_n 0, 1) := by decide +kernel
theorem dX7_liftsAll_36 : decode cX7_liftsAll 36 = .ok (.getfield 28, 3) := by decide +kernel
theorem dX7_liftsAll_39 : decode cX7_liftsAll 39 = .ok (.invokestatic 73, 3) := by decide +kernel
theorem dX7_liftsAll_42 : decode cX7_liftsAll 42 = .ok (.aload_n 0, 1) := by decide +kernel
theorem dX7_liftsAll_43 : decode cX7_liftsAll 43 = .ok (.getfield 31, 3) := by decide +kernel
theorem dX7_liftsAll_46 : decode cX7_liftsAll 46 = .ok (.invokestatic 73, 3) := by decide +kernel
theorem dX7_liftsAll_49 : decode cX7_liftsAll 49 = .ok (.return_, 1) := by decide +kernel
theorem dX7_clearDraft_0 : decode cX7_clearDraft 0 = .ok (.aload_n 0, 1) := by decide +kernel
theorem dX7_clearDraft_1 : decode cX7_clearDraft 1 = .ok (.getfield 13, 3) := by decide +kernel
theorem dX7_clearDraft_4 : decode cX7_clearDraft 4 = .ok (.iconst 4, 1) := by decide +kernel
theorem dX7_clearDraft_5 : decode cX7_clearDraft 5 = .ok (.iconst 0, 1) := by decide +kernel
theorem dX7_clearDraft_6 : decode cX7_clearDraft 6 = .ok (.iastore, 1) := by decide +kernel
theorem dX7_clearDraft_7 : decode cX7_clearDraft 7 = .ok (.aload_n 0, 1) := by decide +kernel
theorem dX7_clearDraft_8 : decode cX7_clearDraft 8 = .ok (.getfield 13, 3) := by decide +kernel
theorem dX7_clearDraft_11 : decode cX7_clearDraft 11 = .ok (.iconst 5, 1) := by decide +kernel
theorem dX7_clearDraft_12 : decode cX7_clearDraft 12 = .ok (.iconst 3, 1) := by decide +kernel
theorem dX7_clearDraft_13 : decode cX7_clearDraft 13 = .ok (.iastore, 1) := by decide +kernel
theorem dX7_clearDraft_14 : decode cX7_clearDraft 14 = .ok (.aload_n 0, 1) := by decide +kernel
theorem dX7_clearDraft_15 : decode cX7_clearDraft 15 = .ok (.getfield 13, 3) := by decide +kernel
theorem dX7_clearDraft_18 : decode cX7_clearDraft 18 = .ok (.bipush 6, 2) := by decide +kernel
theorem dX7_clearDraft_20 : decode cX7_clearDraft 20 = .ok (.iconst 2, 1) := by decide +kernel
theorem dX7_clearDraft_21 : decode cX7_clearDraft 21 = .ok (.iastore, 1) := by decide +kernel
theorem dX7_clearDraft_22 : decode cX7_clearDraft 22 = .ok (.aload_n 0, 1) := by decide +kernel
theorem dX7_clearDraft_23 : decode cX7_clearDraft 23 = .ok (.getfield 13, 3) := by decide +kernel
theorem dX7_clearDraft_26 : decode cX7_clearDraft 26 = .ok (.bipush 7, 2) := by decide +kernel
theorem dX7_clearDraft_28 : decode cX7_clearDraft 28 = .ok (.bipush 10, 2) := by decide +kernel
theorem dX7_clearDraft_30 : decode cX7_clearDraft 30 = .ok (.iastore, 1) := by decide +kernel
theorem dX7_clearDraft_31 : decode cX7_clearDraft 31 = .ok (.iconst 0, 1) := by decide +kernel
theorem dX7_clearDraft_32 : decode cX7_clearDraft 32 = .ok (.istore_n 1, 1) := by decide +kernel
theorem dX7_clearDraft_33 : decode cX7_clearDraft 33 = .ok (.iload_n 1, 1) := by decide +kernel
theorem dX7_clearDraft_34 : decode cX7_clearDraft 34 = .ok (.bipush 64, 2) := by decide +kernel
theorem dX7_clearDraft_36 : decode cX7_clearDraft 36 = .ok (.if_icmp .ge 19, 3) := by decide +kernel
theorem dX7_clearDraft_39 : decode cX7_clearDraft 39 = .ok (.aload_n 0, 1) := by decide +kernel
theorem dX7_clearDraft_40 : decode cX7_clearDraft 40 = .ok (.getfield 22, 3) := by decide +kernel
theorem dX7_clearDraft_43 : decode cX7_clearDraft 43 = .ok (.bipush 64, 2) := by decide +kernel
theorem dX7_clearDraft_45 : decode cX7_clearDraft 45 = .ok (.iload_n 1, 1) := by decide +kernel
theorem dX7_clearDraft_46 : decode cX7_clearDraft 46 = .ok (.iadd, 1) := by decide +kernel
theorem dX7_clearDraft_47 : decode cX7_clearDraft 47 = .ok (.iconst 0, 1) := by decide +kernel
theorem dX7_clearDraft_48 : decode cX7_clearDraft 48 = .ok (.iastore, 1) := by decide +kernel
theorem dX7_clearDraft_49 : decode cX7_clearDraft 49 = .ok (.iinc 1 1, 3) := by decide +kernel
theorem dX7_clearDraft_52 : decode cX7_clearDraft 52 = .ok (.goto (-19), 3) := by decide +kernel
theorem dX7_clearDraft_55 : decode cX7_clearDraft 55 = .ok (.iconst 0, 1) := by decide +kernel
theorem dX7_clearDraft_56 : decode cX7_clearDraft 56 = .ok (.istore_n 1, 1) := by decide +kernel
theorem dX7_clearDraft_57 : decode cX7_clearDraft 57 = .ok (.iload_n 1, 1) := by decide +kernel
theorem dX7_clearDraft_58 : decode cX7_clearDraft 58 = .ok (.bipush 8, 2) := by decide +kernel
theorem dX7_clearDraft_60 : decode cX7_clearDraft 60 = .ok (.if_icmp .ge 19, 3) := by decide +kernel
theorem dX7_clearDraft_63 : decode cX7_clearDraft 63 = .ok (.aload_n 0, 1) := by decide +kernel
theorem dX7_clearDraft_64 : decode cX7_clearDraft 64 = .ok (.getfield 25, 3) := by decide +kernel
theorem dX7_clearDraft_67 : decode cX7_clearDraft 67 = .ok (.bipush 8, 2) := by decide +kernel
theorem dX7_clearDraft_69 : decode cX7_clearDraft 69 = .ok (.iload_n 1, 1) := by decide +kernel
theorem dX7_clearDraft_70 : decode cX7_clearDraft 70 = .ok (.iadd, 1) := by decide +kernel
theorem dX7_clearDraft_71 : decode cX7_clearDraft 71 = .ok (.iconst 0, 1) := by decide +kernel
theorem dX7_clearDraft_72 : decode cX7_clearDraft 72 = .ok (.iastore, 1) := by decide +kernel
theorem dX7_clearDraft_73 : decode cX7_clearDraft 73 = .ok (.iinc 1 1, 3) := by decide +kernel
theorem dX7_clearDraft_76 : decode cX7_clearDraft 76 = .ok (.goto (-19), 3) := by decide +kernel
theorem dX7_clearDraft_79 : decode cX7_clearDraft 79 = .ok (.aload_n 0, 1) := by decide +kernel
theorem dX7_clearDraft_80 : decode cX7_clearDraft 80 = .ok (.getfield 28, 3) := by decide +kernel
theorem dX7_clearDraft_83 : decode cX7_clearDraft 83 = .ok (.iconst 1, 1) := by decide +kernel
theorem dX7_clearDraft_84 : decode cX7_clearDraft 84 = .ok (.iconst 0, 1) := by decide +kernel
theorem dX7_clearDraft_85 : decode cX7_clearDraft 85 = .ok (.iastore, 1) := by decide +kernel
theorem dX7_clearDraft_86 : decode cX7_clearDraft 86 = .ok (.aload_n 0, 1) := by decide +kernel
