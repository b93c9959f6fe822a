theorem dX0_init_0 : decode cX0_init 0 = .ok (.aload_n 0, 1) := by decide +kernel
theorem dX0_init_1 : decode cX0_init 1 = .ok (.invokespecial 3, 3) := by decide +kernel
theorem dX0_init_4 : decode cX0_init 4 = .ok (.aload_n 0, 1) := by decide +kernel
theorem dX0_init_5 : decode cX0_init 5 = .ok (.sipush 3904, 3) := by decide +kernel
theorem dX0_init_8 : decode cX0_init 8 = .ok (.newarray .long, 2) := by decide +kernel
theorem dX0_init_10 : decode cX0_init 10 = .ok (.putfield 9, 3) := by decide +kernel
theorem dX0_init_13 : decode cX0_init 13 = .ok (.aload_n 0, 1) := by decide +kernel
theorem dX0_init_14 : decode cX0_init 14 = .ok (.bipush 64, 2) := by decide +kernel
theorem dX0_init_16 : decode cX0_init 16 = .ok (.newarray .long, 2) := by decide +kernel
theorem dX0_init_18 : decode cX0_init 18 = .ok (.putfield 15, 3) := by decide +kernel
theorem dX0_init_21 : decode cX0_init 21 = .ok (.aload_n 0, 1) := by decide +kernel
theorem dX0_init_22 : decode cX0_init 22 = .ok (.sipush 305, 3) := by decide +kernel
theorem dX0_init_25 : decode cX0_init 25 = .ok (.newarray .long, 2) := by decide +kernel
theorem dX0_init_27 : decode cX0_init 27 = .ok (.putfield 18, 3) := by decide +kernel
theorem dX0_init_30 : decode cX0_init 30 = .ok (.return_, 1) := by decide +kernel
theorem dX0_clear_0 : decode cX0_clear 0 = .ok (.aload_n 0, 1) := by decide +kernel
theorem dX0_clear_1 : decode cX0_clear 1 = .ok (.iconst 0, 1) := by decide +kernel
theorem dX0_clear_2 : decode cX0_clear 2 = .ok (.putfield 21, 3) := by decide +kernel
theorem dX0_clear_5 : decode cX0_clear 5 = .ok (.aload_n 0, 1) := by decide +kernel
theorem dX0_clear_6 : decode cX0_clear 6 = .ok (.getfield 9, 3) := by decide +kernel
theorem dX0_clear_9 : decode cX0_clear 9 = .ok (.lconst 0, 1) := by decide +kernel
theorem dX0_clear_10 : decode cX0_clear 10 = .ok (.invokestatic 25, 3) := by decide +kernel
theorem dX0_clear_13 : decode cX0_clear 13 = .ok (.aload_n 0, 1) := by decide +kernel
theorem dX0_clear_14 : decode cX0_clear 14 = .ok (.getfield 15, 3) := by decide +kernel
theorem dX0_clear_17 : decode cX0_clear 17 = .ok (.lconst 0, 1) := by decide +kernel
theorem dX0_clear_18 : decode cX0_clear 18 = .ok (.invokestatic 25, 3) := by decide +kernel
theorem dX0_clear_21 : decode cX0_clear 21 = .ok (.aload_n 0, 1) := by decide +kernel
theorem dX0_clear_22 : decode cX0_clear 22 = .ok (.getfield 18, 3) := by decide +kernel
theorem dX0_clear_25 : decode cX0_clear 25 = .ok (.lconst 0, 1) := by decide +kernel
theorem dX0_clear_26 : decode cX0_clear 26 = .ok (.invokestatic 25, 3) := by decide +kernel
theorem dX0_clear_29 : decode cX0_clear 29 = .ok (.return_, 1) := by decide +kernel
theorem dX0_become_0 : decode cX0_become 0 = .ok (.aload_n 0, 1) := by decide +kernel
theorem dX0_become_1 : decode cX0_become 1 = .ok (.aload_n 1, 1) := by decide +kernel
theorem dX0_become_2 : decode cX0_become 2 = .ok (.getfield 21, 3) := by decide +kernel
theorem dX0_become_5 : decode cX0_become 5 = .ok (.putfield 21, 3) := by decide +kernel
theorem dX0_become_8 : decode cX0_become 8 = .ok (.aload_n 1, 1) := by decide +kernel
theorem dX0_become_9 : decode cX0_become 9 = .ok (.getfield 9, 3) := by decide +kernel
theorem dX0_become_12 : decode cX0_become 12 = .ok (.iconst 0, 1) := by decide +kernel
theorem dX0_become_13 : decode cX0_become 13 = .ok (.aload_n 0, 1) := by decide +kernel
theorem dX0_become_14 : decode cX0_become 14 = .ok (.getfield 9, 3) := by decide +kernel
theorem dX0_become_17 : decode cX0_become 17 = .ok (.iconst 0, 1) := by decide +kernel
theorem dX0_become_18 : decode cX0_become 18 = .ok (.sipush 3904, 3) := by decide +kernel
theorem dX0_become_21 : decode cX0_become 21 = .ok (.invokestatic 31, 3) := by decide +kernel
theorem dX0_become_24 : decode cX0_become 24 = .ok (.aload_n 1, 1) := by decide +kernel
theorem dX0_become_25 : decode cX0_become 25 = .ok (.getfield 15, 3) := by decide +kernel
theorem dX0_become_28 : decode cX0_become 28 = .ok (.iconst 0, 1) := by decide +kernel
theorem dX0_become_29 : decode cX0_become 29 = .ok (.aload_n 0, 1) := by decide +kernel
theorem dX0_become_30 : decode cX0_become 30 = .ok (.getfield 15, 3) := by decide +kernel
theorem dX0_become_33 : decode cX0_become 33 = .ok (.iconst 0, 1) := by decide +kernel
theorem dX0_become_34 : decode cX0_become 34 = .ok (.bipush 64, 2) := by decide +kernel
theorem dX0_become_36 : decode cX0_become 36 = .ok (.invokestatic 31, 3) := by decide +kernel
theorem dX0_become_39 : decode cX0_become 39 = .ok (.aload_n 1, 1) := by decide +kernel
theorem dX0_become_40 : decode cX0_become 40 = .ok (.getfield 18, 3) := by decide +kernel
theorem dX0_become_43 : decode cX0_become 43 = .ok (.iconst 0, 1) := by decide +kernel
theorem dX0_become_44 : decode cX0_become 44 = .ok (.aload_n 0, 1) := by decide +kernel
theorem dX0_become_45 : decode cX0_become 45 = .ok (.getfield 18, 3) := by decide +kernel
theorem dX0_become_48 : decode cX0_become 48 = .ok (.iconst 0, 1) := by decide +kernel
theorem dX0_become_49 : decode cX0_become 49 = .ok (.sipush 305, 3) := by decide +kernel
theorem dX0_become_52 : decode cX0_become 52 = .ok (.invokestatic 31, 3) := by decide +kernel
theorem dX0_become_55 : decode cX0_become 55 = .ok (.return_, 1) := by decide +kernel
theorem dX0_settleAs_0 : decode cX0_settleAs 0 = .ok (.aload_n 2, 1) := by decide +kernel
theorem dX0_settleAs_1 : decode cX0_settleAs 1 = .ok (.getfield 9, 3) := by decide +kernel
theorem dX0_settleAs_4 : decode cX0_settleAs 4 = .ok (.iload_n 3, 1) := by decide +kernel
theorem dX0_settleAs_5 : decode cX0_settleAs 5 = .ok (.bipush 61, 2) := by decide +kernel
theorem dX0_settleAs_7 : decode cX0_settleAs 7 = .ok (.imul, 1) := by decide +kernel
theorem dX0_settleAs_8 : decode cX0_settleAs 8 = .ok (.aload_n 0, 1) := by decide +kernel
theorem dX0_settleAs_9 : decode cX0_settleAs 9 = .ok (.getfield 9, 3) := by decide +kernel
theorem dX0_settleAs_12 : decode cX0_settleAs 12 = .ok (.iload_n 1, 1) := by decide +kernel
theorem dX0_settleAs_13 : decode cX0_settleAs 13 = .ok (.bipush 61, 2) := by decide +kernel
theorem dX0_settleAs_15 : decode cX0_settleAs 15 = .ok (.imul, 1) := by decide +kernel
theorem dX0_settleAs_16 : decode cX0_settleAs 16 = .ok (.bipush 61, 2) := by decide +kernel
theorem dX0_settleAs_18 : decode cX0_settleAs 18 = .ok (.invokestatic 31, 3) := by decide +kernel
theorem dX0_settleAs_21 : decode cX0_settleAs 21 = .ok (.aload_n 0, 1) := by decide +kernel
theorem dX0_settleAs_22 : decode cX0_settleAs 22 = .ok (.getfield 15, 3) := by decide +kernel
theorem dX0_settleAs_25 : decode cX0_settleAs 25 = .ok (.iload_n 1, 1) := by decide +kernel
theorem dX0_settleAs_26 : decode cX0_settleAs 26 = .ok (.aload_n 2, 1) := by decide +kernel
theorem dX0_settleAs_27 : decode cX0_settleAs 27 = .ok (.getfield 15, 3) := by decide +kernel
theorem dX0_settleAs_30 : decode cX0_settleAs 30 = .ok (.iload_n 3, 1) := by decide +kernel
theorem dX0_settleAs_31 : decode cX0_settleAs 31 = .ok (.laload, 1) := by decide +kernel
theorem dX0_settleAs_32 : decode cX0_settleAs 32 = .ok (.lastore, 1) := by decide +kernel
theorem dX0_settleAs_33 : decode cX0_settleAs 33 = .ok (.return_, 1) := by decide +kernel
theorem dX0_lay_0 : decode cX0_lay 0 = .ok (.aload_n 0, 1) := by decide +kernel
theorem dX0_lay_1 : decode cX0_lay 1 = .ok (.getfield 9, 3) := by decide +kernel
theorem dX0_lay_4 : decode cX0_lay 4 = .ok (.iload_n 1, 1) := by decide +kernel
theorem dX0_lay_5 : decode cX0_lay 5 = .ok (.bipush 61, 2) := by decide +kernel
theorem dX0_lay_7 : decode cX0_lay 7 = .ok (.imul, 1) := by decide +kernel
theorem dX0_lay_8 : decode cX0_lay 8 = .ok (.iload_n 2, 1) := by decide +kernel
theorem dX0_lay_9 : decode cX0_lay 9 = .ok (.iadd, 1) := by decide +kernel
theorem dX0_lay_10 : decode cX0_lay 10 = .ok (.dup2, 1) := by decide +kernel
theorem dX0_lay_11 : decode cX0_lay 11 = .ok (.laload, 1) := by decide +kernel
theorem dX0_lay_12 : decode cX0_lay 12 = .ok (.lload_n 3, 1) := by decide +kernel
theorem dX0_lay_13 : decode cX0_lay 13 = .ok (.ladd, 1) := by decide +kernel
theorem dX0_lay_14 : decode cX0_lay 14 = .ok (.lastore, 1) := by decide +kernel
theorem dX0_lay_15 : decode cX0_lay 15 = .ok (.aload_n 0, 1) := by decide +kernel
theorem dX0_lay_16 : decode cX0_lay 16 = .ok (.getfield 15, 3) := by decide +kernel
theorem dX0_lay_19 : decode cX0_lay 19 = .ok (.iload_n 1, 1) := by decide +kernel
theorem dX0_lay_20 : decode cX0_lay 20 = .ok (.dup2, 1) := by decide +kernel
theorem dX0_lay_21 : decode cX0_lay 21 = .ok (.laload, 1) := by decide +kernel
theorem dX0_lay_22 : decode cX0_lay 22 = .ok (.lload_n 3, 1) := by decide +kernel
theorem dX0_lay_23 : decode cX0_lay 23 = .ok (.ladd, 1) := by decide +kernel
theorem dX0_lay_24 : decode cX0_lay 24 = .ok (.lastore, 1) := by decide +kernel
theorem dX0_lay_25 : decode cX0_lay 25 = .ok (.aload_n 0, 1) := by decide +kernel
theorem dX0_lay_26 : decode cX0_lay 26 = .ok (.getfield 18, 3) := by decide +kernel
theorem dX0_lay_29 : decode cX0_lay 29 = .ok (.iconst 0, 1) := by decide +kernel
theorem dX0_lay_30 : decode cX0_lay 30 = .ok (.iload_n 2, 1) := by decide +kernel
theorem dX0_lay_31 : decode cX0_lay 31 = .ok (.iadd, 1) := by decide +kernel
theorem dX0_lay_32 : decode cX0_lay 32 = .ok (.dup2, 1) := by decide +kernel
theorem dX0_lay_33 : decode cX0_lay 33 = .ok (.laload, 1) := by decide +kernel
theorem dX0_lay_34 : decode cX0_lay 34 = .ok (.lload_n 3, 1) := by decide +kernel
theorem dX0_lay_35 : decode cX0_lay 35 = .ok (.ladd, 1) := by decide +kernel
theorem dX0_lay_36 : decode cX0_lay 36 = .ok (.lastore, 1) := by decide +kernel
theorem dX0_lay_37 : decode cX0_lay 37 = .ok (.return_, 1) := by decide +kernel
theorem dX0_lift_0 : decode cX0_lift 0 = .ok (.aload_n 0, 1) := by decide +kernel
theorem dX0_lift_1 : decode cX0_lift 1 = .ok (.iload_n 1, 1) := by decide +kernel
theorem dX0_lift_2 : decode cX0_lift 2 = .ok (.iload_n 2, 1) := by decide +kernel
theorem dX0_lift_3 : decode cX0_lift 3 = .ok (.lload_n 3, 1) := by decide +kernel
theorem dX0_lift_4 : decode cX0_lift 4 = .ok (.lneg, 1) := by decide +kernel
theorem dX0_lift_5 : decode cX0_lift 5 = .ok (.invokevirtual 37, 3) := by decide +kernel
theorem dX0_lift_8 : decode cX0_lift 8 = .ok (.return_, 1) := by decide +kernel
theorem dX0_arrive_0 : decode cX0_arrive 0 = .ok (.aload_n 0, 1) := by decide +kernel
theorem dX0_arrive_1 : decode cX0_arrive 1 = .ok (.iload_n 1, 1) := by decide +kernel
theorem dX0_arrive_2 : decode cX0_arrive 2 = .ok (.iload_n 2, 1) := by decide +kernel
theorem dX0_arrive_3 : decode cX0_arrive 3 = .ok (.lload_n 3, 1) := by decide +kernel
theorem dX0_arrive_4 : decode cX0_arrive 4 = .ok (.invokevirtual 37, 3) := by decide +kernel
theorem dX0_arrive_7 : decode cX0_arrive 7 = .ok (.aload_n 0, 1) := by decide +kernel
theorem dX0_arrive_8 : decode cX0_arrive 8 = .ok (.getfield 18, 3) := by decide +kernel
theorem dX0_arrive_11 : decode cX0_arrive 11 = .ok (.sipush 244, 3) := by decide +kernel
theorem dX0_arrive_14 : decode cX0_arrive 14 = .ok (.iload_n 2, 1) := by decide +kernel
theorem dX0_arrive_15 : decode cX0_arrive 15 = .ok (.iadd, 1) := by decide +kernel
theorem dX0_arrive_16 : decode cX0_arrive 16 = .ok (.dup2, 1) := by decide +kernel
theorem dX0_arrive_17 : decode cX0_arrive 17 = .ok (.laload, 1) := by decide +kernel
theorem dX0_arrive_18 : decode cX0_arrive 18 = .ok (.lload_n 3, 1) := by decide +kernel
theorem dX0_arrive_19 : decode cX0_arrive 19 = .ok (.ladd, 1) := by decide +kernel
theorem dX0_arrive_20 : decode cX0_arrive 20 = .ok (.lastore, 1) := by decide +kernel
theorem dX0_arrive_21 : decode cX0_arrive 21 = .ok (.return_, 1) := by decide +kernel
theorem dX0_lose_0 : decode cX0_lose 0 = .ok (.lload_n 2, 1) := by decide +kernel
theorem dX0_lose_1 : decode cX0_lose 1 = .ok (.lstore 5, 2) := by decide +kernel
theorem dX0_lose_3 : decode cX0_lose 3 = .ok (.aload_n 0, 1) := by decide +kernel
theorem dX0_lose_4 : decode cX0_lose 4 = .ok (.getfield 21, 3) := by decide +kernel
theorem dX0_lose_7 : decode cX0_lose 7 = .ok (.istore 7, 2) := by decide +kernel
theorem dX0_lose_9 : decode cX0_lose 9 = .ok (.iload 7, 2) := by decide +kernel
theorem dX0_lose_11 : decode cX0_lose 11 = .ok (.ifCond .lt 69, 3) := by decide +kernel
theorem dX0_lose_14 : decode cX0_lose 14 = .ok (.lload 5, 2) := by decide +kernel
theorem dX0_lose_16 : decode cX0_lose 16 = .ok (.lconst 0, 1) := by decide +kernel
theorem dX0_lose_17 : decode cX0_lose 17 = .ok (.lcmp, 1) := by decide +kernel
theorem dX0_lose_18 : decode cX0_lose 18 = .ok (.ifCond .le 62, 3) := by decide +kernel
theorem dX0_lose_21 : decode cX0_lose 21 = .ok (.lload 5, 2) := by decide +kernel
theorem dX0_lose_23 : decode cX0_lose 23 = .ok (.aload_n 0, 1) := by decide +kernel
theorem dX0_lose_24 : decode cX0_lose 24 = .ok (.getfield 9, 3) := by decide +kernel
theorem dX0_lose_27 : decode cX0_lose 27 = .ok (.iload_n 1, 1) := by decide +kernel
theorem dX0_lose_28 : decode cX0_lose 28 = .ok (.bipush 61, 2) := by decide +kernel
theorem dX0_lose_30 : decode cX0_lose 30 = .ok (.imul, 1) := by decide +kernel
theorem dX0_lose_31 : decode cX0_lose 31 = .ok (.iload 7, 2) := by decide +kernel
theorem dX0_lose_33 : decode cX0_lose 33 = .ok (.iadd, 1) := by decide +kernel
theorem dX0_lose_34 : decode cX0_lose 34 = .ok (.laload, 1) := by decide +kernel
theorem dX0_lose_35 : decode cX0_lose 35 = .ok (.invokestatic 41, 3) := by decide +kernel
theorem dX0_lose_38 : decode cX0_lose 38 = .ok (.lstore 8, 2) := by decide +kernel
theorem dX0_lose_40 : decode cX0_lose 40 = .ok (.aload_n 0, 1) := by decide +kernel
theorem dX0_lose_41 : decode cX0_lose 41 = .ok (.iload_n 1, 1) := by decide +kernel
theorem dX0_lose_42 : decode cX0_lose 42 = .ok (.iload 7, 2) := by decide +kernel
theorem dX0_lose_44 : decode cX0_lose 44 = .ok (.lload 8, 2) := by decide +kernel
theorem dX0_lose_46 : decode cX0_lose 46 = .ok (.invokevirtual 47, 3) := by decide +kernel
theorem dX0_lose_49 : decode cX0_lose 49 = .ok (.aload_n 0, 1) := by decide +kernel
theorem dX0_lose_50 : decode cX0_lose 50 = .ok (.getfield 18, 3) := by decide +kernel
theorem dX0_lose_53 : decode cX0_lose 53 = .ok (.iload 4, 2) := by decide +kernel
theorem dX0_lose_55 : decode cX0_lose 55 = .ok (.bipush 61, 2) := by decide +kernel
theorem dX0_lose_57 : decode cX0_lose 57 = .ok (.imul, 1) := by decide +kernel
theorem dX0_lose_58 : decode cX0_lose 58 = .ok (.iload 7, 2) := by decide +kernel
theorem dX0_lose_60 : decode cX0_lose 60 = .ok (.iadd, 1) := by decide +kernel
theorem dX0_lose_61 : decode cX0_lose 61 = .ok (.dup2, 1) := by decide +kernel
theorem dX0_lose_62 : decode cX0_lose 62 = .ok (.laload, 1) := by decide +kernel
theorem dX0_lose_63 : decode cX0_lose 63 = .ok (.lload 8, 2) := by decide +kernel
theorem dX0_lose_65 : decode cX0_lose 65 = .ok (.ladd, 1) := by decide +kernel
theorem dX0_lose_66 : decode cX0_lose 66 = .ok (.lastore, 1) := by decide +kernel
theorem dX0_lose_67 : decode cX0_lose 67 = .ok (.lload 5, 2) := by decide +kernel
theorem dX0_lose_69 : decode cX0_lose 69 = .ok (.lload 8, 2) := by decide +kernel
theorem dX0_lose_71 : decode cX0_lose 71 = .ok (.lsub, 1) := by decide +kernel
theorem dX0_lose_72 : decode cX0_lose 72 = .ok (.lstore 5, 2) := by decide +kernel
theorem dX0_lose_74 : decode cX0_lose 74 = .ok (.iinc 7 (-1), 3) := by decide +kernel
theorem dX0_lose_77 : decode cX0_lose 77 = .ok (.goto (-68), 3) := by decide +kernel
theorem dX0_lose_80 : decode cX0_lose 80 = .ok (.return_, 1) := by decide +kernel
theorem dX0_layerCount_0 : decode cX0_layerCount 0 = .ok (.iconst 0, 1) := by decide +kernel
theorem dX0_layerCount_1 : decode cX0_layerCount 1 = .ok (.istore_n 2, 1) := by decide +kernel
theorem dX0_layerCount_2 : decode cX0_layerCount 2 = .ok (.iconst 0, 1) := by decide +kernel
theorem dX0_layerCount_3 : decode cX0_layerCount 3 = .ok (.istore_n 3, 1) := by decide +kernel
theorem dX0_layerCount_4 : decode cX0_layerCount 4 = .ok (.iload_n 3, 1) := by decide +kernel
theorem dX0_layerCount_5 : decode cX0_layerCount 5 = .ok (.aload_n 0, 1) := by decide +kernel
theorem dX0_layerCount_6 : decode cX0_layerCount 6 = .ok (.getfield 21, 3) := by decide +kernel
theorem dX0_layerCount_9 : decode cX0_layerCount 9 = .ok (.if_icmp .gt 28, 3) := by decide +kernel
theorem dX0_layerCount_12 : decode cX0_layerCount 12 = .ok (.aload_n 0, 1) := by decide +kernel
theorem dX0_layerCount_13 : decode cX0_layerCount 13 = .ok (.getfield 9, 3) := by decide +kernel
theorem dX0_layerCount_16 : decode cX0_layerCount 16 = .ok (.iload_n 1, 1) := by decide +kernel
theorem dX0_layerCount_17 : decode cX0_layerCount 17 = .ok (.bipush 61, 2) := by decide +kernel
theorem dX0_layerCount_19 : decode cX0_layerCount 19 = .ok (.imul, 1) := by decide +kernel
theorem dX0_layerCount_20 : decode cX0_layerCount 20 = .ok (.iload_n 3, 1) := by decide +kernel
theorem dX0_layerCount_21 : decode cX0_layerCount 21 = .ok (.iadd, 1) := by decide +kernel
theorem dX0_layerCount_22 : decode cX0_layerCount 22 = .ok (.laload, 1) := by decide +kernel
theorem dX0_layerCount_23 : decode cX0_layerCount 23 = .ok (.lconst 0, 1) := by decide +kernel
theorem dX0_layerCount_24 : decode cX0_layerCount 24 = .ok (.lcmp, 1) := by decide +kernel
theorem dX0_layerCount_25 : decode cX0_layerCount 25 = .ok (.ifCond .le 6, 3) := by decide +kernel
theorem dX0_layerCount_28 : decode cX0_layerCount 28 = .ok (.iinc 2 1, 3) := by decide +kernel
theorem dX0_layerCount_31 : decode cX0_layerCount 31 = .ok (.iinc 3 1, 3) := by decide +kernel
theorem dX0_layerCount_34 : decode cX0_layerCount 34 = .ok (.goto (-30), 3) := by decide +kernel
theorem dX0_layerCount_37 : decode cX0_layerCount 37 = .ok (.iload_n 2, 1) := by decide +kernel
theorem dX0_layerCount_38 : decode cX0_layerCount 38 = .ok (.ireturn, 1) := by decide +kernel
theorem dX0_layerYear_0 : decode cX0_layerYear 0 = .ok (.iconst 0, 1) := by decide +kernel
theorem dX0_layerYear_1 : decode cX0_layerYear 1 = .ok (.istore_n 3, 1) := by decide +kernel
theorem dX0_layerYear_2 : decode cX0_layerYear 2 = .ok (.aload_n 0, 1) := by decide +kernel
theorem dX0_layerYear_3 : decode cX0_layerYear 3 = .ok (.getfield 21, 3) := by decide +kernel
theorem dX0_layerYear_6 : decode cX0_layerYear 6 = .ok (.istore 4, 2) := by decide +kernel
theorem dX0_layerYear_8 : decode cX0_layerYear 8 = .ok (.iload 4, 2) := by decide +kernel
theorem dX0_layerYear_10 : decode cX0_layerYear 10 = .ok (.ifCond .lt 37, 3) := by decide +kernel
theorem dX0_layerYear_13 : decode cX0_layerYear 13 = .ok (.aload_n 0, 1) := by decide +kernel
theorem dX0_layerYear_14 : decode cX0_layerYear 14 = .ok (.getfield 9, 3) := by decide +kernel
theorem dX0_layerYear_17 : decode cX0_layerYear 17 = .ok (.iload_n 1, 1) := by decide +kernel
theorem dX0_layerYear_18 : decode cX0_layerYear 18 = .ok (.bipush 61, 2) := by decide +kernel
theorem dX0_layerYear_20 : decode cX0_layerYear 20 = .ok (.imul, 1) := by decide +kernel
theorem dX0_layerYear_21 : decode cX0_layerYear 21 = .ok (.iload 4, 2) := by decide +kernel
theorem dX0_layerYear_23 : decode cX0_layerYear 23 = .ok (.iadd, 1) := by decide +kernel
theorem dX0_layerYear_24 : decode cX0_layerYear 24 = .ok (.laload, 1) := by decide +kernel
theorem dX0_layerYear_25 : decode cX0_layerYear 25 = .ok (.lconst 0, 1) := by decide +kernel
theorem dX0_layerYear_26 : decode cX0_layerYear 26 = .ok (.lcmp, 1) := by decide +kernel
theorem dX0_layerYear_27 : decode cX0_layerYear 27 = .ok (.ifCond .le 14, 3) := by decide +kernel
theorem dX0_layerYear_30 : decode cX0_layerYear 30 = .ok (.iload_n 3, 1) := by decide +kernel
theorem dX0_layerYear_31 : decode cX0_layerYear 31 = .ok (.iload_n 2, 1) := by decide +kernel
theorem dX0_layerYear_32 : decode cX0_layerYear 32 = .ok (.if_icmp .ne 6, 3) := by decide +kernel
theorem dX0_layerYear_35 : decode cX0_layerYear 35 = .ok (.iload 4, 2) := by decide +kernel
theorem dX0_layerYear_37 : decode cX0_layerYear 37 = .ok (.ireturn, 1) := by decide +kernel
theorem dX0_layerYear_38 : decode cX0_layerYear 38 = .ok (.iinc 3 1, 3) := by decide +kernel
theorem dX0_layerYear_41 : decode cX0_layerYear 41 = .ok (.iinc 4 (-1), 3) := by decide +kernel
theorem dX0_layerYear_44 : decode cX0_layerYear 44 = .ok (.goto (-36), 3) := by decide +kernel
theorem dX0_layerYear_47 : decode cX0_layerYear 47 = .ok (.bipush (-9), 2) := by decide +kernel
theorem dX0_layerYear_49 : decode cX0_layerYear 49 = .ok (.ireturn, 1) := by decide +kernel
theorem dX0_oldestYear_0 : decode cX0_oldestYear 0 = .ok (.iconst 0, 1) := by decide +kernel
theorem dX0_oldestYear_1 : decode cX0_oldestYear 1 = .ok (.istore_n 1, 1) := by decide +kernel
theorem dX0_oldestYear_2 : decode cX0_oldestYear 2 = .ok (.iload_n 1, 1) := by decide +kernel
theorem dX0_oldestYear_3 : decode cX0_oldestYear 3 = .ok (.aload_n 0, 1) := by decide +kernel
theorem dX0_oldestYear_4 : decode cX0_oldestYear 4 = .ok (.getfield 21, 3) := by decide +kernel
theorem dX0_oldestYear_7 : decode cX0_oldestYear 7 = .ok (.if_icmp .gt 24, 3) := by decide +kernel
theorem dX0_oldestYear_10 : decode cX0_oldestYear 10 = .ok (.aload_n 0, 1) := by decide +kernel
theorem dX0_oldestYear_11 : decode cX0_oldestYear 11 = .ok (.getfield 18, 3) := by decide +kernel
theorem dX0_oldestYear_14 : decode cX0_oldestYear 14 = .ok (.iconst 0, 1) := by decide +kernel
theorem dX0_oldestYear_15 : decode cX0_oldestYear 15 = .ok (.iload_n 1, 1) := by decide +kernel
theorem dX0_oldestYear_16 : decode cX0_oldestYear 16 = .ok (.iadd, 1) := by decide +kernel
theorem dX0_oldestYear_17 : decode cX0_oldestYear 17 = .ok (.laload, 1) := by decide +kernel
theorem dX0_oldestYear_18 : decode cX0_oldestYear 18 = .ok (.lconst 0, 1) := by decide +kernel
theorem dX0_oldestYear_19 : decode cX0_oldestYear 19 = .ok (.lcmp, 1) := by decide +kernel
theorem dX0_oldestYear_20 : decode cX0_oldestYear 20 = .ok (.ifCond .le 5, 3) := by decide +kernel
theorem dX0_oldestYear_23 : decode cX0_oldestYear 23 = .ok (.iload_n 1, 1) := by decide +kernel
theorem dX0_oldestYear_24 : decode cX0_oldestYear 24 = .ok (.ireturn, 1) := by decide +kernel
theorem dX0_oldestYear_25 : decode cX0_oldestYear 25 = .ok (.iinc 1 1, 3) := by decide +kernel
theorem dX0_oldestYear_28 : decode cX0_oldestYear 28 = .ok (.goto (-26), 3) := by decide +kernel
theorem dX0_oldestYear_31 : decode cX0_oldestYear 31 = .ok (.bipush (-9), 2) := by decide +kernel
theorem dX0_oldestYear_33 : decode cX0_oldestYear 33 = .ok (.ireturn, 1) := by decide +kernel
theorem dX0_tallyOfAll_0 : decode cX0_tallyOfAll 0 = .ok (.lconst 0, 1) := by decide +kernel
theorem dX0_tallyOfAll_1 : decode cX0_tallyOfAll 1 = .ok (.lstore_n 2, 1) := by decide +kernel
theorem dX0_tallyOfAll_2 : decode cX0_tallyOfAll 2 = .ok (.iconst 0, 1) := by decide +kernel
theorem dX0_tallyOfAll_3 : decode cX0_tallyOfAll 3 = .ok (.istore 4, 2) := by decide +kernel
theorem dX0_tallyOfAll_5 : decode cX0_tallyOfAll 5 = .ok (.iload 4, 2) := by decide +kernel
theorem dX0_tallyOfAll_7 : decode cX0_tallyOfAll 7 = .ok (.aload_n 0, 1) := by decide +kernel
theorem dX0_tallyOfAll_8 : decode cX0_tallyOfAll 8 = .ok (.getfield 21, 3) := by decide +kernel
theorem dX0_tallyOfAll_11 : decode cX0_tallyOfAll 11 = .ok (.if_icmp .gt 24, 3) := by decide +kernel
theorem dX0_tallyOfAll_14 : decode cX0_tallyOfAll 14 = .ok (.lload_n 2, 1) := by decide +kernel
theorem dX0_tallyOfAll_15 : decode cX0_tallyOfAll 15 = .ok (.aload_n 0, 1) := by decide +kernel
theorem dX0_tallyOfAll_16 : decode cX0_tallyOfAll 16 = .ok (.getfield 18, 3) := by decide +kernel
theorem dX0_tallyOfAll_19 : decode cX0_tallyOfAll 19 = .ok (.iload_n 1, 1) := by decide +kernel
theorem dX0_tallyOfAll_20 : decode cX0_tallyOfAll 20 = .ok (.bipush 61, 2) := by decide +kernel
theorem dX0_tallyOfAll_22 : decode cX0_tallyOfAll 22 = .ok (.imul, 1) := by decide +kernel
theorem dX0_tallyOfAll_23 : decode cX0_tallyOfAll 23 = .ok (.iload 4, 2) := by decide +kernel
theorem dX0_tallyOfAll_25 : decode cX0_tallyOfAll 25 = .ok (.iadd, 1) := by decide +kernel
theorem dX0_tallyOfAll_26 : decode cX0_tallyOfAll 26 = .ok (.laload, 1) := by decide +kernel
theorem dX0_tallyOfAll_27 : decode cX0_tallyOfAll 27 = .ok (.ladd, 1) := by decide +kernel
theorem dX0_tallyOfAll_28 : decode cX0_tallyOfAll 28 = .ok (.lstore_n 2, 1) := by decide +kernel
theorem dX0_tallyOfAll_29 : decode cX0_tallyOfAll 29 = .ok (.iinc 4 1, 3) := by decide +kernel
theorem dX0_tallyOfAll_32 : decode cX0_tallyOfAll 32 = .ok (.goto (-27), 3) := by decide +kernel
theorem dX0_tallyOfAll_35 : decode cX0_tallyOfAll 35 = .ok (.lload_n 2, 1) := by decide +kernel
theorem dX0_tallyOfAll_36 : decode cX0_tallyOfAll 36 = .ok (.lreturn, 1) := by decide +kernel
theorem dX1_init_0 : decode cX1_init 0 = .ok (.aload_n 0, 1) := by decide +kernel
theorem dX1_init_1 : decode cX1_init 1 = .ok (.invokespecial 3, 3) := by decide +kernel
theorem dX1_init_4 : decode cX1_init 4 = .ok (.aload_n 0, 1) := by decide +kernel
theorem dX1_init_5 : decode cX1_init 5 = .ok (.bipush 64, 2) := by decide +kernel
theorem dX1_init_7 : decode cX1_init 7 = .ok (.newarray .int, 2) := by decide +kernel
theorem dX1_init_9 : decode cX1_init 9 = .ok (.putfield 9, 3) := by decide +kernel
theorem dX1_init_12 : decode cX1_init 12 = .ok (.aload_n 0, 1) := by decide +kernel
theorem dX1_init_13 : decode cX1_init 13 = .ok (.bipush 64, 2) := by decide +kernel
theorem dX1_init_15 : decode cX1_init 15 = .ok (.newarray .int, 2) := by decide +kernel
theorem dX1_init_17 : decode cX1_init 17 = .ok (.putfield 15, 3) := by decide +kernel
theorem dX1_init_20 : decode cX1_init 20 = .ok (.aload_n 0, 1) := by decide +kernel
theorem dX1_init_21 : decode cX1_init 21 = .ok (.bipush 64, 2) := by decide +kernel
theorem dX1_init_23 : decode cX1_init 23 = .ok (.newarray .int, 2) := by decide +kernel
theorem dX1_init_25 : decode cX1_init 25 = .ok (.putfield 18, 3) := by decide +kernel
theorem dX1_init_28 : decode cX1_init 28 = .ok (.aload_n 0, 1) := by decide +kernel
theorem dX1_init_29 : decode cX1_init 29 = .ok (.bipush 64, 2) := by decide +kernel
theorem dX1_init_31 : decode cX1_init 31 = .ok (.newarray .int, 2) := by decide +kernel
theorem dX1_init_33 : decode cX1_init 33 = .ok (.putfield 21, 3) := by decide +kernel
theorem dX1_init_36 : decode cX1_init 36 = .ok (.return_, 1) := by decide +kernel
theorem dX1_lies_0 : decode cX1_lies 0 = .ok (.aload_n 0, 1) := by decide +kernel
theorem dX1_lies_1 : decode cX1_lies 1 = .ok (.getfield 24, 3) := by decide +kernel
theorem dX1_lies_4 : decode cX1_lies 4 = .ok (.ifCond .le 7, 3) := by decide +kernel
theorem dX1_lies_7 : decode cX1_lies 7 = .ok (.iconst 1, 1) := by decide +kernel
theorem dX1_lies_8 : decode cX1_lies 8 = .ok (.goto 4, 3) := by decide +kernel
theorem dX1_lies_11 : decode cX1_lies 11 = .ok (.iconst 0, 1) := by decide +kernel
theorem dX1_lies_12 : decode cX1_lies 12 = .ok (.ireturn, 1) := by decide +kernel
theorem dX1_placeAt_0 : decode cX1_placeAt 0 = .ok (.iload_n 1, 1) := by decide +kernel
theorem dX1_placeAt_1 : decode cX1_placeAt 1 = .ok (.ifCond .lt 32, 3) := by decide +kernel
theorem dX1_placeAt_4 : decode cX1_placeAt 4 = .ok (.iload_n 1, 1) := by decide +kernel
theorem dX1_placeAt_5 : decode cX1_placeAt 5 = .ok (.aload_n 0, 1) := by decide +kernel
theorem dX1_placeAt_6 : decode cX1_placeAt 6 = .ok (.getfield 24, 3) := by decide +kernel
theorem dX1_placeAt_9 : decode cX1_placeAt 9 = .ok (.if_icmp .ge 24, 3) := by decide +kernel
theorem dX1_placeAt_12 : decode cX1_placeAt 12 = .ok (.iload_n 2, 1) := by decide +kernel
theorem dX1_placeAt_13 : decode cX1_placeAt 13 = .ok (.ifCond .lt 20, 3) := by decide +kernel
theorem dX1_placeAt_16 : decode cX1_placeAt 16 = .ok (.iload_n 2, 1) := by decide +kernel
theorem dX1_placeAt_17 : decode cX1_placeAt 17 = .ok (.aload_n 0, 1) := by decide +kernel
theorem dX1_placeAt_18 : decode cX1_placeAt 18 = .ok (.getfield 28, 3) := by decide +kernel
theorem dX1_placeAt_21 : decode cX1_placeAt 21 = .ok (.if_icmp .ge 12, 3) := by decide +kernel
theorem dX1_placeAt_24 : decode cX1_placeAt 24 = .ok (.iload_n 2, 1) := by decide +kernel
theorem dX1_placeAt_25 : decode cX1_placeAt 25 = .ok (.bipush 8, 2) := by decide +kernel
theorem dX1_placeAt_27 : decode cX1_placeAt 27 = .ok (.imul, 1) := by decide +kernel
theorem dX1_placeAt_28 : decode cX1_placeAt 28 = .ok (.iload_n 1, 1) := by decide +kernel
theorem dX1_placeAt_29 : decode cX1_placeAt 29 = .ok (.iadd, 1) := by decide +kernel
theorem dX1_placeAt_30 : decode cX1_placeAt 30 = .ok (.goto 4, 3) := by decide +kernel
theorem dX1_placeAt_33 : decode cX1_placeAt 33 = .ok (.iconst (-1), 1) := by decide +kernel
theorem dX1_placeAt_34 : decode cX1_placeAt 34 = .ok (.ireturn, 1) := by decide +kernel
theorem dX1_neighbour_0 : decode cX1_neighbour 0 = .ok (.iload_n 1, 1) := by decide +kernel
theorem dX1_neighbour_1 : decode cX1_neighbour 1 = .ok (.bipush 8, 2) := by decide +kernel
theorem dX1_neighbour_3 : decode cX1_neighbour 3 = .ok (.irem, 1) := by decide +kernel
theorem dX1_neighbour_4 : decode cX1_neighbour 4 = .ok (.istore_n 3, 1) := by decide +kernel
theorem dX1_neighbour_5 : decode cX1_neighbour 5 = .ok (.iload_n 1, 1) := by decide +kernel
theorem dX1_neighbour_6 : decode cX1_neighbour 6 = .ok (.bipush 8, 2) := by decide +kernel
theorem dX1_neighbour_8 : decode cX1_neighbour 8 = .ok (.idiv, 1) := by decide +kernel
theorem dX1_neighbour_9 : decode cX1_neighbour 9 = .ok (.istore 4, 2) := by decide +kernel
theorem dX1_neighbour_11 : decode cX1_neighbour 11 = .ok (.iload_n 2, 1) := by decide +kernel
theorem dX1_neighbour_12 : decode cX1_neighbour 12 = .ok (.tableswitch 58 0 2 #[28, 38, 48], 28) := by decide +kernel
theorem dX1_neighbour_40 : decode cX1_neighbour 40 = .ok (.aload_n 0, 1) := by decide +kernel
theorem dX1_neighbour_41 : decode cX1_neighbour 41 = .ok (.iload_n 3, 1) := by decide +kernel
theorem dX1_neighbour_42 : decode cX1_neighbour 42 = .ok (.iload 4, 2) := by decide +kernel
theorem dX1_neighbour_44 : decode cX1_neighbour 44 = .ok (.iconst 1, 1) := by decide +kernel
theorem dX1_neighbour_45 : decode cX1_neighbour 45 = .ok (.isub, 1) := by decide +kernel
theorem dX1_neighbour_46 : decode cX1_neighbour 46 = .ok (.invokevirtual 31, 3) := by decide +kernel
theorem dX1_neighbour_49 : decode cX1_neighbour 49 = .ok (.ireturn, 1) := by decide +kernel
theorem dX1_neighbour_50 : decode cX1_neighbour 50 = .ok (.aload_n 0, 1) := by decide +kernel
theorem dX1_neighbour_51 : decode cX1_neighbour 51 = .ok (.iload_n 3, 1) := by decide +kernel
theorem dX1_neighbour_52 : decode cX1_neighbour 52 = .ok (.iconst 1, 1) := by decide +kernel
theorem dX1_neighbour_53 : decode cX1_neighbour 53 = .ok (.iadd, 1) := by decide +kernel
theorem dX1_neighbour_54 : decode cX1_neighbour 54 = .ok (.iload 4, 2) := by decide +kernel
theorem dX1_neighbour_56 : decode cX1_neighbour 56 = .ok (.invokevirtual 31, 3) := by decide +kernel
theorem dX1_neighbour_59 : decode cX1_neighbour 59 = .ok (.ireturn, 1) := by decide +kernel
theorem dX1_neighbour_60 : decode cX1_neighbour 60 = .ok (.aload_n 0, 1) := by decide +kernel
theorem dX1_neighbour_61 : decode cX1_neighbour 61 = .ok (.iload_n 3, 1) := by decide +kernel
theorem dX1_neighbour_62 : decode cX1_neighbour 62 = .ok (.iload 4, 2) := by decide +kernel
theorem dX1_neighbour_64 : decode cX1_neighbour 64 = .ok (.iconst 1, 1) := by decide +kernel
theorem dX1_neighbour_65 : decode cX1_neighbour 65 = .ok (.iadd, 1) := by decide +kernel
theorem dX1_neighbour_66 : decode cX1_neighbour 66 = .ok (.invokevirtual 31, 3) := by decide +kernel
theorem dX1_neighbour_69 : decode cX1_neighbour 69 = .ok (.ireturn, 1) := by decide +kernel
theorem dX1_neighbour_70 : decode cX1_neighbour 70 = .ok (.aload_n 0, 1) := by decide +kernel
theorem dX1_neighbour_71 : decode cX1_neighbour 71 = .ok (.iload_n 3, 1) := by decide +kernel
theorem dX1_neighbour_72 : decode cX1_neighbour 72 = .ok (.iconst 1, 1) := by decide +kernel
theorem dX1_neighbour_73 : decode cX1_neighbour 73 = .ok (.isub, 1) := by decide +kernel
theorem dX1_neighbour_74 : decode cX1_neighbour 74 = .ok (.iload 4, 2) := by decide +kernel
theorem dX1_neighbour_76 : decode cX1_neighbour 76 = .ok (.invokevirtual 31, 3) := by decide +kernel
theorem dX1_neighbour_79 : decode cX1_neighbour 79 = .ok (.ireturn, 1) := by decide +kernel
theorem dX1_cliffs_0 : decode cX1_cliffs 0 = .ok (.aload_n 0, 1) := by decide +kernel
theorem dX1_cliffs_1 : decode cX1_cliffs 1 = .ok (.getfield 24, 3) := by decide +kernel
theorem dX1_cliffs_4 : decode cX1_cliffs 4 = .ok (.aload_n 0, 1) := by decide +kernel
theorem dX1_cliffs_5 : decode cX1_cliffs 5 = .ok (.getfield 28, 3) := by decide +kernel
theorem dX1_cliffs_8 : decode cX1_cliffs 8 = .ok (.imul, 1) := by decide +kernel
theorem dX1_cliffs_9 : decode cX1_cliffs 9 = .ok (.aload_n 0, 1) := by decide +kernel
theorem dX1_cliffs_10 : decode cX1_cliffs 10 = .ok (.getfield 35, 3) := by decide +kernel
theorem dX1_cliffs_13 : decode cX1_cliffs 13 = .ok (.isub, 1) := by decide +kernel
theorem dX1_cliffs_14 : decode cX1_cliffs 14 = .ok (.ireturn, 1) := by decide +kernel
theorem dX1_band_0 : decode cX1_band 0 = .ok (.aload_n 0, 1) := by decide +kernel
theorem dX1_band_1 : decode cX1_band 1 = .ok (.getfield 9, 3) := by decide +kernel
theorem dX1_band_4 : decode cX1_band 4 = .ok (.iload_n 1, 1) := by decide +kernel
theorem dX1_band_5 : decode cX1_band 5 = .ok (.iaload, 1) := by decide +kernel
theorem dX1_band_6 : decode cX1_band 6 = .ok (.sipush 1000, 3) := by decide +kernel
theorem dX1_band_9 : decode cX1_band 9 = .ok (.idiv, 1) := by decide +kernel
theorem dX1_band_10 : decode cX1_band 10 = .ok (.ireturn, 1) := by decide +kernel
theorem dX1_meltLeft_0 : decode cX1_meltLeft 0 = .ok (.aload_n 0, 1) := by decide +kernel
theorem dX1_meltLeft_1 : decode cX1_meltLeft 1 = .ok (.getfield 15, 3) := by decide +kernel
theorem dX1_meltLeft_4 : decode cX1_meltLeft 4 = .ok (.iload_n 1, 1) := by decide +kernel
theorem dX1_meltLeft_5 : decode cX1_meltLeft 5 = .ok (.iaload, 1) := by decide +kernel
theorem dX1_meltLeft_6 : decode cX1_meltLeft 6 = .ok (.iconst 2, 1) := by decide +kernel
theorem dX1_meltLeft_7 : decode cX1_meltLeft 7 = .ok (.if_icmp .eq 13, 3) := by decide +kernel
theorem dX1_meltLeft_10 : decode cX1_meltLeft 10 = .ok (.aload_n 0, 1) := by decide +kernel
theorem dX1_meltLeft_11 : decode cX1_meltLeft 11 = .ok (.getfield 15, 3) := by decide +kernel
theorem dX1_meltLeft_14 : decode cX1_meltLeft 14 = .ok (.iload_n 1, 1) := by decide +kernel
theorem dX1_meltLeft_15 : decode cX1_meltLeft 15 = .ok (.iaload, 1) := by decide +kernel
theorem dX1_meltLeft_16 : decode cX1_meltLeft 16 = .ok (.iconst 3, 1) := by decide +kernel
theorem dX1_meltLeft_17 : decode cX1_meltLeft 17 = .ok (.if_icmp .ne 7, 3) := by decide +kernel
theorem dX1_meltLeft_20 : decode cX1_meltLeft 20 = .ok (.iconst 1, 1) := by decide +kernel
theorem dX1_meltLeft_21 : decode cX1_meltLeft 21 = .ok (.goto 4, 3) := by decide +kernel
theorem dX1_meltLeft_24 : decode cX1_meltLeft 24 = .ok (.iconst 0, 1) := by decide +kernel
theorem dX1_meltLeft_25 : decode cX1_meltLeft 25 = .ok (.istore 4, 2) := by decide +kernel
theorem dX1_meltLeft_27 : decode cX1_meltLeft 27 = .ok (.iload 4, 2) := by decide +kernel
theorem dX1_meltLeft_29 : decode cX1_meltLeft 29 = .ok (.ifCond .eq 21, 3) := by decide +kernel
theorem dX1_meltLeft_32 : decode cX1_meltLeft 32 = .ok (.lload_n 2, 1) := by decide +kernel
theorem dX1_meltLeft_33 : decode cX1_meltLeft 33 = .ok (.lload_n 2, 1) := by decide +kernel
theorem dX1_meltLeft_34 : decode cX1_meltLeft 34 = .ok (.aload_n 0, 1) := by decide +kernel
theorem dX1_meltLeft_35 : decode cX1_meltLeft 35 = .ok (.getfield 18, 3) := by decide +kernel
theorem dX1_meltLeft_38 : decode cX1_meltLeft 38 = .ok (.iload_n 1, 1) := by decide +kernel
theorem dX1_meltLeft_39 : decode cX1_meltLeft 39 = .ok (.iaload, 1) := by decide +kernel
theorem dX1_meltLeft_40 : decode cX1_meltLeft 40 = .ok (.i2l, 1) := by decide +kernel
theorem dX1_meltLeft_41 : decode cX1_meltLeft 41 = .ok (.lmul, 1) := by decide +kernel
theorem dX1_meltLeft_42 : decode cX1_meltLeft 42 = .ok (.ldc2_w 38, 3) := by decide +kernel
theorem dX1_meltLeft_45 : decode cX1_meltLeft 45 = .ok (.ldiv, 1) := by decide +kernel
theorem dX1_meltLeft_46 : decode cX1_meltLeft 46 = .ok (.lsub, 1) := by decide +kernel
theorem dX1_meltLeft_47 : decode cX1_meltLeft 47 = .ok (.goto 4, 3) := by decide +kernel
theorem dX1_meltLeft_50 : decode cX1_meltLeft 50 = .ok (.lload_n 2, 1) := by decide +kernel
theorem dX1_meltLeft_51 : decode cX1_meltLeft 51 = .ok (.lreturn, 1) := by decide +kernel
theorem dX1_begin_0 : decode cX1_begin 0 = .ok (.aload_n 0, 1) := by decide +kernel
theorem dX1_begin_1 : decode cX1_begin 1 = .ok (.iload_n 1, 1) := by decide +kernel
theorem dX1_begin_2 : decode cX1_begin 2 = .ok (.putfield 24, 3) := by decide +kernel
theorem dX1_begin_5 : decode cX1_begin 5 = .ok (.aload_n 0, 1) := by decide +kernel
theorem dX1_begin_6 : decode cX1_begin 6 = .ok (.iload_n 2, 1) := by decide +kernel
theorem dX1_begin_7 : decode cX1_begin 7 = .ok (.putfield 28, 3) := by decide +kernel
theorem dX1_begin_10 : decode cX1_begin 10 = .ok (.aload_n 0, 1) := by decide +kernel
theorem dX1_begin_11 : decode cX1_begin 11 = .ok (.iconst 0, 1) := by decide +kernel
theorem dX1_begin_12 : decode cX1_begin 12 = .ok (.putfield 35, 3) := by decide +kernel
theorem dX1_begin_15 : decode cX1_begin 15 = .ok (.return_, 1) := by decide +kernel
theorem dX1_settle_0 : decode cX1_settle 0 = .ok (.aload_n 0, 1) := by decide +kernel
theorem dX1_settle_1 : decode cX1_settle 1 = .ok (.iload_n 1, 1) := by decide +kernel
theorem dX1_settle_2 : decode cX1_settle 2 = .ok (.iload_n 2, 1) := by decide +kernel
theorem dX1_settle_3 : decode cX1_settle 3 = .ok (.invokevirtual 31, 3) := by decide +kernel
theorem dX1_settle_6 : decode cX1_settle 6 = .ok (.istore 5, 2) := by decide +kernel
theorem dX1_settle_8 : decode cX1_settle 8 = .ok (.iload 5, 2) := by decide +kernel
theorem dX1_settle_10 : decode cX1_settle 10 = .ok (.iconst (-1), 1) := by decide +kernel
theorem dX1_settle_11 : decode cX1_settle 11 = .ok (.if_icmp .ne 4, 3) := by decide +kernel
theorem dX1_settle_14 : decode cX1_settle 14 = .ok (.return_, 1) := by decide +kernel
theorem dX1_settle_15 : decode cX1_settle 15 = .ok (.lload_n 3, 1) := by decide +kernel
theorem dX1_settle_16 : decode cX1_settle 16 = .ok (.lconst 0, 1) := by decide +kernel
theorem dX1_settle_17 : decode cX1_settle 17 = .ok (.lcmp, 1) := by decide +kernel
theorem dX1_settle_18 : decode cX1_settle 18 = .ok (.ifCond .lt 15, 3) := by decide +kernel
theorem dX1_settle_21 : decode cX1_settle 21 = .ok (.lload_n 3, 1) := by decide +kernel
theorem dX1_settle_22 : decode cX1_settle 22 = .ok (.ldc2_w 40, 3) := by decide +kernel
theorem dX1_settle_25 : decode cX1_settle 25 = .ok (.lcmp, 1) := by decide +kernel
theorem dX1_settle_26 : decode cX1_settle 26 = .ok (.ifCond .gt 7, 3) := by decide +kernel
theorem dX1_settle_29 : decode cX1_settle 29 = .ok (.iconst 1, 1) := by decide +kernel
theorem dX1_settle_30 : decode cX1_settle 30 = .ok (.goto 4, 3) := by decide +kernel
theorem dX1_settle_33 : decode cX1_settle 33 = .ok (.iconst 0, 1) := by decide +kernel
theorem dX1_settle_34 : decode cX1_settle 34 = .ok (.istore 6, 2) := by decide +kernel
theorem dX1_settle_36 : decode cX1_settle 36 = .ok (.aload_n 0, 1) := by decide +kernel
theorem dX1_settle_37 : decode cX1_settle 37 = .ok (.getfield 9, 3) := by decide +kernel
theorem dX1_settle_40 : decode cX1_settle 40 = .ok (.iload 5, 2) := by decide +kernel
theorem dX1_settle_42 : decode cX1_settle 42 = .ok (.iload 6, 2) := by decide +kernel
theorem dX1_settle_44 : decode cX1_settle 44 = .ok (.ifCond .eq 8, 3) := by decide +kernel
theorem dX1_settle_47 : decode cX1_settle 47 = .ok (.lload_n 3, 1) := by decide +kernel
theorem dX1_settle_48 : decode cX1_settle 48 = .ok (.l2i, 1) := by decide +kernel
theorem dX1_settle_49 : decode cX1_settle 49 = .ok (.goto 4, 3) := by decide +kernel
theorem dX1_settle_52 : decode cX1_settle 52 = .ok (.iconst 0, 1) := by decide +kernel
theorem dX1_settle_53 : decode cX1_settle 53 = .ok (.iastore, 1) := by decide +kernel
theorem dX1_settle_54 : decode cX1_settle 54 = .ok (.aload_n 0, 1) := by decide +kernel
theorem dX1_settle_55 : decode cX1_settle 55 = .ok (.getfield 15, 3) := by decide +kernel
theorem dX1_settle_58 : decode cX1_settle 58 = .ok (.iload 5, 2) := by decide +kernel
theorem dX1_settle_60 : decode cX1_settle 60 = .ok (.iload 6, 2) := by decide +kernel
theorem dX1_settle_62 : decode cX1_settle 62 = .ok (.ifCond .eq 7, 3) := by decide +kernel
theorem dX1_settle_65 : decode cX1_settle 65 = .ok (.iconst 0, 1) := by decide +kernel
theorem dX1_settle_66 : decode cX1_settle 66 = .ok (.goto 4, 3) := by decide +kernel
theorem dX1_settle_69 : decode cX1_settle 69 = .ok (.iconst 4, 1) := by decide +kernel
theorem dX1_settle_70 : decode cX1_settle 70 = .ok (.iastore, 1) := by decide +kernel
theorem dX1_settle_71 : decode cX1_settle 71 = .ok (.aload_n 0, 1) := by decide +kernel
theorem dX1_settle_72 : decode cX1_settle 72 = .ok (.getfield 18, 3) := by decide +kernel
theorem dX1_settle_75 : decode cX1_settle 75 = .ok (.iload 5, 2) := by decide +kernel
theorem dX1_settle_77 : decode cX1_settle 77 = .ok (.iconst 0, 1) := by decide +kernel
theorem dX1_settle_78 : decode cX1_settle 78 = .ok (.iastore, 1) := by decide +kernel
theorem dX1_settle_79 : decode cX1_settle 79 = .ok (.aload_n 0, 1) := by decide +kernel
theorem dX1_settle_80 : decode cX1_settle 80 = .ok (.iload 5, 2) := by decide +kernel
theorem dX1_settle_82 : decode cX1_settle 82 = .ok (.invokevirtual 42, 3) := by decide +kernel
theorem dX1_settle_85 : decode cX1_settle 85 = .ok (.return_, 1) := by decide +kernel
theorem dX1_settleAs_0 : decode cX1_settleAs 0 = .ok (.aload_n 0, 1) := by decide +kernel
theorem dX1_settleAs_1 : decode cX1_settleAs 1 = .ok (.getfield 9, 3) := by decide +kernel
theorem dX1_settleAs_4 : decode cX1_settleAs 4 = .ok (.iload_n 1, 1) := by decide +kernel
theorem dX1_settleAs_5 : decode cX1_settleAs 5 = .ok (.aload_n 2, 1) := by decide +kernel
theorem dX1_settleAs_6 : decode cX1_settleAs 6 = .ok (.getfield 9, 3) := by decide +kernel
theorem dX1_settleAs_9 : decode cX1_settleAs 9 = .ok (.iload_n 3, 1) := by decide +kernel
theorem dX1_settleAs_10 : decode cX1_settleAs 10 = .ok (.iaload, 1) := by decide +kernel
theorem dX1_settleAs_11 : decode cX1_settleAs 11 = .ok (.iastore, 1) := by decide +kernel
theorem dX1_settleAs_12 : decode cX1_settleAs 12 = .ok (.aload_n 0, 1) := by decide +kernel
theorem dX1_settleAs_13 : decode cX1_settleAs 13 = .ok (.getfield 15, 3) := by decide +kernel
theorem dX1_settleAs_16 : decode cX1_settleAs 16 = .ok (.iload_n 1, 1) := by decide +kernel
theorem dX1_settleAs_17 : decode cX1_settleAs 17 = .ok (.aload_n 2, 1) := by decide +kernel
theorem dX1_settleAs_18 : decode cX1_settleAs 18 = .ok (.getfield 15, 3) := by decide +kernel
theorem dX1_settleAs_21 : decode cX1_settleAs 21 = .ok (.iload_n 3, 1) := by decide +kernel
theorem dX1_settleAs_22 : decode cX1_settleAs 22 = .ok (.iaload, 1) := by decide +kernel
theorem dX1_settleAs_23 : decode cX1_settleAs 23 = .ok (.iastore, 1) := by decide +kernel
theorem dX1_settleAs_24 : decode cX1_settleAs 24 = .ok (.aload_n 0, 1) := by decide +kernel
theorem dX1_settleAs_25 : decode cX1_settleAs 25 = .ok (.getfield 18, 3) := by decide +kernel
theorem dX1_settleAs_28 : decode cX1_settleAs 28 = .ok (.iload_n 1, 1) := by decide +kernel
theorem dX1_settleAs_29 : decode cX1_settleAs 29 = .ok (.aload_n 2, 1) := by decide +kernel
theorem dX1_settleAs_30 : decode cX1_settleAs 30 = .ok (.getfield 18, 3) := by decide +kernel
theorem dX1_settleAs_33 : decode cX1_settleAs 33 = .ok (.iload_n 3, 1) := by decide +kernel
theorem dX1_settleAs_34 : decode cX1_settleAs 34 = .ok (.iaload, 1) := by decide +kernel
theorem dX1_settleAs_35 : decode cX1_settleAs 35 = .ok (.iastore, 1) := by decide +kernel
theorem dX1_settleAs_36 : decode cX1_settleAs 36 = .ok (.aload_n 0, 1) := by decide +kernel
theorem dX1_settleAs_37 : decode cX1_settleAs 37 = .ok (.iload_n 1, 1) := by decide +kernel
theorem dX1_settleAs_38 : decode cX1_settleAs 38 = .ok (.invokevirtual 42, 3) := by decide +kernel
theorem dX1_settleAs_41 : decode cX1_settleAs 41 = .ok (.return_, 1) := by decide +kernel
theorem dX1_listIfOpen_0 : decode cX1_listIfOpen 0 = .ok (.aload_n 0, 1) := by decide +kernel
theorem dX1_listIfOpen_1 : decode cX1_listIfOpen 1 = .ok (.getfield 15, 3) := by decide +kernel
theorem dX1_listIfOpen_4 : decode cX1_listIfOpen 4 = .ok (.iload_n 1, 1) := by decide +kernel
theorem dX1_listIfOpen_5 : decode cX1_listIfOpen 5 = .ok (.iaload, 1) := by decide +kernel
theorem dX1_listIfOpen_6 : decode cX1_listIfOpen 6 = .ok (.iconst 4, 1) := by decide +kernel
theorem dX1_listIfOpen_7 : decode cX1_listIfOpen 7 = .ok (.if_icmp .eq 32, 3) := by decide +kernel
theorem dX1_listIfOpen_10 : decode cX1_listIfOpen 10 = .ok (.aload_n 0, 1) := by decide +kernel
theorem dX1_listIfOpen_11 : decode cX1_listIfOpen 11 = .ok (.getfield 35, 3) := by decide +kernel
theorem dX1_listIfOpen_14 : decode cX1_listIfOpen 14 = .ok (.bipush 64, 2) := by decide +kernel
theorem dX1_listIfOpen_16 : decode cX1_listIfOpen 16 = .ok (.if_icmp .ge 23, 3) := by decide +kernel
theorem dX1_listIfOpen_19 : decode cX1_listIfOpen 19 = .ok (.aload_n 0, 1) := by decide +kernel
theorem dX1_listIfOpen_20 : decode cX1_listIfOpen 20 = .ok (.getfield 21, 3) := by decide +kernel
theorem dX1_listIfOpen_23 : decode cX1_listIfOpen 23 = .ok (.aload_n 0, 1) := by decide +kernel
theorem dX1_listIfOpen_24 : decode cX1_listIfOpen 24 = .ok (.getfield 35, 3) := by decide +kernel
theorem dX1_listIfOpen_27 : decode cX1_listIfOpen 27 = .ok (.iload_n 1, 1) := by decide +kernel
theorem dX1_listIfOpen_28 : decode cX1_listIfOpen 28 = .ok (.iastore, 1) := by decide +kernel
theorem dX1_listIfOpen_29 : decode cX1_listIfOpen 29 = .ok (.aload_n 0, 1) := by decide +kernel
theorem dX1_listIfOpen_30 : decode cX1_listIfOpen 30 = .ok (.dup, 1) := by decide +kernel
theorem dX1_listIfOpen_31 : decode cX1_listIfOpen 31 = .ok (.getfield 35, 3) := by decide +kernel
theorem dX1_listIfOpen_34 : decode cX1_listIfOpen 34 = .ok (.iconst 1, 1) := by decide +kernel
theorem dX1_listIfOpen_35 : decode cX1_listIfOpen 35 = .ok (.iadd, 1) := by decide +kernel
theorem dX1_listIfOpen_36 : decode cX1_listIfOpen 36 = .ok (.putfield 35, 3) := by decide +kernel
theorem dX1_listIfOpen_39 : decode cX1_listIfOpen 39 = .ok (.return_, 1) := by decide +kernel
theorem dX1_becomeCellsOf_0 : decode cX1_becomeCellsOf 0 = .ok (.aload_n 0, 1) := by decide +kernel
theorem dX1_becomeCellsOf_1 : decode cX1_becomeCellsOf 1 = .ok (.aload_n 1, 1) := by decide +kernel
theorem dX1_becomeCellsOf_2 : decode cX1_becomeCellsOf 2 = .ok (.getfield 24, 3) := by decide +kernel
theorem dX1_becomeCellsOf_5 : decode cX1_becomeCellsOf 5 = .ok (.putfield 24, 3) := by decide +kernel
theorem dX1_becomeCellsOf_8 : decode cX1_becomeCellsOf 8 = .ok (.aload_n 0, 1) := by decide +kernel
theorem dX1_becomeCellsOf_9 : decode cX1_becomeCellsOf 9 = .ok (.aload_n 1, 1) := by decide +kernel
theorem dX1_becomeCellsOf_10 : decode cX1_becomeCellsOf 10 = .ok (.getfield 28, 3) := by decide +kernel
theorem dX1_becomeCellsOf_13 : decode cX1_becomeCellsOf 13 = .ok (.putfield 28, 3) := by decide +kernel
theorem dX1_becomeCellsOf_16 : decode cX1_becomeCellsOf 16 = .ok (.aload_n 1, 1) := by decide +kernel
theorem dX1_becomeCellsOf_17 : decode cX1_becomeCellsOf 17 = .ok (.getfield 9, 3) := by decide +kernel
theorem dX1_becomeCellsOf_20 : decode cX1_becomeCellsOf 20 = .ok (.iconst 0, 1) := by decide +kernel
theorem dX1_becomeCellsOf_21 : decode cX1_becomeCellsOf 21 = .ok (.aload_n 0, 1) := by decide +kernel
theorem dX1_becomeCellsOf_22 : decode cX1_becomeCellsOf 22 = .ok (.getfield 9, 3) := by decide +kernel
theorem dX1_becomeCellsOf_25 : decode cX1_becomeCellsOf 25 = .ok (.iconst 0, 1) := by decide +kernel
theorem dX1_becomeCellsOf_26 : decode cX1_becomeCellsOf 26 = .ok (.bipush 64, 2) := by decide +kernel
theorem dX1_becomeCellsOf_28 : decode cX1_becomeCellsOf 28 = .ok (.invokestatic 46, 3) := by decide +kernel
theorem dX1_becomeCellsOf_31 : decode cX1_becomeCellsOf 31 = .ok (.aload_n 1, 1) := by decide +kernel
theorem dX1_becomeCellsOf_32 : decode cX1_becomeCellsOf 32 = .ok (.getfield 15, 3) := by decide +kernel
theorem dX1_becomeCellsOf_35 : decode cX1_becomeCellsOf 35 = .ok (.iconst 0, 1) := by decide +kernel
theorem dX1_becomeCellsOf_36 : decode cX1_becomeCellsOf 36 = .ok (.aload_n 0, 1) := by decide +kernel
theorem dX1_becomeCellsOf_37 : decode cX1_becomeCellsOf 37 = .ok (.getfield 15, 3) := by decide +kernel
theorem dX1_becomeCellsOf_40 : decode cX1_becomeCellsOf 40 = .ok (.iconst 0, 1) := by decide +kernel
theorem dX1_becomeCellsOf_41 : decode cX1_becomeCellsOf 41 = .ok (.bipush 64, 2) := by decide +kernel
theorem dX1_becomeCellsOf_43 : decode cX1_becomeCellsOf 43 = .ok (.invokestatic 46, 3) := by decide +kernel
theorem dX1_becomeCellsOf_46 : decode cX1_becomeCellsOf 46 = .ok (.aload_n 1, 1) := by decide +kernel
theorem dX1_becomeCellsOf_47 : decode cX1_becomeCellsOf 47 = .ok (.getfield 18, 3) := by decide +kernel
theorem dX1_becomeCellsOf_50 : decode cX1_becomeCellsOf 50 = .ok (.iconst 0, 1) := by decide +kernel
theorem dX1_becomeCellsOf_51 : decode cX1_becomeCellsOf 51 = .ok (.aload_n 0, 1) := by decide +kernel
theorem dX1_becomeCellsOf_52 : decode cX1_becomeCellsOf 52 = .ok (.getfield 18, 3) := by decide +kernel
theorem dX1_becomeCellsOf_55 : decode cX1_becomeCellsOf 55 = .ok (.iconst 0, 1) := by decide +kernel
theorem dX1_becomeCellsOf_56 : decode cX1_becomeCellsOf 56 = .ok (.bipush 64, 2) := by decide +kernel
theorem dX1_becomeCellsOf_58 : decode cX1_becomeCellsOf 58 = .ok (.invokestatic 46, 3) := by decide +kernel
theorem dX1_becomeCellsOf_61 : decode cX1_becomeCellsOf 61 = .ok (.return_, 1) := by decide +kernel
theorem dX2_init_0 : decode cX2_init 0 = .ok (.aload_n 0, 1) := by decide +kernel
theorem dX2_init_1 : decode cX2_init 1 = .ok (.invokespecial 3, 3) := by decide +kernel
theorem dX2_init_4 : decode cX2_init 4 = .ok (.aload_n 0, 1) := by decide +kernel
theorem dX2_init_5 : decode cX2_init 5 = .ok (.iconst 5, 1) := by decide +kernel
theorem dX2_init_6 : decode cX2_init 6 = .ok (.anewarray 9, 3) := by decide +kernel
theorem dX2_init_9 : decode cX2_init 9 = .ok (.putfield 11, 3) := by decide +kernel
theorem dX2_init_12 : decode cX2_init 12 = .ok (.iconst 0, 1) := by decide +kernel
theorem dX2_init_13 : decode cX2_init 13 = .ok (.istore_n 1, 1) := by decide +kernel
theorem dX2_init_14 : decode cX2_init 14 = .ok (.iload_n 1, 1) := by decide +kernel
theorem dX2_init_15 : decode cX2_init 15 = .ok (.iconst 5, 1) := by decide +kernel
theorem dX2_init_16 : decode cX2_init 16 = .ok (.if_icmp .ge 22, 3) := by decide +kernel
theorem dX2_init_19 : decode cX2_init 19 = .ok (.aload_n 0, 1) := by decide +kernel
theorem dX2_init_20 : decode cX2_init 20 = .ok (.getfield 11, 3) := by decide +kernel
theorem dX2_init_23 : decode cX2_init 23 = .ok (.iload_n 1, 1) := by decide +kernel
theorem dX2_init_24 : decode cX2_init 24 = .ok (.new 9, 3) := by decide +kernel
theorem dX2_init_27 : decode cX2_init 27 = .ok (.dup, 1) := by decide +kernel
theorem dX2_init_28 : decode cX2_init 28 = .ok (.invokespecial 17, 3) := by decide +kernel
theorem dX2_init_31 : decode cX2_init 31 = .ok (.aastore, 1) := by decide +kernel
theorem dX2_init_32 : decode cX2_init 32 = .ok (.iinc 1 1, 3) := by decide +kernel
theorem dX2_init_35 : decode cX2_init 35 = .ok (.goto (-21), 3) := by decide +kernel
theorem dX2_init_38 : decode cX2_init 38 = .ok (.return_, 1) := by decide +kernel
theorem dX2_keep_0 : decode cX2_keep 0 = .ok (.aload_n 0, 1) := by decide +kernel
theorem dX2_keep_1 : decode cX2_keep 1 = .ok (.getfield 11, 3) := by decide +kernel
theorem dX2_keep_4 : decode cX2_keep 4 = .ok (.aload_n 0, 1) := by decide +kernel
theorem dX2_keep_5 : decode cX2_keep 5 = .ok (.getfield 18, 3) := by decide +kernel
theorem dX2_keep_8 : decode cX2_keep 8 = .ok (.aaload, 1) := by decide +kernel
theorem dX2_keep_9 : decode cX2_keep 9 = .ok (.aload_n 1, 1) := by decide +kernel
theorem dX2_keep_10 : decode cX2_keep 10 = .ok (.invokevirtual 22, 3) := by decide +kernel
theorem dX2_keep_13 : decode cX2_keep 13 = .ok (.aload_n 0, 1) := by decide +kernel
theorem dX2_keep_14 : decode cX2_keep 14 = .ok (.aload_n 0, 1) := by decide +kernel
theorem dX2_keep_15 : decode cX2_keep 15 = .ok (.getfield 18, 3) := by decide +kernel
theorem dX2_keep_18 : decode cX2_keep 18 = .ok (.iconst 1, 1) := by decide +kernel
theorem dX2_keep_19 : decode cX2_keep 19 = .ok (.iadd, 1) := by decide +kernel
theorem dX2_keep_20 : decode cX2_keep 20 = .ok (.iconst 5, 1) := by decide +kernel
theorem dX2_keep_21 : decode cX2_keep 21 = .ok (.irem, 1) := by decide +kernel
theorem dX2_keep_22 : decode cX2_keep 22 = .ok (.putfield 18, 3) := by decide +kernel
theorem dX2_keep_25 : decode cX2_keep 25 = .ok (.aload_n 0, 1) := by decide +kernel
theorem dX2_keep_26 : decode cX2_keep 26 = .ok (.getfield 26, 3) := by decide +kernel
theorem dX2_keep_29 : decode cX2_keep 29 = .ok (.iconst 5, 1) := by decide +kernel
theorem dX2_keep_30 : decode cX2_keep 30 = .ok (.if_icmp .ge 13, 3) := by decide +kernel
theorem dX2_keep_33 : decode cX2_keep 33 = .ok (.aload_n 0, 1) := by decide +kernel
theorem dX2_keep_34 : decode cX2_keep 34 = .ok (.dup, 1) := by decide +kernel
theorem dX2_keep_35 : decode cX2_keep 35 = .ok (.getfield 26, 3) := by decide +kernel
theorem dX2_keep_38 : decode cX2_keep 38 = .ok (.iconst 1, 1) := by decide +kernel
theorem dX2_keep_39 : decode cX2_keep 39 = .ok (.iadd, 1) := by decide +kernel
theorem dX2_keep_40 : decode cX2_keep 40 = .ok (.putfield 26, 3) := by decide +kernel
theorem dX2_keep_43 : decode cX2_keep 43 = .ok (.return_, 1) := by decide +kernel
theorem dX2_restore_0 : decode cX2_restore 0 = .ok (.aload_n 0, 1) := by decide +kernel
theorem dX2_restore_1 : decode cX2_restore 1 = .ok (.aload_n 0, 1) := by decide +kernel
theorem dX2_restore_2 : decode cX2_restore 2 = .ok (.getfield 18, 3) := by decide +kernel
theorem dX2_restore_5 : decode cX2_restore 5 = .ok (.iconst 5, 1) := by decide +kernel
theorem dX2_restore_6 : decode cX2_restore 6 = .ok (.iadd, 1) := by decide +kernel
theorem dX2_restore_7 : decode cX2_restore 7 = .ok (.iconst 1, 1) := by decide +kernel
theorem dX2_restore_8 : decode cX2_restore 8 = .ok (.isub, 1) := by decide +kernel
theorem dX2_restore_9 : decode cX2_restore 9 = .ok (.iconst 5, 1) := by decide +kernel
theorem dX2_restore_10 : decode cX2_restore 10 = .ok (.irem, 1) := by decide +kernel
theorem dX2_restore_11 : decode cX2_restore 11 = .ok (.putfield 18, 3) := by decide +kernel
theorem dX2_restore_14 : decode cX2_restore 14 = .ok (.aload_n 1, 1) := by decide +kernel
theorem dX2_restore_15 : decode cX2_restore 15 = .ok (.aload_n 0, 1) := by decide +kernel
theorem dX2_restore_16 : decode cX2_restore 16 = .ok (.getfield 11, 3) := by decide +kernel
theorem dX2_restore_19 : decode cX2_restore 19 = .ok (.aload_n 0, 1) := by decide +kernel
theorem dX2_restore_20 : decode cX2_restore 20 = .ok (.getfield 18, 3) := by decide +kernel
theorem dX2_restore_23 : decode cX2_restore 23 = .ok (.aaload, 1) := by decide +kernel
theorem dX2_restore_24 : decode cX2_restore 24 = .ok (.invokevirtual 22, 3) := by decide +kernel
theorem dX2_restore_27 : decode cX2_restore 27 = .ok (.aload_n 0, 1) := by decide +kernel
theorem dX2_restore_28 : decode cX2_restore 28 = .ok (.dup, 1) := by decide +kernel
theorem dX2_restore_29 : decode cX2_restore 29 = .ok (.getfield 26, 3) := by decide +kernel
theorem dX2_restore_32 : decode cX2_restore 32 = .ok (.iconst 1, 1) := by decide +kernel
theorem dX2_restore_33 : decode cX2_restore 33 = .ok (.isub, 1) := by decide +kernel
theorem dX2_restore_34 : decode cX2_restore 34 = .ok (.putfield 26, 3) := by decide +kernel
theorem dX2_restore_37 : decode cX2_restore 37 = .ok (.return_, 1) := by decide +kernel
theorem dX2_forget_0 : decode cX2_forget 0 = .ok (.aload_n 0, 1) := by decide +kernel
theorem dX2_forget_1 : decode cX2_forget 1 = .ok (.iconst 0, 1) := by decide +kernel
theorem dX2_forget_2 : decode cX2_forget 2 = .ok (.putfield 26, 3) := by decide +kernel
theorem dX2_forget_5 : decode cX2_forget 5 = .ok (.return_, 1) := by decide +kernel
theorem dX3_init_0 : decode cX3_init 0 = .ok (.aload_n 0, 1) := by decide +kernel
theorem dX3_init_1 : decode cX3_init 1 = .ok (.invokespecial 3, 3) := by decide +kernel
theorem dX3_init_4 : decode cX3_init 4 = .ok (.aload_n 0, 1) := by decide +kernel
theorem dX3_init_5 : decode cX3_init 5 = .ok (.bipush 8, 2) := by decide +kernel
theorem dX3_init_7 : decode cX3_init 7 = .ok (.newarray .long, 2) := by decide +kernel
theorem dX3_init_9 : decode cX3_init 9 = .ok (.putfield 9, 3) := by decide +kernel
theorem dX3_init_12 : decode cX3_init 12 = .ok (.aload_n 0, 1) := by decide +kernel
theorem dX3_init_13 : decode cX3_init 13 = .ok (.iconst 1, 1) := by decide +kernel
theorem dX3_init_14 : decode cX3_init 14 = .ok (.putfield 15, 3) := by decide +kernel
theorem dX3_init_17 : decode cX3_init 17 = .ok (.return_, 1) := by decide +kernel
theorem dX3_begin_0 : decode cX3_begin 0 = .ok (.aload_n 0, 1) := by decide +kernel
theorem dX3_begin_1 : decode cX3_begin 1 = .ok (.iconst 0, 1) := by decide +kernel
theorem dX3_begin_2 : decode cX3_begin 2 = .ok (.putfield 15, 3) := by decide +kernel
theorem dX3_begin_5 : decode cX3_begin 5 = .ok (.aload_n 0, 1) := by decide +kernel
theorem dX3_begin_6 : decode cX3_begin 6 = .ok (.iload_n 1, 1) := by decide +kernel
theorem dX3_begin_7 : decode cX3_begin 7 = .ok (.putfield 19, 3) := by decide +kernel
theorem dX3_begin_10 : decode cX3_begin 10 = .ok (.aload_n 0, 1) := by decide +kernel
theorem dX3_begin_11 : decode cX3_begin 11 = .ok (.iload_n 2, 1) := by decide +kernel
theorem dX3_begin_12 : decode cX3_begin 12 = .ok (.putfield 23, 3) := by decide +kernel
theorem dX3_begin_15 : decode cX3_begin 15 = .ok (.aload_n 0, 1) := by decide +kernel
theorem dX3_begin_16 : decode cX3_begin 16 = .ok (.getfield 9, 3) := by decide +kernel
theorem dX3_begin_19 : decode cX3_begin 19 = .ok (.lconst 0, 1) := by decide +kernel
theorem dX3_begin_20 : decode cX3_begin 20 = .ok (.invokestatic 26, 3) := by decide +kernel
theorem dX3_begin_23 : decode cX3_begin 23 = .ok (.return_, 1) := by decide +kernel
theorem dX3_end_0 : decode cX3_end 0 = .ok (.aload_n 0, 1) := by decide +kernel
theorem dX3_end_1 : decode cX3_end 1 = .ok (.iconst 1, 1) := by decide +kernel
theorem dX3_end_2 : decode cX3_end 2 = .ok (.putfield 15, 3) := by decide +kernel
theorem dX3_end_5 : decode cX3_end 5 = .ok (.return_, 1) := by decide +kernel
theorem dX3_has_0 : decode cX3_has 0 = .ok (.iload_n 1, 1) := by decide +kernel
theorem dX3_has_1 : decode cX3_has 1 = .ok (.ifCond .lt 15, 3) := by decide +kernel
theorem dX3_has_4 : decode cX3_has 4 = .ok (.iload_n 1, 1) := by decide +kernel
theorem dX3_has_5 : decode cX3_has 5 = .ok (.aload_n 0, 1) := by decide +kernel
theorem dX3_has_6 : decode cX3_has 6 = .ok (.getfield 23, 3) := by decide +kernel
theorem dX3_has_9 : decode cX3_has 9 = .ok (.if_icmp .ge 7, 3) := by decide +kernel
theorem dX3_has_12 : decode cX3_has 12 = .ok (.iconst 1, 1) := by decide +kernel
theorem dX3_has_13 : decode cX3_has 13 = .ok (.goto 4, 3) := by decide +kernel
theorem dX3_has_16 : decode cX3_has 16 = .ok (.iconst 0, 1) := by decide +kernel
theorem dX3_has_17 : decode cX3_has 17 = .ok (.ireturn, 1) := by decide +kernel
theorem dX3_hasAll_0 : decode cX3_hasAll 0 = .ok (.iload_n 1, 1) := by decide +kernel
theorem dX3_hasAll_1 : decode cX3_hasAll 1 = .ok (.ifCond .lt 17, 3) := by decide +kernel
theorem dX3_hasAll_4 : decode cX3_hasAll 4 = .ok (.iload_n 1, 1) := by decide +kernel
theorem dX3_hasAll_5 : decode cX3_hasAll 5 = .ok (.aload_n 0, 1) := by decide +kernel
theorem dX3_hasAll_6 : decode cX3_hasAll 6 = .ok (.getfield 23, 3) := by decide +kernel
theorem dX3_hasAll_9 : decode cX3_hasAll 9 = .ok (.iload_n 2, 1) := by decide +kernel
theorem dX3_hasAll_10 : decode cX3_hasAll 10 = .ok (.isub, 1) := by decide +kernel
theorem dX3_hasAll_11 : decode cX3_hasAll 11 = .ok (.if_icmp .gt 7, 3) := by decide +kernel
theorem dX3_hasAll_14 : decode cX3_hasAll 14 = .ok (.iconst 1, 1) := by decide +kernel
theorem dX3_hasAll_15 : decode cX3_hasAll 15 = .ok (.goto 4, 3) := by decide +kernel
theorem dX3_hasAll_18 : decode cX3_hasAll 18 = .ok (.iconst 0, 1) := by decide +kernel
theorem dX3_hasAll_19 : decode cX3_hasAll 19 = .ok (.ireturn, 1) := by decide +kernel
theorem dX3_store_0 : decode cX3_store 0 = .ok (.aload_n 0, 1) := by decide +kernel
theorem dX3_store_1 : decode cX3_store 1 = .ok (.getfield 19, 3) := by decide +kernel
theorem dX3_store_4 : decode cX3_store 4 = .ok (.ifCond .ne 16, 3) := by decide +kernel
theorem dX3_store_7 : decode cX3_store 7 = .ok (.aload_n 0, 1) := by decide +kernel
theorem dX3_store_8 : decode cX3_store 8 = .ok (.getfield 9, 3) := by decide +kernel
theorem dX3_store_11 : decode cX3_store 11 = .ok (.iload_n 1, 1) := by decide +kernel
theorem dX3_store_12 : decode cX3_store 12 = .ok (.lload_n 2, 1) := by decide +kernel
theorem dX3_store_13 : decode cX3_store 13 = .ok (.l2i, 1) := by decide +kernel
theorem dX3_store_14 : decode cX3_store 14 = .ok (.i2s, 1) := by decide +kernel
theorem dX3_store_15 : decode cX3_store 15 = .ok (.i2l, 1) := by decide +kernel
theorem dX3_store_16 : decode cX3_store 16 = .ok (.lastore, 1) := by decide +kernel
theorem dX3_store_17 : decode cX3_store 17 = .ok (.goto 30, 3) := by decide +kernel
theorem dX3_store_20 : decode cX3_store 20 = .ok (.aload_n 0, 1) := by decide +kernel
theorem dX3_store_21 : decode cX3_store 21 = .ok (.getfield 19, 3) := by decide +kernel
theorem dX3_store_24 : decode cX3_store 24 = .ok (.iconst 1, 1) := by decide +kernel
theorem dX3_store_25 : decode cX3_store 25 = .ok (.if_icmp .ne 15, 3) := by decide +kernel
theorem dX3_store_28 : decode cX3_store 28 = .ok (.aload_n 0, 1) := by decide +kernel
theorem dX3_store_29 : decode cX3_store 29 = .ok (.getfield 9, 3) := by decide +kernel
theorem dX3_store_32 : decode cX3_store 32 = .ok (.iload_n 1, 1) := by decide +kernel
theorem dX3_store_33 : decode cX3_store 33 = .ok (.lload_n 2, 1) := by decide +kernel
theorem dX3_store_34 : decode cX3_store 34 = .ok (.l2i, 1) := by decide +kernel
theorem dX3_store_35 : decode cX3_store 35 = .ok (.i2l, 1) := by decide +kernel
theorem dX3_store_36 : decode cX3_store 36 = .ok (.lastore, 1) := by decide +kernel
theorem dX3_store_37 : decode cX3_store 37 = .ok (.goto 10, 3) := by decide +kernel
theorem dX3_store_40 : decode cX3_store 40 = .ok (.aload_n 0, 1) := by decide +kernel
theorem dX3_store_41 : decode cX3_store 41 = .ok (.getfield 9, 3) := by decide +kernel
theorem dX3_store_44 : decode cX3_store 44 = .ok (.iload_n 1, 1) := by decide +kernel
theorem dX3_store_45 : decode cX3_store 45 = .ok (.lload_n 2, 1) := by decide +kernel
theorem dX3_store_46 : decode cX3_store 46 = .ok (.lastore, 1) := by decide +kernel
theorem dX3_store_47 : decode cX3_store 47 = .ok (.return_, 1) := by decide +kernel
theorem dX4_init_0 : decode cX4_init 0 = .ok (.aload_n 0, 1) := by decide +kernel
theorem dX4_init_1 : decode cX4_init 1 = .ok (.invokespecial 3, 3) := by decide +kernel
theorem dX4_init_4 : decode cX4_init 4 = .ok (.aload_n 0, 1) := by decide +kernel
theorem dX4_init_5 : decode cX4_init 5 = .ok (.bipush 10, 2) := by decide +kernel
theorem dX4_init_7 : decode cX4_init 7 = .ok (.newarray .int, 2) := by decide +kernel
theorem dX4_init_9 : decode cX4_init 9 = .ok (.putfield 9, 3) := by decide +kernel
theorem dX4_init_12 : decode cX4_init 12 = .ok (.aload_n 0, 1) := by decide +kernel
theorem dX4_init_13 : decode cX4_init 13 = .ok (.bipush 10, 2) := by decide +kernel
theorem dX4_init_15 : decode cX4_init 15 = .ok (.newarray .int, 2) := by decide +kernel
theorem dX4_init_17 : decode cX4_init 17 = .ok (.putfield 15, 3) := by decide +kernel
theorem dX4_init_20 : decode cX4_init 20 = .ok (.aload_n 0, 1) := by decide +kernel
theorem dX4_init_21 : decode cX4_init 21 = .ok (.sipush 1000, 3) := by decide +kernel
theorem dX4_init_24 : decode cX4_init 24 = .ok (.putfield 18, 3) := by decide +kernel
theorem dX4_init_27 : decode cX4_init 27 = .ok (.return_, 1) := by decide +kernel
theorem dX5_init_0 : decode cX5_init 0 = .ok (.aload_n 0, 1) := by decide +kernel
theorem dX5_init_1 : decode cX5_init 1 = .ok (.invokespecial 3, 3) := by decide +kernel
theorem dX5_init_4 : decode cX5_init 4 = .ok (.aload_n 0, 1) := by decide +kernel
theorem dX5_init_5 : decode cX5_init 5 = .ok (.bipush 8, 2) := by decide +kernel
theorem dX5_init_7 : decode cX5_init 7 = .ok (.anewarray 9, 3) := by decide +kernel
theorem dX5_init_10 : decode cX5_init 10 = .ok (.putfield 11, 3) := by decide +kernel
theorem dX5_init_13 : decode cX5_init 13 = .ok (.aload_n 0, 1) := by decide +kernel
theorem dX5_init_14 : decode cX5_init 14 = .ok (.new 15, 3) := by decide +kernel
theorem dX5_init_17 : decode cX5_init 17 = .ok (.dup, 1) := by decide +kernel
theorem dX5_init_18 : decode cX5_init 18 = .ok (.invokespecial 17, 3) := by decide +kernel
theorem dX5_init_21 : decode cX5_init 21 = .ok (.putfield 18, 3) := by decide +kernel
theorem dX5_init_24 : decode cX5_init 24 = .ok (.aload_n 0, 1) := by decide +kernel
theorem dX5_init_25 : decode cX5_init 25 = .ok (.new 22, 3) := by decide +kernel
theorem dX5_init_28 : decode cX5_init 28 = .ok (.dup, 1) := by decide +kernel
theorem dX5_init_29 : decode cX5_init 29 = .ok (.invokespecial 24, 3) := by decide +kernel
theorem dX5_init_32 : decode cX5_init 32 = .ok (.putfield 25, 3) := by decide +kernel
theorem dX5_init_35 : decode cX5_init 35 = .ok (.aload_n 0, 1) := by decide +kernel
theorem dX5_init_36 : decode cX5_init 36 = .ok (.new 29, 3) := by decide +kernel
theorem dX5_init_39 : decode cX5_init 39 = .ok (.dup, 1) := by decide +kernel
theorem dX5_init_40 : decode cX5_init 40 = .ok (.invokespecial 31, 3) := by decide +kernel
theorem dX5_init_43 : decode cX5_init 43 = .ok (.putfield 32, 3) := by decide +kernel
theorem dX5_init_46 : decode cX5_init 46 = .ok (.aload_n 0, 1) := by decide +kernel
theorem dX5_init_47 : decode cX5_init 47 = .ok (.new 36, 3) := by decide +kernel
theorem dX5_init_50 : decode cX5_init 50 = .ok (.dup, 1) := by decide +kernel
theorem dX5_init_51 : decode cX5_init 51 = .ok (.invokespecial 38, 3) := by decide +kernel
theorem dX5_init_54 : decode cX5_init 54 = .ok (.putfield 39, 3) := by decide +kernel
theorem dX5_init_57 : decode cX5_init 57 = .ok (.aload_n 0, 1) := by decide +kernel
theorem dX5_init_58 : decode cX5_init 58 = .ok (.new 22, 3) := by decide +kernel
theorem dX5_init_61 : decode cX5_init 61 = .ok (.dup, 1) := by decide +kernel
theorem dX5_init_62 : decode cX5_init 62 = .ok (.invokespecial 24, 3) := by decide +kernel
theorem dX5_init_65 : decode cX5_init 65 = .ok (.putfield 43, 3) := by decide +kernel
theorem dX5_init_68 : decode cX5_init 68 = .ok (.aload_n 0, 1) := by decide +kernel
theorem dX5_init_69 : decode cX5_init 69 = .ok (.new 29, 3) := by decide +kernel
theorem dX5_init_72 : decode cX5_init 72 = .ok (.dup, 1) := by decide +kernel
theorem dX5_init_73 : decode cX5_init 73 = .ok (.invokespecial 31, 3) := by decide +kernel
theorem dX5_init_76 : decode cX5_init 76 = .ok (.putfield 46, 3) := by decide +kernel
theorem dX5_init_79 : decode cX5_init 79 = .ok (.aload_n 0, 1) := by decide +kernel
theorem dX5_init_80 : decode cX5_init 80 = .ok (.sipush 256, 3) := by decide +kernel
theorem dX5_init_83 : decode cX5_init 83 = .ok (.newarray .long, 2) := by decide +kernel
theorem dX5_init_85 : decode cX5_init 85 = .ok (.putfield 49, 3) := by decide +kernel
theorem dX5_init_88 : decode cX5_init 88 = .ok (.aload_n 0, 1) := by decide +kernel
theorem dX5_init_89 : decode cX5_init 89 = .ok (.sipush 3904, 3) := by decide +kernel
theorem dX5_init_92 : decode cX5_init 92 = .ok (.newarray .long, 2) := by decide +kernel
theorem dX5_init_94 : decode cX5_init 94 = .ok (.putfield 53, 3) := by decide +kernel
theorem dX5_init_97 : decode cX5_init 97 = .ok (.iconst 0, 1) := by decide +kernel
theorem dX5_init_98 : decode cX5_init 98 = .ok (.istore_n 1, 1) := by decide +kernel
theorem dX5_init_99 : decode cX5_init 99 = .ok (.iload_n 1, 1) := by decide +kernel
theorem dX5_init_100 : decode cX5_init 100 = .ok (.bipush 8, 2) := by decide +kernel
theorem dX5_init_102 : decode cX5_init 102 = .ok (.if_icmp .ge 22, 3) := by decide +kernel
theorem dX5_init_105 : decode cX5_init 105 = .ok (.aload_n 0, 1) := by decide +kernel
theorem dX5_init_106 : decode cX5_init 106 = .ok (.getfield 11, 3) := by decide +kernel
theorem dX5_init_109 : decode cX5_init 109 = .ok (.iload_n 1, 1) := by decide +kernel
theorem dX5_init_110 : decode cX5_init 110 = .ok (.new 9, 3) := by decide +kernel
theorem dX5_init_113 : decode cX5_init 113 = .ok (.dup, 1) := by decide +kernel
theorem dX5_init_114 : decode cX5_init 114 = .ok (.invokespecial 56, 3) := by decide +kernel
theorem dX5_init_117 : decode cX5_init 117 = .ok (.aastore, 1) := by decide +kernel
theorem dX5_init_118 : decode cX5_init 118 = .ok (.iinc 1 1, 3) := by decide +kernel
theorem dX5_init_121 : decode cX5_init 121 = .ok (.goto (-22), 3) := by decide +kernel
theorem dX5_init_124 : decode cX5_init 124 = .ok (.return_, 1) := by decide +kernel
theorem dX5_strip_0 : decode cX5_strip 0 = .ok (.iload_n 1, 1) := by decide +kernel
theorem dX5_strip_1 : decode cX5_strip 1 = .ok (.invokestatic 57, 3) := by decide +kernel
theorem dX5_strip_4 : decode cX5_strip 4 = .ok (.ifCond .ne 5, 3) := by decide +kernel
theorem dX5_strip_7 : decode cX5_strip 7 = .ok (.iconst (-1), 1) := by decide +kernel
theorem dX5_strip_8 : decode cX5_strip 8 = .ok (.ireturn, 1) := by decide +kernel
theorem dX5_strip_9 : decode cX5_strip 9 = .ok (.iload_n 2, 1) := by decide +kernel
theorem dX5_strip_10 : decode cX5_strip 10 = .ok (.invokestatic 61, 3) := by decide +kernel
theorem dX5_strip_13 : decode cX5_strip 13 = .ok (.ifCond .eq 9, 3) := by decide +kernel
theorem dX5_strip_16 : decode cX5_strip 16 = .ok (.iload_n 3, 1) := by decide +kernel
theorem dX5_strip_17 : decode cX5_strip 17 = .ok (.bipush 8, 2) := by decide +kernel
theorem dX5_strip_19 : decode cX5_strip 19 = .ok (.if_icmp .le 6, 3) := by decide +kernel
theorem dX5_strip_22 : decode cX5_strip 22 = .ok (.bipush (-2), 2) := by decide +kernel
theorem dX5_strip_24 : decode cX5_strip 24 = .ok (.ireturn, 1) := by decide +kernel
theorem dX5_strip_25 : decode cX5_strip 25 = .ok (.iload_n 3, 1) := by decide +kernel
theorem dX5_strip_26 : decode cX5_strip 26 = .ok (.ifCond .ge 9, 3) := by decide +kernel
theorem dX5_strip_29 : decode cX5_strip 29 = .ok (.aload_n 0, 1) := by decide +kernel
theorem dX5_strip_30 : decode cX5_strip 30 = .ok (.iconst 4, 1) := by decide +kernel
theorem dX5_strip_31 : decode cX5_strip 31 = .ok (.invokevirtual 64, 3) := by decide +kernel
theorem dX5_strip_34 : decode cX5_strip 34 = .ok (.ireturn, 1) := by decide +kernel
theorem dX5_strip_35 : decode cX5_strip 35 = .ok (.aload_n 0, 1) := by decide +kernel
theorem dX5_strip_36 : decode cX5_strip 36 = .ok (.getfield 11, 3) := by decide +kernel
theorem dX5_strip_39 : decode cX5_strip 39 = .ok (.iload_n 1, 1) := by decide +kernel
theorem dX5_strip_40 : decode cX5_strip 40 = .ok (.aaload, 1) := by decide +kernel
theorem dX5_strip_41 : decode cX5_strip 41 = .ok (.iload_n 2, 1) := by decide +kernel
theorem dX5_strip_42 : decode cX5_strip 42 = .ok (.iload_n 3, 1) := by decide +kernel
theorem dX5_strip_43 : decode cX5_strip 43 = .ok (.invokevirtual 68, 3) := by decide +kernel
theorem dX5_strip_46 : decode cX5_strip 46 = .ok (.iload_n 3, 1) := by decide +kernel
theorem dX5_strip_47 : decode cX5_strip 47 = .ok (.ireturn, 1) := by decide +kernel
theorem dX5_tear_0 : decode cX5_tear 0 = .ok (.iload_n 1, 1) := by decide +kernel
theorem dX5_tear_1 : decode cX5_tear 1 = .ok (.invokestatic 57, 3) := by decide +kernel
theorem dX5_tear_4 : decode cX5_tear 4 = .ok (.ifCond .ne 5, 3) := by decide +kernel
theorem dX5_tear_7 : decode cX5_tear 7 = .ok (.iconst (-1), 1) := by decide +kernel
theorem dX5_tear_8 : decode cX5_tear 8 = .ok (.ireturn, 1) := by decide +kernel
theorem dX5_tear_9 : decode cX5_tear 9 = .ok (.aload_n 0, 1) := by decide +kernel
theorem dX5_tear_10 : decode cX5_tear 10 = .ok (.getfield 11, 3) := by decide +kernel
theorem dX5_tear_13 : decode cX5_tear 13 = .ok (.iload_n 1, 1) := by decide +kernel
theorem dX5_tear_14 : decode cX5_tear 14 = .ok (.aaload, 1) := by decide +kernel
theorem dX5_tear_15 : decode cX5_tear 15 = .ok (.getfield 72, 3) := by decide +kernel
theorem dX5_tear_18 : decode cX5_tear 18 = .ok (.istore_n 2, 1) := by decide +kernel
theorem dX5_tear_19 : decode cX5_tear 19 = .ok (.aload_n 0, 1) := by decide +kernel
theorem dX5_tear_20 : decode cX5_tear 20 = .ok (.getfield 11, 3) := by decide +kernel
theorem dX5_tear_23 : decode cX5_tear 23 = .ok (.iload_n 1, 1) := by decide +kernel
theorem dX5_tear_24 : decode cX5_tear 24 = .ok (.aaload, 1) := by decide +kernel
theorem dX5_tear_25 : decode cX5_tear 25 = .ok (.invokevirtual 76, 3) := by decide +kernel
theorem dX5_tear_28 : decode cX5_tear 28 = .ok (.iload_n 2, 1) := by decide +kernel
theorem dX5_tear_29 : decode cX5_tear 29 = .ok (.ifCond .eq 7, 3) := by decide +kernel
theorem dX5_tear_32 : decode cX5_tear 32 = .ok (.iconst 1, 1) := by decide +kernel
theorem dX5_tear_33 : decode cX5_tear 33 = .ok (.goto 4, 3) := by decide +kernel
theorem dX5_tear_36 : decode cX5_tear 36 = .ok (.iconst 0, 1) := by decide +kernel
theorem dX5_tear_37 : decode cX5_tear 37 = .ok (.ireturn, 1) := by decide +kernel
theorem dX5_put_0 : decode cX5_put 0 = .ok (.iload_n 1, 1) := by decide +kernel
theorem dX5_put_1 : decode cX5_put 1 = .ok (.invokestatic 57, 3) := by decide +kernel
theorem dX5_put_4 : decode cX5_put 4 = .ok (.ifCond .ne 5, 3) := by decide +kernel
theorem dX5_put_7 : decode cX5_put 7 = .ok (.iconst (-1), 1) := by decide +kernel
theorem dX5_put_8 : decode cX5_put 8 = .ok (.ireturn, 1) := by decide +kernel
theorem dX5_put_9 : decode cX5_put 9 = .ok (.aload_n 0, 1) := by decide +kernel
theorem dX5_put_10 : decode cX5_put 10 = .ok (.getfield 11, 3) := by decide +kernel
theorem dX5_put_13 : decode cX5_put 13 = .ok (.iload_n 1, 1) := by decide +kernel
theorem dX5_put_14 : decode cX5_put 14 = .ok (.aaload, 1) := by decide +kernel
theorem dX5_put_15 : decode cX5_put 15 = .ok (.astore 5, 2) := by decide +kernel
theorem dX5_put_17 : decode cX5_put 17 = .ok (.aload 5, 2) := by decide +kernel
theorem dX5_put_19 : decode cX5_put 19 = .ok (.getfield 72, 3) := by decide +kernel
theorem dX5_put_22 : decode cX5_put 22 = .ok (.ifCond .eq 9, 3) := by decide +kernel
theorem dX5_put_25 : decode cX5_put 25 = .ok (.aload_n 0, 1) := by decide +kernel
theorem dX5_put_26 : decode cX5_put 26 = .ok (.iconst 1, 1) := by decide +kernel
theorem dX5_put_27 : decode cX5_put 27 = .ok (.invokevirtual 64, 3) := by decide +kernel
theorem dX5_put_30 : decode cX5_put 30 = .ok (.ireturn, 1) := by decide +kernel
theorem dX5_put_31 : decode cX5_put 31 = .ok (.aload 5, 2) := by decide +kernel
theorem dX5_put_33 : decode cX5_put 33 = .ok (.iload_n 2, 1) := by decide +kernel
theorem dX5_put_34 : decode cX5_put 34 = .ok (.invokevirtual 79, 3) := by decide +kernel
theorem dX5_put_37 : decode cX5_put 37 = .ok (.ifCond .ne 9, 3) := by decide +kernel
theorem dX5_put_40 : decode cX5_put 40 = .ok (.aload_n 0, 1) := by decide +kernel
theorem dX5_put_41 : decode cX5_put 41 = .ok (.iconst 2, 1) := by decide +kernel
theorem dX5_put_42 : decode cX5_put 42 = .ok (.invokevirtual 64, 3) := by decide +kernel
theorem dX5_put_45 : decode cX5_put 45 = .ok (.ireturn, 1) := by decide +kernel
theorem dX5_put_46 : decode cX5_put 46 = .ok (.aload 5, 2) := by decide +kernel
theorem dX5_put_48 : decode cX5_put 48 = .ok (.iload_n 2, 1) := by decide +kernel
theorem dX5_put_49 : decode cX5_put 49 = .ok (.lload_n 3, 1) := by decide +kernel
theorem dX5_put_50 : decode cX5_put 50 = .ok (.invokevirtual 82, 3) := by decide +kernel
theorem dX5_put_53 : decode cX5_put 53 = .ok (.iconst 1, 1) := by decide +kernel
theorem dX5_put_54 : decode cX5_put 54 = .ok (.ireturn, 1) := by decide +kernel
theorem dX5_at_0 : decode cX5_at 0 = .ok (.iload_n 1, 1) := by decide +kernel
theorem dX5_at_1 : decode cX5_at 1 = .ok (.invokestatic 57, 3) := by decide +kernel
theorem dX5_at_4 : decode cX5_at 4 = .ok (.ifCond .ne 7, 3) := by decide +kernel
theorem dX5_at_7 : decode cX5_at 7 = .ok (.ldc2_w 86, 3) := by decide +kernel
theorem dX5_at_10 : decode cX5_at 10 = .ok (.lreturn, 1) := by decide +kernel
theorem dX5_at_11 : decode cX5_at 11 = .ok (.iload_n 2, 1) := by decide +kernel
theorem dX5_at_12 : decode cX5_at 12 = .ok (.invokestatic 61, 3) := by decide +kernel
theorem dX5_at_15 : decode cX5_at 15 = .ok (.ifCond .ne 7, 3) := by decide +kernel
theorem dX5_at_18 : decode cX5_at 18 = .ok (.ldc2_w 88, 3) := by decide +kernel
theorem dX5_at_21 : decode cX5_at 21 = .ok (.lreturn, 1) := by decide +kernel
theorem dX5_at_22 : decode cX5_at 22 = .ok (.aload_n 0, 1) := by decide +kernel
theorem dX5_at_23 : decode cX5_at 23 = .ok (.getfield 11, 3) := by decide +kernel
theorem dX5_at_26 : decode cX5_at 26 = .ok (.iload_n 1, 1) := by decide +kernel
theorem dX5_at_27 : decode cX5_at 27 = .ok (.aaload, 1) := by decide +kernel
theorem dX5_at_28 : decode cX5_at 28 = .ok (.astore 4, 2) := by decide +kernel
theorem dX5_at_30 : decode cX5_at 30 = .ok (.aload 4, 2) := by decide +kernel
theorem dX5_at_32 : decode cX5_at 32 = .ok (.getfield 72, 3) := by decide +kernel
theorem dX5_at_35 : decode cX5_at 35 = .ok (.ifCond .eq 10, 3) := by decide +kernel
theorem dX5_at_38 : decode cX5_at 38 = .ok (.aload_n 0, 1) := by decide +kernel
theorem dX5_at_39 : decode cX5_at 39 = .ok (.iconst 1, 1) := by decide +kernel
theorem dX5_at_40 : decode cX5_at 40 = .ok (.invokevirtual 64, 3) := by decide +kernel
theorem dX5_at_43 : decode cX5_at 43 = .ok (.i2l, 1) := by decide +kernel
theorem dX5_at_44 : decode cX5_at 44 = .ok (.lreturn, 1) := by decide +kernel
theorem dX5_at_45 : decode cX5_at 45 = .ok (.aload 4, 2) := by decide +kernel
theorem dX5_at_47 : decode cX5_at 47 = .ok (.getfield 90, 3) := by decide +kernel
theorem dX5_at_50 : decode cX5_at 50 = .ok (.iload_n 2, 1) := by decide +kernel
theorem dX5_at_51 : decode cX5_at 51 = .ok (.if_icmp .eq 10, 3) := by decide +kernel
theorem dX5_at_54 : decode cX5_at 54 = .ok (.aload_n 0, 1) := by decide +kernel
theorem dX5_at_55 : decode cX5_at 55 = .ok (.iconst 3, 1) := by decide +kernel
theorem dX5_at_56 : decode cX5_at 56 = .ok (.invokevirtual 64, 3) := by decide +kernel
theorem dX5_at_59 : decode cX5_at 59 = .ok (.i2l, 1) := by decide +kernel
theorem dX5_at_60 : decode cX5_at 60 = .ok (.lreturn, 1) := by decide +kernel
theorem dX5_at_61 : decode cX5_at 61 = .ok (.aload 4, 2) := by decide +kernel
theorem dX5_at_63 : decode cX5_at 63 = .ok (.iload_n 3, 1) := by decide +kernel
theorem dX5_at_64 : decode cX5_at 64 = .ok (.invokevirtual 79, 3) := by decide +kernel
theorem dX5_at_67 : decode cX5_at 67 = .ok (.ifCond .ne 10, 3) := by decide +kernel
theorem dX5_at_70 : decode cX5_at 70 = .ok (.aload_n 0, 1) := by decide +kernel
theorem dX5_at_71 : decode cX5_at 71 = .ok (.iconst 2, 1) := by decide +kernel
theorem dX5_at_72 : decode cX5_at 72 = .ok (.invokevirtual 64, 3) := by decide +kernel
theorem dX5_at_75 : decode cX5_at 75 = .ok (.i2l, 1) := by decide +kernel
theorem dX5_at_76 : decode cX5_at 76 = .ok (.lreturn, 1) := by decide +kernel
theorem dX5_at_77 : decode cX5_at 77 = .ok (.aload 4, 2) := by decide +kernel
theorem dX5_at_79 : decode cX5_at 79 = .ok (.getfield 94, 3) := by decide +kernel
theorem dX5_at_82 : decode cX5_at 82 = .ok (.iload_n 3, 1) := by decide +kernel
theorem dX5_at_83 : decode cX5_at 83 = .ok (.laload, 1) := by decide +kernel
theorem dX5_at_84 : decode cX5_at 84 = .ok (.lreturn, 1) := by decide +kernel
theorem dX5_copy_0 : decode cX5_copy 0 = .ok (.iload_n 1, 1) := by decide +kernel
theorem dX5_copy_1 : decode cX5_copy 1 = .ok (.invokestatic 57, 3) := by decide +kernel
theorem dX5_copy_4 : decode cX5_copy 4 = .ok (.ifCond .eq 10, 3) := by decide +kernel
theorem dX5_copy_7 : decode cX5_copy 7 = .ok (.iload_n 3, 1) := by decide +kernel
theorem dX5_copy_8 : decode cX5_copy 8 = .ok (.invokestatic 57, 3) := by decide +kernel
theorem dX5_copy_11 : decode cX5_copy 11 = .ok (.ifCond .ne 5, 3) := by decide +kernel
theorem dX5_copy_14 : decode cX5_copy 14 = .ok (.iconst (-1), 1) := by decide +kernel
theorem dX5_copy_15 : decode cX5_copy 15 = .ok (.ireturn, 1) := by decide +kernel
theorem dX5_copy_16 : decode cX5_copy 16 = .ok (.iload 5, 2) := by decide +kernel
theorem dX5_copy_18 : decode cX5_copy 18 = .ok (.ifCond .ge 9, 3) := by decide +kernel
theorem dX5_copy_21 : decode cX5_copy 21 = .ok (.aload_n 0, 1) := by decide +kernel
theorem dX5_copy_22 : decode cX5_copy 22 = .ok (.iconst 4, 1) := by decide +kernel
theorem dX5_copy_23 : decode cX5_copy 23 = .ok (.invokevirtual 64, 3) := by decide +kernel
theorem dX5_copy_26 : decode cX5_copy 26 = .ok (.ireturn, 1) := by decide +kernel
theorem dX5_copy_27 : decode cX5_copy 27 = .ok (.aload_n 0, 1) := by decide +kernel
theorem dX5_copy_28 : decode cX5_copy 28 = .ok (.getfield 11, 3) := by decide +kernel
theorem dX5_copy_31 : decode cX5_copy 31 = .ok (.iload_n 1, 1) := by decide +kernel
theorem dX5_copy_32 : decode cX5_copy 32 = .ok (.aaload, 1) := by decide +kernel
theorem dX5_copy_33 : decode cX5_copy 33 = .ok (.astore 6, 2) := by decide +kernel
theorem dX5_copy_35 : decode cX5_copy 35 = .ok (.aload_n 0, 1) := by decide +kernel
theorem dX5_copy_36 : decode cX5_copy 36 = .ok (.getfield 11, 3) := by decide +kernel
theorem dX5_copy_39 : decode cX5_copy 39 = .ok (.iload_n 3, 1) := by decide +kernel
theorem dX5_copy_40 : decode cX5_copy 40 = .ok (.aaload, 1) := by decide +kernel
theorem dX5_copy_41 : decode cX5_copy 41 = .ok (.astore 7, 2) := by decide +kernel
theorem dX5_copy_43 : decode cX5_copy 43 = .ok (.aload 6, 2) := by decide +kernel
theorem dX5_copy_45 : decode cX5_copy 45 = .ok (.getfield 72, 3) := by decide +kernel
theorem dX5_copy_48 : decode cX5_copy 48 = .ok (.ifCond .ne 11, 3) := by decide +kernel
theorem dX5_copy_51 : decode cX5_copy 51 = .ok (.aload 7, 2) := by decide +kernel
theorem dX5_copy_53 : decode cX5_copy 53 = .ok (.getfield 72, 3) := by decide +kernel
theorem dX5_copy_56 : decode cX5_copy 56 = .ok (.ifCond .eq 9, 3) := by decide +kernel
theorem dX5_copy_59 : decode cX5_copy 59 = .ok (.aload_n 0, 1) := by decide +kernel
theorem dX5_copy_60 : decode cX5_copy 60 = .ok (.iconst 1, 1) := by decide +kernel
theorem dX5_copy_61 : decode cX5_copy 61 = .ok (.invokevirtual 64, 3) := by decide +kernel
theorem dX5_copy_64 : decode cX5_copy 64 = .ok (.ireturn, 1) := by decide +kernel
theorem dX5_copy_65 : decode cX5_copy 65 = .ok (.aload 6, 2) := by decide +kernel
theorem dX5_copy_67 : decode cX5_copy 67 = .ok (.getfield 90, 3) := by decide +kernel
theorem dX5_copy_70 : decode cX5_copy 70 = .ok (.aload 7, 2) := by decide +kernel
theorem dX5_copy_72 : decode cX5_copy 72 = .ok (.getfield 90, 3) := by decide +kernel
theorem dX5_copy_75 : decode cX5_copy 75 = .ok (.if_icmp .eq 9, 3) := by decide +kernel
theorem dX5_copy_78 : decode cX5_copy 78 = .ok (.aload_n 0, 1) := by decide +kernel
theorem dX5_copy_79 : decode cX5_copy 79 = .ok (.iconst 3, 1) := by decide +kernel
theorem dX5_copy_80 : decode cX5_copy 80 = .ok (.invokevirtual 64, 3) := by decide +kernel
theorem dX5_copy_83 : decode cX5_copy 83 = .ok (.ireturn, 1) := by decide +kernel
theorem dX5_copy_84 : decode cX5_copy 84 = .ok (.aload 6, 2) := by decide +kernel
theorem dX5_copy_86 : decode cX5_copy 86 = .ok (.iload_n 2, 1) := by decide +kernel
theorem dX5_copy_87 : decode cX5_copy 87 = .ok (.iload 5, 2) := by decide +kernel
theorem dX5_copy_89 : decode cX5_copy 89 = .ok (.invokevirtual 97, 3) := by decide +kernel
theorem dX5_copy_92 : decode cX5_copy 92 = .ok (.ifCond .eq 15, 3) := by decide +kernel
theorem dX5_copy_95 : decode cX5_copy 95 = .ok (.aload 7, 2) := by decide +kernel
theorem dX5_copy_97 : decode cX5_copy 97 = .ok (.iload 4, 2) := by decide +kernel
theorem dX5_copy_99 : decode cX5_copy 99 = .ok (.iload 5, 2) := by decide +kernel
theorem dX5_copy_101 : decode cX5_copy 101 = .ok (.invokevirtual 97, 3) := by decide +kernel
theorem dX5_copy_104 : decode cX5_copy 104 = .ok (.ifCond .ne 9, 3) := by decide +kernel
theorem dX5_copy_107 : decode cX5_copy 107 = .ok (.aload_n 0, 1) := by decide +kernel
theorem dX5_copy_108 : decode cX5_copy 108 = .ok (.iconst 2, 1) := by decide +kernel
theorem dX5_copy_109 : decode cX5_copy 109 = .ok (.invokevirtual 64, 3) := by decide +kernel
theorem dX5_copy_112 : decode cX5_copy 112 = .ok (.ireturn, 1) := by decide +kernel
theorem dX5_copy_113 : decode cX5_copy 113 = .ok (.aload 6, 2) := by decide +kernel
theorem dX5_copy_115 : decode cX5_copy 115 = .ok (.getfield 94, 3) := by decide +kernel
theorem dX5_copy_118 : decode cX5_copy 118 = .ok (.iload_n 2, 1) := by decide +kernel
theorem dX5_copy_119 : decode cX5_copy 119 = .ok (.aload 7, 2) := by decide +kernel
theorem dX5_copy_121 : decode cX5_copy 121 = .ok (.getfield 94, 3) := by decide +kernel
theorem dX5_copy_124 : decode cX5_copy 124 = .ok (.iload 4, 2) := by decide +kernel
theorem dX5_copy_126 : decode cX5_copy 126 = .ok (.iload 5, 2) := by decide +kernel
theorem dX5_copy_128 : decode cX5_copy 128 = .ok (.invokestatic 101, 3) := by decide +kernel
theorem dX5_copy_131 : decode cX5_copy 131 = .ok (.iload 5, 2) := by decide +kernel
theorem dX5_copy_133 : decode cX5_copy 133 = .ok (.ireturn, 1) := by decide +kernel
theorem dX5_ground_0 : decode cX5_ground 0 = .ok (.iload_n 1, 1) := by decide +kernel
theorem dX5_ground_1 : decode cX5_ground 1 = .ok (.invokestatic 107, 3) := by decide +kernel
theorem dX5_ground_4 : decode cX5_ground 4 = .ok (.ifCond .eq 10, 3) := by decide +kernel
theorem dX5_ground_7 : decode cX5_ground 7 = .ok (.iload_n 2, 1) := by decide +kernel
theorem dX5_ground_8 : decode cX5_ground 8 = .ok (.invokestatic 107, 3) := by decide +kernel
theorem dX5_ground_11 : decode cX5_ground 11 = .ok (.ifCond .ne 6, 3) := by decide +kernel
theorem dX5_ground_14 : decode cX5_ground 14 = .ok (.bipush (-2), 2) := by decide +kernel
theorem dX5_ground_16 : decode cX5_ground 16 = .ok (.ireturn, 1) := by decide +kernel
theorem dX5_ground_17 : decode cX5_ground 17 = .ok (.aload_n 0, 1) := by decide +kernel
theorem dX5_ground_18 : decode cX5_ground 18 = .ok (.getfield 25, 3) := by decide +kernel
theorem dX5_ground_21 : decode cX5_ground 21 = .ok (.iload_n 1, 1) := by decide +kernel
theorem dX5_ground_22 : decode cX5_ground 22 = .ok (.iload_n 2, 1) := by decide +kernel
theorem dX5_ground_23 : decode cX5_ground 23 = .ok (.invokevirtual 110, 3) := by decide +kernel
theorem dX5_ground_26 : decode cX5_ground 26 = .ok (.iconst 0, 1) := by decide +kernel
theorem dX5_ground_27 : decode cX5_ground 27 = .ok (.istore_n 3, 1) := by decide +kernel
theorem dX5_ground_28 : decode cX5_ground 28 = .ok (.iload_n 3, 1) := by decide +kernel
theorem dX5_ground_29 : decode cX5_ground 29 = .ok (.iload_n 2, 1) := by decide +kernel
theorem dX5_ground_30 : decode cX5_ground 30 = .ok (.if_icmp .ge 41, 3) := by decide +kernel
theorem dX5_ground_33 : decode cX5_ground 33 = .ok (.iconst 0, 1) := by decide +kernel
theorem dX5_ground_34 : decode cX5_ground 34 = .ok (.istore 4, 2) := by decide +kernel
theorem dX5_ground_36 : decode cX5_ground 36 = .ok (.iload 4, 2) := by decide +kernel
theorem dX5_ground_38 : decode cX5_ground 38 = .ok (.iload_n 1, 1) := by decide +kernel
theorem dX5_ground_39 : decode cX5_ground 39 = .ok (.if_icmp .ge 26, 3) := by decide +kernel
theorem dX5_ground_42 : decode cX5_ground 42 = .ok (.aload_n 0, 1) := by decide +kernel
theorem dX5_ground_43 : decode cX5_ground 43 = .ok (.getfield 25, 3) := by decide +kernel
theorem dX5_ground_46 : decode cX5_ground 46 = .ok (.iload 4, 2) := by decide +kernel
theorem dX5_ground_48 : decode cX5_ground 48 = .ok (.iload_n 3, 1) := by decide +kernel
theorem dX5_ground_49 : decode cX5_ground 49 = .ok (.aload_n 0, 1) := by decide +kernel
theorem dX5_ground_50 : decode cX5_ground 50 = .ok (.iload 4, 2) := by decide +kernel
theorem dX5_ground_52 : decode cX5_ground 52 = .ok (.iload_n 3, 1) := by decide +kernel
theorem dX5_ground_53 : decode cX5_ground 53 = .ok (.invokevirtual 111, 3) := by decide +kernel
theorem dX5_ground_56 : decode cX5_ground 56 = .ok (.invokevirtual 115, 3) := by decide +kernel
theorem dX5_ground_59 : decode cX5_ground 59 = .ok (.iinc 4 1, 3) := by decide +kernel
theorem dX5_ground_62 : decode cX5_ground 62 = .ok (.goto (-26), 3) := by decide +kernel
theorem dX5_ground_65 : decode cX5_ground 65 = .ok (.iinc 3 1, 3) := by decide +kernel
theorem dX5_ground_68 : decode cX5_ground 68 = .ok (.goto (-40), 3) := by decide +kernel
theorem dX5_ground_71 : decode cX5_ground 71 = .ok (.aload_n 0, 1) := by decide +kernel
theorem dX5_ground_72 : decode cX5_ground 72 = .ok (.getfield 32, 3) := by decide +kernel
theorem dX5_ground_75 : decode cX5_ground 75 = .ok (.invokevirtual 119, 3) := by decide +kernel
theorem dX5_ground_78 : decode cX5_ground 78 = .ok (.aload_n 0, 1) := by decide +kernel
theorem dX5_ground_79 : decode cX5_ground 79 = .ok (.getfield 39, 3) := by decide +kernel
theorem dX5_ground_82 : decode cX5_ground 82 = .ok (.invokevirtual 122, 3) := by decide +kernel
theorem dX5_ground_85 : decode cX5_ground 85 = .ok (.aload_n 0, 1) := by decide +kernel
theorem dX5_ground_86 : decode cX5_ground 86 = .ok (.getfield 25, 3) := by decide +kernel
theorem dX5_ground_89 : decode cX5_ground 89 = .ok (.invokevirtual 125, 3) := by decide +kernel
theorem dX5_ground_92 : decode cX5_ground 92 = .ok (.ireturn, 1) := by decide +kernel
theorem dX5_kind_0 : decode cX5_kind 0 = .ok (.aload_n 0, 1) := by decide +kernel
theorem dX5_kind_1 : decode cX5_kind 1 = .ok (.getfield 25, 3) := by decide +kernel
theorem dX5_kind_4 : decode cX5_kind 4 = .ok (.iload_n 1, 1) := by decide +kernel
theorem dX5_kind_5 : decode cX5_kind 5 = .ok (.iload_n 2, 1) := by decide +kernel
theorem dX5_kind_6 : decode cX5_kind 6 = .ok (.invokevirtual 129, 3) := by decide +kernel
theorem dX5_kind_9 : decode cX5_kind 9 = .ok (.istore 5, 2) := by decide +kernel
theorem dX5_kind_11 : decode cX5_kind 11 = .ok (.iload 5, 2) := by decide +kernel
theorem dX5_kind_13 : decode cX5_kind 13 = .ok (.iconst (-1), 1) := by decide +kernel
theorem dX5_kind_14 : decode cX5_kind 14 = .ok (.if_icmp .ne 5, 3) := by decide +kernel
theorem dX5_kind_17 : decode cX5_kind 17 = .ok (.iconst (-1), 1) := by decide +kernel
theorem dX5_kind_18 : decode cX5_kind 18 = .ok (.ireturn, 1) := by decide +kernel
theorem dX5_kind_19 : decode cX5_kind 19 = .ok (.iload_n 3, 1) := by decide +kernel
theorem dX5_kind_20 : decode cX5_kind 20 = .ok (.ifCond .lt 8, 3) := by decide +kernel
theorem dX5_kind_23 : decode cX5_kind 23 = .ok (.iload_n 3, 1) := by decide +kernel
theorem dX5_kind_24 : decode cX5_kind 24 = .ok (.iconst 3, 1) := by decide +kernel
theorem dX5_kind_25 : decode cX5_kind 25 = .ok (.if_icmp .le 6, 3) := by decide +kernel
theorem dX5_kind_28 : decode cX5_kind 28 = .ok (.bipush (-2), 2) := by decide +kernel
theorem dX5_kind_30 : decode cX5_kind 30 = .ok (.ireturn, 1) := by decide +kernel
theorem dX5_kind_31 : decode cX5_kind 31 = .ok (.iload_n 3, 1) := by decide +kernel
theorem dX5_kind_32 : decode cX5_kind 32 = .ok (.ifCond .eq 14, 3) := by decide +kernel
theorem dX5_kind_35 : decode cX5_kind 35 = .ok (.iload 4, 2) := by decide +kernel
theorem dX5_kind_37 : decode cX5_kind 37 = .ok (.invokestatic 133, 3) := by decide +kernel
theorem dX5_kind_40 : decode cX5_kind 40 = .ok (.ifCond .ne 6, 3) := by decide +kernel
theorem dX5_kind_43 : decode cX5_kind 43 = .ok (.bipush (-2), 2) := by decide +kernel
theorem dX5_kind_45 : decode cX5_kind 45 = .ok (.ireturn, 1) := by decide +kernel
theorem dX5_kind_46 : decode cX5_kind 46 = .ok (.aload_n 0, 1) := by decide +kernel
theorem dX5_kind_47 : decode cX5_kind 47 = .ok (.getfield 25, 3) := by decide +kernel
theorem dX5_kind_50 : decode cX5_kind 50 = .ok (.getfield 136, 3) := by decide +kernel
theorem dX5_kind_53 : decode cX5_kind 53 = .ok (.iload 5, 2) := by decide +kernel
theorem dX5_kind_55 : decode cX5_kind 55 = .ok (.iaload, 1) := by decide +kernel
theorem dX5_kind_56 : decode cX5_kind 56 = .ok (.iconst 4, 1) := by decide +kernel
theorem dX5_kind_57 : decode cX5_kind 57 = .ok (.if_icmp .ne 6, 3) := by decide +kernel
theorem dX5_kind_60 : decode cX5_kind 60 = .ok (.bipush (-3), 2) := by decide +kernel
theorem dX5_kind_62 : decode cX5_kind 62 = .ok (.ireturn, 1) := by decide +kernel
theorem dX5_kind_63 : decode cX5_kind 63 = .ok (.aload_n 0, 1) := by decide +kernel
theorem dX5_kind_64 : decode cX5_kind 64 = .ok (.getfield 25, 3) := by decide +kernel
theorem dX5_kind_67 : decode cX5_kind 67 = .ok (.getfield 136, 3) := by decide +kernel
theorem dX5_kind_70 : decode cX5_kind 70 = .ok (.iload 5, 2) := by decide +kernel
theorem dX5_kind_72 : decode cX5_kind 72 = .ok (.iaload, 1) := by decide +kernel
theorem dX5_kind_73 : decode cX5_kind 73 = .ok (.istore 6, 2) := by decide +kernel
theorem dX5_kind_75 : decode cX5_kind 75 = .ok (.aload_n 0, 1) := by decide +kernel
theorem dX5_kind_76 : decode cX5_kind 76 = .ok (.getfield 25, 3) := by decide +kernel
theorem dX5_kind_79 : decode cX5_kind 79 = .ok (.getfield 136, 3) := by decide +kernel
theorem dX5_kind_82 : decode cX5_kind 82 = .ok (.iload 5, 2) := by decide +kernel
theorem dX5_kind_84 : decode cX5_kind 84 = .ok (.iload_n 3, 1) := by decide +kernel
theorem dX5_kind_85 : decode cX5_kind 85 = .ok (.iastore, 1) := by decide +kernel
theorem dX5_kind_86 : decode cX5_kind 86 = .ok (.aload_n 0, 1) := by decide +kernel
theorem dX5_kind_87 : decode cX5_kind 87 = .ok (.getfield 25, 3) := by decide +kernel
theorem dX5_kind_90 : decode cX5_kind 90 = .ok (.getfield 140, 3) := by decide +kernel
theorem dX5_kind_93 : decode cX5_kind 93 = .ok (.iload 5, 2) := by decide +kernel
theorem dX5_kind_95 : decode cX5_kind 95 = .ok (.iload_n 3, 1) := by decide +kernel
theorem dX5_kind_96 : decode cX5_kind 96 = .ok (.ifCond .ne 7, 3) := by decide +kernel
theorem dX5_kind_99 : decode cX5_kind 99 = .ok (.iconst 0, 1) := by decide +kernel
theorem dX5_kind_100 : decode cX5_kind 100 = .ok (.goto 5, 3) := by decide +kernel
theorem dX5_kind_103 : decode cX5_kind 103 = .ok (.iload 4, 2) := by decide +kernel
theorem dX5_kind_105 : decode cX5_kind 105 = .ok (.iastore, 1) := by decide +kernel
theorem dX5_kind_106 : decode cX5_kind 106 = .ok (.aload_n 0, 1) := by decide +kernel
theorem dX5_kind_107 : decode cX5_kind 107 = .ok (.getfield 39, 3) := by decide +kernel
theorem dX5_kind_110 : decode cX5_kind 110 = .ok (.invokevirtual 122, 3) := by decide +kernel
theorem dX5_kind_113 : decode cX5_kind 113 = .ok (.iload 6, 2) := by decide +kernel
theorem dX5_kind_115 : decode cX5_kind 115 = .ok (.ireturn, 1) := by decide +kernel
theorem dX5_taken_0 : decode cX5_taken 0 = .ok (.aload_n 0, 1) := by decide +kernel
theorem dX5_taken_1 : decode cX5_taken 1 = .ok (.getfield 25, 3) := by decide +kernel
theorem dX5_taken_4 : decode cX5_taken 4 = .ok (.iload_n 1, 1) := by decide +kernel
theorem dX5_taken_5 : decode cX5_taken 5 = .ok (.iload_n 2, 1) := by decide +kernel
theorem dX5_taken_6 : decode cX5_taken 6 = .ok (.invokevirtual 129, 3) := by decide +kernel
theorem dX5_taken_9 : decode cX5_taken 9 = .ok (.istore 5, 2) := by decide +kernel
theorem dX5_taken_11 : decode cX5_taken 11 = .ok (.iload 5, 2) := by decide +kernel
theorem dX5_taken_13 : decode cX5_taken 13 = .ok (.iconst (-1), 1) := by decide +kernel
theorem dX5_taken_14 : decode cX5_taken 14 = .ok (.if_icmp .ne 5, 3) := by decide +kernel
theorem dX5_taken_17 : decode cX5_taken 17 = .ok (.iconst (-1), 1) := by decide +kernel
theorem dX5_taken_18 : decode cX5_taken 18 = .ok (.ireturn, 1) := by decide +kernel
theorem dX5_taken_19 : decode cX5_taken 19 = .ok (.iload_n 3, 1) := by decide +kernel
theorem dX5_taken_20 : decode cX5_taken 20 = .ok (.ifCond .lt 19, 3) := by decide +kernel
theorem dX5_taken_23 : decode cX5_taken 23 = .ok (.iload_n 3, 1) := by decide +kernel
theorem dX5_taken_24 : decode cX5_taken 24 = .ok (.iconst 4, 1) := by decide +kernel
theorem dX5_taken_25 : decode cX5_taken 25 = .ok (.if_icmp .gt 14, 3) := by decide +kernel
theorem dX5_taken_28 : decode cX5_taken 28 = .ok (.iload 4, 2) := by decide +kernel
theorem dX5_taken_30 : decode cX5_taken 30 = .ok (.ifCond .lt 9, 3) := by decide +kernel
theorem dX5_taken_33 : decode cX5_taken 33 = .ok (.iload 4, 2) := by decide +kernel
theorem dX5_taken_35 : decode cX5_taken 35 = .ok (.iconst 1, 1) := by decide +kernel
theorem dX5_taken_36 : decode cX5_taken 36 = .ok (.if_icmp .le 6, 3) := by decide +kernel
theorem dX5_taken_39 : decode cX5_taken 39 = .ok (.bipush (-2), 2) := by decide +kernel
theorem dX5_taken_41 : decode cX5_taken 41 = .ok (.ireturn, 1) := by decide +kernel
theorem dX5_taken_42 : decode cX5_taken 42 = .ok (.aload_n 0, 1) := by decide +kernel
theorem dX5_taken_43 : decode cX5_taken 43 = .ok (.getfield 25, 3) := by decide +kernel
theorem dX5_taken_46 : decode cX5_taken 46 = .ok (.getfield 136, 3) := by decide +kernel
theorem dX5_taken_49 : decode cX5_taken 49 = .ok (.iload 5, 2) := by decide +kernel
theorem dX5_taken_51 : decode cX5_taken 51 = .ok (.iaload, 1) := by decide +kernel
theorem dX5_taken_52 : decode cX5_taken 52 = .ok (.iload_n 3, 1) := by decide +kernel
theorem dX5_taken_53 : decode cX5_taken 53 = .ok (.invokestatic 143, 3) := by decide +kernel
theorem dX5_taken_56 : decode cX5_taken 56 = .ok (.ifCond .ne 9, 3) := by decide +kernel
theorem dX5_taken_59 : decode cX5_taken 59 = .ok (.aload_n 0, 1) := by decide +kernel
theorem dX5_taken_60 : decode cX5_taken 60 = .ok (.iconst 3, 1) := by decide +kernel
theorem dX5_taken_61 : decode cX5_taken 61 = .ok (.invokevirtual 64, 3) := by decide +kernel
theorem dX5_taken_64 : decode cX5_taken 64 = .ok (.ireturn, 1) := by decide +kernel
theorem dX5_taken_65 : decode cX5_taken 65 = .ok (.iload 4, 2) := by decide +kernel
theorem dX5_taken_67 : decode cX5_taken 67 = .ok (.ifCond .ne 16, 3) := by decide +kernel
theorem dX5_taken_70 : decode cX5_taken 70 = .ok (.aload_n 0, 1) := by decide +kernel
theorem dX5_taken_71 : decode cX5_taken 71 = .ok (.getfield 25, 3) := by decide +kernel
theorem dX5_taken_74 : decode cX5_taken 74 = .ok (.getfield 136, 3) := by decide +kernel
theorem dX5_taken_77 : decode cX5_taken 77 = .ok (.iload 5, 2) := by decide +kernel
theorem dX5_taken_79 : decode cX5_taken 79 = .ok (.iaload, 1) := by decide +kernel
theorem dX5_taken_80 : decode cX5_taken 80 = .ok (.goto 13, 3) := by decide +kernel
theorem dX5_taken_83 : decode cX5_taken 83 = .ok (.aload_n 0, 1) := by decide +kernel
theorem dX5_taken_84 : decode cX5_taken 84 = .ok (.getfield 25, 3) := by decide +kernel
theorem dX5_taken_87 : decode cX5_taken 87 = .ok (.getfield 140, 3) := by decide +kernel
theorem dX5_taken_90 : decode cX5_taken 90 = .ok (.iload 5, 2) := by decide +kernel
theorem dX5_taken_92 : decode cX5_taken 92 = .ok (.iaload, 1) := by decide +kernel
theorem dX5_taken_93 : decode cX5_taken 93 = .ok (.ireturn, 1) := by decide +kernel
theorem dX5_tell_0 : decode cX5_tell 0 = .ok (.iload_n 2, 1) := by decide +kernel
theorem dX5_tell_1 : decode cX5_tell 1 = .ok (.ifCond .lt 19, 3) := by decide +kernel
theorem dX5_tell_4 : decode cX5_tell 4 = .ok (.iload_n 2, 1) := by decide +kernel
theorem dX5_tell_5 : decode cX5_tell 5 = .ok (.bipush 10, 2) := by decide +kernel
theorem dX5_tell_7 : decode cX5_tell 7 = .ok (.if_icmp .ge 13, 3) := by decide +kernel
theorem dX5_tell_10 : decode cX5_tell 10 = .ok (.iload_n 3, 1) := by decide +kernel
theorem dX5_tell_11 : decode cX5_tell 11 = .ok (.ifCond .lt 9, 3) := by decide +kernel
theorem dX5_tell_14 : decode cX5_tell 14 = .ok (.iload_n 3, 1) := by decide +kernel
theorem dX5_tell_15 : decode cX5_tell 15 = .ok (.ldc 146, 2) := by decide +kernel
theorem dX5_tell_17 : decode cX5_tell 17 = .ok (.if_icmp .le 6, 3) := by decide +kernel
theorem dX5_tell_20 : decode cX5_tell 20 = .ok (.bipush (-2), 2) := by decide +kernel
theorem dX5_tell_22 : decode cX5_tell 22 = .ok (.ireturn, 1) := by decide +kernel
theorem dX5_tell_23 : decode cX5_tell 23 = .ok (.iload_n 1, 1) := by decide +kernel
theorem dX5_tell_24 : decode cX5_tell 24 = .ok (.ifCond .eq 13, 3) := by decide +kernel
theorem dX5_tell_27 : decode cX5_tell 27 = .ok (.aload_n 0, 1) := by decide +kernel
theorem dX5_tell_28 : decode cX5_tell 28 = .ok (.getfield 18, 3) := by decide +kernel
theorem dX5_tell_31 : decode cX5_tell 31 = .ok (.getfield 147, 3) := by decide +kernel
theorem dX5_tell_34 : decode cX5_tell 34 = .ok (.goto 10, 3) := by decide +kernel
theorem dX5_tell_37 : decode cX5_tell 37 = .ok (.aload_n 0, 1) := by decide +kernel
theorem dX5_tell_38 : decode cX5_tell 38 = .ok (.getfield 18, 3) := by decide +kernel
theorem dX5_tell_41 : decode cX5_tell 41 = .ok (.getfield 150, 3) := by decide +kernel
theorem dX5_tell_44 : decode cX5_tell 44 = .ok (.astore 4, 2) := by decide +kernel
theorem dX5_tell_46 : decode cX5_tell 46 = .ok (.aload 4, 2) := by decide +kernel
theorem dX5_tell_48 : decode cX5_tell 48 = .ok (.iload_n 2, 1) := by decide +kernel
theorem dX5_tell_49 : decode cX5_tell 49 = .ok (.iaload, 1) := by decide +kernel
theorem dX5_tell_50 : decode cX5_tell 50 = .ok (.istore 5, 2) := by decide +kernel
theorem dX5_tell_52 : decode cX5_tell 52 = .ok (.aload 4, 2) := by decide +kernel
theorem dX5_tell_54 : decode cX5_tell 54 = .ok (.iload_n 2, 1) := by decide +kernel
theorem dX5_tell_55 : decode cX5_tell 55 = .ok (.iload_n 3, 1) := by decide +kernel
theorem dX5_tell_56 : decode cX5_tell 56 = .ok (.iastore, 1) := by decide +kernel
theorem dX5_tell_57 : decode cX5_tell 57 = .ok (.iload 5, 2) := by decide +kernel
theorem dX5_tell_59 : decode cX5_tell 59 = .ok (.ireturn, 1) := by decide +kernel
theorem dX5_rule_0 : decode cX5_rule 0 = .ok (.iload_n 1, 1) := by decide +kernel
theorem dX5_rule_1 : decode cX5_rule 1 = .ok (.invokestatic 133, 3) := by decide +kernel
theorem dX5_rule_4 : decode cX5_rule 4 = .ok (.ifCond .eq 14, 3) := by decide +kernel
theorem dX5_rule_7 : decode cX5_rule 7 = .ok (.iload_n 2, 1) := by decide +kernel
theorem dX5_rule_8 : decode cX5_rule 8 = .ok (.iconst 1, 1) := by decide +kernel
theorem dX5_rule_9 : decode cX5_rule 9 = .ok (.if_icmp .lt 9, 3) := by decide +kernel
theorem dX5_rule_12 : decode cX5_rule 12 = .ok (.iload_n 2, 1) := by decide +kernel
theorem dX5_rule_13 : decode cX5_rule 13 = .ok (.ldc 153, 2) := by decide +kernel
theorem dX5_rule_15 : decode cX5_rule 15 = .ok (.if_icmp .le 6, 3) := by decide +kernel
theorem dX5_rule_18 : decode cX5_rule 18 = .ok (.bipush (-2), 2) := by decide +kernel
theorem dX5_rule_20 : decode cX5_rule 20 = .ok (.ireturn, 1) := by decide +kernel
theorem dX5_rule_21 : decode cX5_rule 21 = .ok (.aload_n 0, 1) := by decide +kernel
theorem dX5_rule_22 : decode cX5_rule 22 = .ok (.getfield 18, 3) := by decide +kernel
theorem dX5_rule_25 : decode cX5_rule 25 = .ok (.getfield 154, 3) := by decide +kernel
theorem dX5_rule_28 : decode cX5_rule 28 = .ok (.istore_n 3, 1) := by decide +kernel
theorem dX5_rule_29 : decode cX5_rule 29 = .ok (.aload_n 0, 1) := by decide +kernel
theorem dX5_rule_30 : decode cX5_rule 30 = .ok (.getfield 18, 3) := by decide +kernel
theorem dX5_rule_33 : decode cX5_rule 33 = .ok (.iload_n 1, 1) := by decide +kernel
theorem dX5_rule_34 : decode cX5_rule 34 = .ok (.putfield 157, 3) := by decide +kernel
theorem dX5_rule_37 : decode cX5_rule 37 = .ok (.aload_n 0, 1) := by decide +kernel
theorem dX5_rule_38 : decode cX5_rule 38 = .ok (.getfield 18, 3) := by decide +kernel
theorem dX5_rule_41 : decode cX5_rule 41 = .ok (.iload_n 2, 1) := by decide +kernel
theorem dX5_rule_42 : decode cX5_rule 42 = .ok (.putfield 154, 3) := by decide +kernel
theorem dX5_rule_45 : decode cX5_rule 45 = .ok (.iload_n 3, 1) := by decide +kernel
theorem dX5_rule_46 : decode cX5_rule 46 = .ok (.ireturn, 1) := by decide +kernel
theorem dX5_ice_0 : decode cX5_ice 0 = .ok (.aload_n 0, 1) := by decide +kernel
theorem dX5_ice_1 : decode cX5_ice 1 = .ok (.getfield 25, 3) := by decide +kernel
theorem dX5_ice_4 : decode cX5_ice 4 = .ok (.iload_n 1, 1) := by decide +kernel
theorem dX5_ice_5 : decode cX5_ice 5 = .ok (.iload_n 2, 1) := by decide +kernel
theorem dX5_ice_6 : decode cX5_ice 6 = .ok (.invokevirtual 129, 3) := by decide +kernel
theorem dX5_ice_9 : decode cX5_ice 9 = .ok (.istore 4, 2) := by decide +kernel
theorem dX5_ice_11 : decode cX5_ice 11 = .ok (.iload 4, 2) := by decide +kernel
theorem dX5_ice_13 : decode cX5_ice 13 = .ok (.iconst (-1), 1) := by decide +kernel
theorem dX5_ice_14 : decode cX5_ice 14 = .ok (.if_icmp .ne 7, 3) := by decide +kernel
theorem dX5_ice_17 : decode cX5_ice 17 = .ok (.ldc2_w 86, 3) := by decide +kernel
theorem dX5_ice_20 : decode cX5_ice 20 = .ok (.lreturn, 1) := by decide +kernel
theorem dX5_ice_21 : decode cX5_ice 21 = .ok (.iload_n 3, 1) := by decide +kernel
theorem dX5_ice_22 : decode cX5_ice 22 = .ok (.ifCond .lt 9, 3) := by decide +kernel
theorem dX5_ice_25 : decode cX5_ice 25 = .ok (.iload_n 3, 1) := by decide +kernel
theorem dX5_ice_26 : decode cX5_ice 26 = .ok (.ldc 153, 2) := by decide +kernel
theorem dX5_ice_28 : decode cX5_ice 28 = .ok (.if_icmp .le 7, 3) := by decide +kernel
theorem dX5_ice_31 : decode cX5_ice 31 = .ok (.ldc2_w 88, 3) := by decide +kernel
theorem dX5_ice_34 : decode cX5_ice 34 = .ok (.lreturn, 1) := by decide +kernel
theorem dX5_ice_35 : decode cX5_ice 35 = .ok (.aload_n 0, 1) := by decide +kernel
theorem dX5_ice_36 : decode cX5_ice 36 = .ok (.getfield 25, 3) := by decide +kernel
theorem dX5_ice_39 : decode cX5_ice 39 = .ok (.getfield 136, 3) := by decide +kernel
theorem dX5_ice_42 : decode cX5_ice 42 = .ok (.iload 4, 2) := by decide +kernel
theorem dX5_ice_44 : decode cX5_ice 44 = .ok (.iaload, 1) := by decide +kernel
theorem dX5_ice_45 : decode cX5_ice 45 = .ok (.iconst 4, 1) := by decide +kernel
theorem dX5_ice_46 : decode cX5_ice 46 = .ok (.if_icmp .eq 13, 3) := by decide +kernel
theorem dX5_ice_49 : decode cX5_ice 49 = .ok (.aload_n 0, 1) := by decide +kernel
theorem dX5_ice_50 : decode cX5_ice 50 = .ok (.getfield 32, 3) := by decide +kernel
theorem dX5_ice_53 : decode cX5_ice 53 = .ok (.getfield 160, 3) := by decide +kernel
theorem dX5_ice_56 : decode cX5_ice 56 = .ok (.ifCond .eq 7, 3) := by decide +kernel
theorem dX5_ice_59 : decode cX5_ice 59 = .ok (.ldc2_w 163, 3) := by decide +kernel
theorem dX5_ice_62 : decode cX5_ice 62 = .ok (.lreturn, 1) := by decide +kernel
theorem dX5_ice_63 : decode cX5_ice 63 = .ok (.aload_n 0, 1) := by decide +kernel
theorem dX5_ice_64 : decode cX5_ice 64 = .ok (.getfield 32, 3) := by decide +kernel
theorem dX5_ice_67 : decode cX5_ice 67 = .ok (.iload 4, 2) := by decide +kernel
theorem dX5_ice_69 : decode cX5_ice 69 = .ok (.iconst 0, 1) := by decide +kernel
theorem dX5_ice_70 : decode cX5_ice 70 = .ok (.iload_n 3, 1) := by decide +kernel
theorem dX5_ice_71 : decode cX5_ice 71 = .ok (.i2l, 1) := by decide +kernel
theorem dX5_ice_72 : decode cX5_ice 72 = .ok (.invokevirtual 165, 3) := by decide +kernel
theorem dX5_ice_75 : decode cX5_ice 75 = .ok (.aload_n 0, 1) := by decide +kernel
theorem dX5_ice_76 : decode cX5_ice 76 = .ok (.getfield 32, 3) := by decide +kernel
theorem dX5_ice_79 : decode cX5_ice 79 = .ok (.getfield 168, 3) := by decide +kernel
theorem dX5_ice_82 : decode cX5_ice 82 = .ok (.iload 4, 2) := by decide +kernel
theorem dX5_ice_84 : decode cX5_ice 84 = .ok (.laload, 1) := by decide +kernel
theorem dX5_ice_85 : decode cX5_ice 85 = .ok (.lreturn, 1) := by decide +kernel
theorem dX5_years_0 : decode cX5_years 0 = .ok (.aload_n 0, 1) := by decide +kernel
theorem dX5_years_1 : decode cX5_years 1 = .ok (.iload_n 1, 1) := by decide +kernel
theorem dX5_years_2 : decode cX5_years 2 = .ok (.invokevirtual 171, 3) := by decide +kernel
theorem dX5_years_5 : decode cX5_years 5 = .ok (.istore_n 2, 1) := by decide +kernel
theorem dX5_years_6 : decode cX5_years 6 = .ok (.iload_n 2, 1) := by decide +kernel
theorem dX5_years_7 : decode cX5_years 7 = .ok (.ifCond .eq 5, 3) := by decide +kernel
theorem dX5_years_10 : decode cX5_years 10 = .ok (.iload_n 2, 1) := by decide +kernel
theorem dX5_years_11 : decode cX5_years 11 = .ok (.ireturn, 1) := by decide +kernel
theorem dX5_years_12 : decode cX5_years 12 = .ok (.iconst 0, 1) := by decide +kernel
theorem dX5_years_13 : decode cX5_years 13 = .ok (.istore_n 3, 1) := by decide +kernel
theorem dX5_years_14 : decode cX5_years 14 = .ok (.iload_n 3, 1) := by decide +kernel
theorem dX5_years_15 : decode cX5_years 15 = .ok (.iload_n 1, 1) := by decide +kernel
theorem dX5_years_16 : decode cX5_years 16 = .ok (.if_icmp .ge 13, 3) := by decide +kernel
theorem dX5_years_19 : decode cX5_years 19 = .ok (.aload_n 0, 1) := by decide +kernel
theorem dX5_years_20 : decode cX5_years 20 = .ok (.invokevirtual 174, 3) := by decide +kernel
theorem dX5_years_23 : decode cX5_years 23 = .ok (.iinc 3 1, 3) := by decide +kernel
theorem dX5_years_26 : decode cX5_years 26 = .ok (.goto (-12), 3) := by decide +kernel
theorem dX5_years_29 : decode cX5_years 29 = .ok (.aload_n 0, 1) := by decide +kernel
theorem dX5_years_30 : decode cX5_years 30 = .ok (.getfield 32, 3) := by decide +kernel
theorem dX5_years_33 : decode cX5_years 33 = .ok (.getfield 160, 3) := by decide +kernel
theorem dX5_years_36 : decode cX5_years 36 = .ok (.ireturn, 1) := by decide +kernel
theorem dX5_back_0 : decode cX5_back 0 = .ok (.aload_n 0, 1) := by decide +kernel
theorem dX5_back_1 : decode cX5_back 1 = .ok (.getfield 39, 3) := by decide +kernel
theorem dX5_back_4 : decode cX5_back 4 = .ok (.getfield 177, 3) := by decide +kernel
theorem dX5_back_7 : decode cX5_back 7 = .ok (.ifCond .ne 6, 3) := by decide +kernel
theorem dX5_back_10 : decode cX5_back 10 = .ok (.bipush (-3), 2) := by decide +kernel
theorem dX5_back_12 : decode cX5_back 12 = .ok (.ireturn, 1) := by decide +kernel
theorem dX5_back_13 : decode cX5_back 13 = .ok (.aload_n 0, 1) := by decide +kernel
theorem dX5_back_14 : decode cX5_back 14 = .ok (.getfield 39, 3) := by decide +kernel
theorem dX5_back_17 : decode cX5_back 17 = .ok (.aload_n 0, 1) := by decide +kernel
theorem dX5_back_18 : decode cX5_back 18 = .ok (.getfield 32, 3) := by decide +kernel
theorem dX5_back_21 : decode cX5_back 21 = .ok (.invokevirtual 180, 3) := by decide +kernel
theorem dX5_back_24 : decode cX5_back 24 = .ok (.aload_n 0, 1) := by decide +kernel
theorem dX5_back_25 : decode cX5_back 25 = .ok (.getfield 32, 3) := by decide +kernel
theorem dX5_back_28 : decode cX5_back 28 = .ok (.getfield 160, 3) := by decide +kernel
theorem dX5_back_31 : decode cX5_back 31 = .ok (.ireturn, 1) := by decide +kernel
theorem dX5_steady_0 : decode cX5_steady 0 = .ok (.aload_n 0, 1) := by decide +kernel
theorem dX5_steady_1 : decode cX5_steady 1 = .ok (.iload_n 1, 1) := by decide +kernel
theorem dX5_steady_2 : decode cX5_steady 2 = .ok (.invokevirtual 171, 3) := by decide +kernel
theorem dX5_steady_5 : decode cX5_steady 5 = .ok (.istore_n 2, 1) := by decide +kernel
theorem dX5_steady_6 : decode cX5_steady 6 = .ok (.iload_n 2, 1) := by decide +kernel
theorem dX5_steady_7 : decode cX5_steady 7 = .ok (.ifCond .eq 5, 3) := by decide +kernel
theorem dX5_steady_10 : decode cX5_steady 10 = .ok (.iload_n 2, 1) := by decide +kernel
theorem dX5_steady_11 : decode cX5_steady 11 = .ok (.ireturn, 1) := by decide +kernel
theorem dX5_steady_12 : decode cX5_steady 12 = .ok (.aload_n 0, 1) := by decide +kernel
theorem dX5_steady_13 : decode cX5_steady 13 = .ok (.iconst 0, 1) := by decide +kernel
theorem dX5_steady_14 : decode cX5_steady 14 = .ok (.invokevirtual 184, 3) := by decide +kernel
theorem dX5_steady_17 : decode cX5_steady 17 = .ok (.iconst 1, 1) := by decide +kernel
theorem dX5_steady_18 : decode cX5_steady 18 = .ok (.istore_n 3, 1) := by decide +kernel
theorem dX5_steady_19 : decode cX5_steady 19 = .ok (.iload_n 3, 1) := by decide +kernel
theorem dX5_steady_20 : decode cX5_steady 20 = .ok (.iload_n 1, 1) := by decide +kernel
theorem dX5_steady_21 : decode cX5_steady 21 = .ok (.if_icmp .gt 33, 3) := by decide +kernel
theorem dX5_steady_24 : decode cX5_steady 24 = .ok (.aload_n 0, 1) := by decide +kernel
theorem dX5_steady_25 : decode cX5_steady 25 = .ok (.invokevirtual 174, 3) := by decide +kernel
theorem dX5_steady_28 : decode cX5_steady 28 = .ok (.aload_n 0, 1) := by decide +kernel
theorem dX5_steady_29 : decode cX5_steady 29 = .ok (.iload_n 3, 1) := by decide +kernel
theorem dX5_steady_30 : decode cX5_steady 30 = .ok (.invokevirtual 188, 3) := by decide +kernel
theorem dX5_steady_33 : decode cX5_steady 33 = .ok (.istore 4, 2) := by decide +kernel
theorem dX5_steady_35 : decode cX5_steady 35 = .ok (.iload 4, 2) := by decide +kernel
theorem dX5_steady_37 : decode cX5_steady 37 = .ok (.ifCond .le 6, 3) := by decide +kernel
theorem dX5_steady_40 : decode cX5_steady 40 = .ok (.iload 4, 2) := by decide +kernel
theorem dX5_steady_42 : decode cX5_steady 42 = .ok (.ireturn, 1) := by decide +kernel
theorem dX5_steady_43 : decode cX5_steady 43 = .ok (.aload_n 0, 1) := by decide +kernel
theorem dX5_steady_44 : decode cX5_steady 44 = .ok (.iload_n 3, 1) := by decide +kernel
theorem dX5_steady_45 : decode cX5_steady 45 = .ok (.invokevirtual 184, 3) := by decide +kernel
theorem dX5_steady_48 : decode cX5_steady 48 = .ok (.iinc 3 1, 3) := by decide +kernel
theorem dX5_steady_51 : decode cX5_steady 51 = .ok (.goto (-32), 3) := by decide +kernel
theorem dX5_steady_54 : decode cX5_steady 54 = .ok (.iconst 0, 1) := by decide +kernel
theorem dX5_steady_55 : decode cX5_steady 55 = .ok (.ireturn, 1) := by decide +kernel
theorem dX5_cell_0 : decode cX5_cell 0 = .ok (.aload_n 0, 1) := by decide +kernel
theorem dX5_cell_1 : decode cX5_cell 1 = .ok (.getfield 25, 3) := by decide +kernel
theorem dX5_cell_4 : decode cX5_cell 4 = .ok (.iload_n 1, 1) := by decide +kernel
theorem dX5_cell_5 : decode cX5_cell 5 = .ok (.iload_n 2, 1) := by decide +kernel
theorem dX5_cell_6 : decode cX5_cell 6 = .ok (.invokevirtual 129, 3) := by decide +kernel
theorem dX5_cell_9 : decode cX5_cell 9 = .ok (.istore 4, 2) := by decide +kernel
theorem dX5_cell_11 : decode cX5_cell 11 = .ok (.iload 4, 2) := by decide +kernel
theorem dX5_cell_13 : decode cX5_cell 13 = .ok (.iconst (-1), 1) := by decide +kernel
theorem dX5_cell_14 : decode cX5_cell 14 = .ok (.if_icmp .ne 7, 3) := by decide +kernel
theorem dX5_cell_17 : decode cX5_cell 17 = .ok (.ldc2_w 86, 3) := by decide +kernel
theorem dX5_cell_20 : decode cX5_cell 20 = .ok (.lreturn, 1) := by decide +kernel
theorem dX5_cell_21 : decode cX5_cell 21 = .ok (.iload_n 3, 1) := by decide +kernel
theorem dX5_cell_22 : decode cX5_cell 22 = .ok (.ifCond .lt 9, 3) := by decide +kernel
theorem dX5_cell_25 : decode cX5_cell 25 = .ok (.iload_n 3, 1) := by decide +kernel
theorem dX5_cell_26 : decode cX5_cell 26 = .ok (.bipush 6, 2) := by decide +kernel
theorem dX5_cell_28 : decode cX5_cell 28 = .ok (.if_icmp .le 7, 3) := by decide +kernel
theorem dX5_cell_31 : decode cX5_cell 31 = .ok (.ldc2_w 88, 3) := by decide +kernel
theorem dX5_cell_34 : decode cX5_cell 34 = .ok (.lreturn, 1) := by decide +kernel
theorem dX5_cell_35 : decode cX5_cell 35 = .ok (.aload_n 0, 1) := by decide +kernel
theorem dX5_cell_36 : decode cX5_cell 36 = .ok (.getfield 25, 3) := by decide +kernel
theorem dX5_cell_39 : decode cX5_cell 39 = .ok (.getfield 136, 3) := by decide +kernel
theorem dX5_cell_42 : decode cX5_cell 42 = .ok (.iload 4, 2) := by decide +kernel
theorem dX5_cell_44 : decode cX5_cell 44 = .ok (.iaload, 1) := by decide +kernel
theorem dX5_cell_45 : decode cX5_cell 45 = .ok (.iconst 4, 1) := by decide +kernel
theorem dX5_cell_46 : decode cX5_cell 46 = .ok (.if_icmp .ne 7, 3) := by decide +kernel
theorem dX5_cell_49 : decode cX5_cell 49 = .ok (.ldc2_w 163, 3) := by decide +kernel
theorem dX5_cell_52 : decode cX5_cell 52 = .ok (.lreturn, 1) := by decide +kernel
theorem dX5_cell_53 : decode cX5_cell 53 = .ok (.iload_n 3, 1) := by decide +kernel
theorem dX5_cell_54 : decode cX5_cell 54 = .ok (.tableswitch 113 0 5 #[38, 50, 61, 68, 79, 91], 38) := by decide +kernel
theorem dX5_cell_92 : decode cX5_cell 92 = .ok (.aload_n 0, 1) := by decide +kernel
theorem dX5_cell_93 : decode cX5_cell 93 = .ok (.getfield 25, 3) := by decide +kernel
theorem dX5_cell_96 : decode cX5_cell 96 = .ok (.getfield 191, 3) := by decide +kernel
theorem dX5_cell_99 : decode cX5_cell 99 = .ok (.iload 4, 2) := by decide +kernel
theorem dX5_cell_101 : decode cX5_cell 101 = .ok (.iaload, 1) := by decide +kernel
theorem dX5_cell_102 : decode cX5_cell 102 = .ok (.i2l, 1) := by decide +kernel
theorem dX5_cell_103 : decode cX5_cell 103 = .ok (.lreturn, 1) := by decide +kernel
theorem dX5_cell_104 : decode cX5_cell 104 = .ok (.aload_n 0, 1) := by decide +kernel
theorem dX5_cell_105 : decode cX5_cell 105 = .ok (.getfield 32, 3) := by decide +kernel
theorem dX5_cell_108 : decode cX5_cell 108 = .ok (.getfield 168, 3) := by decide +kernel
theorem dX5_cell_111 : decode cX5_cell 111 = .ok (.iload 4, 2) := by decide +kernel
theorem dX5_cell_113 : decode cX5_cell 113 = .ok (.laload, 1) := by decide +kernel
theorem dX5_cell_114 : decode cX5_cell 114 = .ok (.lreturn, 1) := by decide +kernel
theorem dX5_cell_115 : decode cX5_cell 115 = .ok (.aload_n 0, 1) := by decide +kernel
theorem dX5_cell_116 : decode cX5_cell 116 = .ok (.iload 4, 2) := by decide +kernel
theorem dX5_cell_118 : decode cX5_cell 118 = .ok (.invokevirtual 194, 3) := by decide +kernel
theorem dX5_cell_121 : decode cX5_cell 121 = .ok (.lreturn, 1) := by decide +kernel
theorem dX5_cell_122 : decode cX5_cell 122 = .ok (.aload_n 0, 1) := by decide +kernel
theorem dX5_cell_123 : decode cX5_cell 123 = .ok (.getfield 32, 3) := by decide +kernel
theorem dX5_cell_126 : decode cX5_cell 126 = .ok (.iload 4, 2) := by decide +kernel
theorem dX5_cell_128 : decode cX5_cell 128 = .ok (.invokevirtual 198, 3) := by decide +kernel
theorem dX5_cell_131 : decode cX5_cell 131 = .ok (.i2l, 1) := by decide +kernel
theorem dX5_cell_132 : decode cX5_cell 132 = .ok (.lreturn, 1) := by decide +kernel
theorem dX5_cell_133 : decode cX5_cell 133 = .ok (.aload_n 0, 1) := by decide +kernel
theorem dX5_cell_134 : decode cX5_cell 134 = .ok (.getfield 32, 3) := by decide +kernel
theorem dX5_cell_137 : decode cX5_cell 137 = .ok (.iload 4, 2) := by decide +kernel
theorem dX5_cell_139 : decode cX5_cell 139 = .ok (.iconst 0, 1) := by decide +kernel
theorem dX5_cell_140 : decode cX5_cell 140 = .ok (.invokevirtual 201, 3) := by decide +kernel
theorem dX5_cell_143 : decode cX5_cell 143 = .ok (.i2l, 1) := by decide +kernel
theorem dX5_cell_144 : decode cX5_cell 144 = .ok (.lreturn, 1) := by decide +kernel
theorem dX5_cell_145 : decode cX5_cell 145 = .ok (.aload_n 0, 1) := by decide +kernel
