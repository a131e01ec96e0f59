theorem dX0_init_0 : decode cX0_init 0 = .ok (.aload_n 0, 1) := by decide +kernel
theorem dX0_init_1 : decode cX0_init 1 = .ok (.invokespecial 3, 3) := by decide +kernel
theorem dX0_init_4 : decode cX0_init 4 = .ok (.aload_n 0, 1) := by decide +kernel
theorem dX0_init_5 : decode cX0_init 5 = .ok (.bipush 8, 2) := by decide +kernel
theorem dX0_init_7 : decode cX0_init 7 = .ok (.anewarray 9, 3) := by decide +kernel
theorem dX0_init_10 : decode cX0_init 10 = .ok (.putfield 11, 3) := by decide +kernel
theorem dX0_init_13 : decode cX0_init 13 = .ok (.aload_n 0, 1) := by decide +kernel
theorem dX0_init_14 : decode cX0_init 14 = .ok (.iconst 0, 1) := by decide +kernel
theorem dX0_init_15 : decode cX0_init 15 = .ok (.putfield 17, 3) := by decide +kernel
theorem dX0_init_18 : decode cX0_init 18 = .ok (.iconst 0, 1) := by decide +kernel
theorem dX0_init_19 : decode cX0_init 19 = .ok (.istore_n 1, 1) := by decide +kernel
theorem dX0_init_20 : decode cX0_init 20 = .ok (.iload_n 1, 1) := by decide +kernel
theorem dX0_init_21 : decode cX0_init 21 = .ok (.aload_n 0, 1) := by decide +kernel
theorem dX0_init_22 : decode cX0_init 22 = .ok (.getfield 11, 3) := by decide +kernel
theorem dX0_init_25 : decode cX0_init 25 = .ok (.arraylength, 1) := by decide +kernel
theorem dX0_init_26 : decode cX0_init 26 = .ok (.if_icmp .ge 22, 3) := by decide +kernel
theorem dX0_init_29 : decode cX0_init 29 = .ok (.aload_n 0, 1) := by decide +kernel
theorem dX0_init_30 : decode cX0_init 30 = .ok (.getfield 11, 3) := by decide +kernel
theorem dX0_init_33 : decode cX0_init 33 = .ok (.iload_n 1, 1) := by decide +kernel
theorem dX0_init_34 : decode cX0_init 34 = .ok (.new 9, 3) := by decide +kernel
theorem dX0_init_37 : decode cX0_init 37 = .ok (.dup, 1) := by decide +kernel
theorem dX0_init_38 : decode cX0_init 38 = .ok (.invokespecial 21, 3) := by decide +kernel
theorem dX0_init_41 : decode cX0_init 41 = .ok (.aastore, 1) := by decide +kernel
theorem dX0_init_42 : decode cX0_init 42 = .ok (.iinc 1 1, 3) := by decide +kernel
theorem dX0_init_45 : decode cX0_init 45 = .ok (.goto (-25), 3) := by decide +kernel
theorem dX0_init_48 : decode cX0_init 48 = .ok (.return_, 1) := by decide +kernel
theorem dX0_keepState_0 : decode cX0_keepState 0 = .ok (.aload_n 0, 1) := by decide +kernel
theorem dX0_keepState_1 : decode cX0_keepState 1 = .ok (.getfield 17, 3) := by decide +kernel
theorem dX0_keepState_4 : decode cX0_keepState 4 = .ok (.aload_n 0, 1) := by decide +kernel
theorem dX0_keepState_5 : decode cX0_keepState 5 = .ok (.getfield 11, 3) := by decide +kernel
theorem dX0_keepState_8 : decode cX0_keepState 8 = .ok (.arraylength, 1) := by decide +kernel
theorem dX0_keepState_9 : decode cX0_keepState 9 = .ok (.if_icmp .lt 7, 3) := by decide +kernel
theorem dX0_keepState_12 : decode cX0_keepState 12 = .ok (.aload_n 0, 1) := by decide +kernel
theorem dX0_keepState_13 : decode cX0_keepState 13 = .ok (.invokevirtual 22, 3) := by decide +kernel
theorem dX0_keepState_16 : decode cX0_keepState 16 = .ok (.aload_n 0, 1) := by decide +kernel
theorem dX0_keepState_17 : decode cX0_keepState 17 = .ok (.aload_n 0, 1) := by decide +kernel
theorem dX0_keepState_18 : decode cX0_keepState 18 = .ok (.getfield 17, 3) := by decide +kernel
theorem dX0_keepState_21 : decode cX0_keepState 21 = .ok (.invokevirtual 25, 3) := by decide +kernel
theorem dX0_keepState_24 : decode cX0_keepState 24 = .ok (.astore_n 2, 1) := by decide +kernel
theorem dX0_keepState_25 : decode cX0_keepState 25 = .ok (.aload_n 2, 1) := by decide +kernel
theorem dX0_keepState_26 : decode cX0_keepState 26 = .ok (.ifnull 18, 3) := by decide +kernel
theorem dX0_keepState_29 : decode cX0_keepState 29 = .ok (.aload_n 2, 1) := by decide +kernel
theorem dX0_keepState_30 : decode cX0_keepState 30 = .ok (.aload_n 1, 1) := by decide +kernel
theorem dX0_keepState_31 : decode cX0_keepState 31 = .ok (.invokevirtual 29, 3) := by decide +kernel
theorem dX0_keepState_34 : decode cX0_keepState 34 = .ok (.aload_n 0, 1) := by decide +kernel
theorem dX0_keepState_35 : decode cX0_keepState 35 = .ok (.dup, 1) := by decide +kernel
theorem dX0_keepState_36 : decode cX0_keepState 36 = .ok (.getfield 17, 3) := by decide +kernel
theorem dX0_keepState_39 : decode cX0_keepState 39 = .ok (.iconst 1, 1) := by decide +kernel
theorem dX0_keepState_40 : decode cX0_keepState 40 = .ok (.iadd, 1) := by decide +kernel
theorem dX0_keepState_41 : decode cX0_keepState 41 = .ok (.putfield 17, 3) := by decide +kernel
theorem dX0_keepState_44 : decode cX0_keepState 44 = .ok (.return_, 1) := by decide +kernel
theorem dX0_dropOldest_0 : decode cX0_dropOldest 0 = .ok (.aload_n 0, 1) := by decide +kernel
theorem dX0_dropOldest_1 : decode cX0_dropOldest 1 = .ok (.iconst 0, 1) := by decide +kernel
theorem dX0_dropOldest_2 : decode cX0_dropOldest 2 = .ok (.invokevirtual 25, 3) := by decide +kernel
theorem dX0_dropOldest_5 : decode cX0_dropOldest 5 = .ok (.astore_n 1, 1) := by decide +kernel
theorem dX0_dropOldest_6 : decode cX0_dropOldest 6 = .ok (.iconst 1, 1) := by decide +kernel
theorem dX0_dropOldest_7 : decode cX0_dropOldest 7 = .ok (.istore_n 2, 1) := by decide +kernel
theorem dX0_dropOldest_8 : decode cX0_dropOldest 8 = .ok (.iload_n 2, 1) := by decide +kernel
theorem dX0_dropOldest_9 : decode cX0_dropOldest 9 = .ok (.aload_n 0, 1) := by decide +kernel
theorem dX0_dropOldest_10 : decode cX0_dropOldest 10 = .ok (.getfield 11, 3) := by decide +kernel
theorem dX0_dropOldest_13 : decode cX0_dropOldest 13 = .ok (.arraylength, 1) := by decide +kernel
theorem dX0_dropOldest_14 : decode cX0_dropOldest 14 = .ok (.if_icmp .ge 23, 3) := by decide +kernel
theorem dX0_dropOldest_17 : decode cX0_dropOldest 17 = .ok (.aload_n 0, 1) := by decide +kernel
theorem dX0_dropOldest_18 : decode cX0_dropOldest 18 = .ok (.getfield 11, 3) := by decide +kernel
theorem dX0_dropOldest_21 : decode cX0_dropOldest 21 = .ok (.iload_n 2, 1) := by decide +kernel
theorem dX0_dropOldest_22 : decode cX0_dropOldest 22 = .ok (.iconst 1, 1) := by decide +kernel
theorem dX0_dropOldest_23 : decode cX0_dropOldest 23 = .ok (.isub, 1) := by decide +kernel
theorem dX0_dropOldest_24 : decode cX0_dropOldest 24 = .ok (.aload_n 0, 1) := by decide +kernel
theorem dX0_dropOldest_25 : decode cX0_dropOldest 25 = .ok (.getfield 11, 3) := by decide +kernel
theorem dX0_dropOldest_28 : decode cX0_dropOldest 28 = .ok (.iload_n 2, 1) := by decide +kernel
theorem dX0_dropOldest_29 : decode cX0_dropOldest 29 = .ok (.aaload, 1) := by decide +kernel
theorem dX0_dropOldest_30 : decode cX0_dropOldest 30 = .ok (.aastore, 1) := by decide +kernel
theorem dX0_dropOldest_31 : decode cX0_dropOldest 31 = .ok (.iinc 2 1, 3) := by decide +kernel
theorem dX0_dropOldest_34 : decode cX0_dropOldest 34 = .ok (.goto (-26), 3) := by decide +kernel
theorem dX0_dropOldest_37 : decode cX0_dropOldest 37 = .ok (.aload_n 0, 1) := by decide +kernel
theorem dX0_dropOldest_38 : decode cX0_dropOldest 38 = .ok (.getfield 11, 3) := by decide +kernel
theorem dX0_dropOldest_41 : decode cX0_dropOldest 41 = .ok (.arraylength, 1) := by decide +kernel
theorem dX0_dropOldest_42 : decode cX0_dropOldest 42 = .ok (.ifCond .le 16, 3) := by decide +kernel
theorem dX0_dropOldest_45 : decode cX0_dropOldest 45 = .ok (.aload_n 0, 1) := by decide +kernel
theorem dX0_dropOldest_46 : decode cX0_dropOldest 46 = .ok (.getfield 11, 3) := by decide +kernel
theorem dX0_dropOldest_49 : decode cX0_dropOldest 49 = .ok (.aload_n 0, 1) := by decide +kernel
theorem dX0_dropOldest_50 : decode cX0_dropOldest 50 = .ok (.getfield 11, 3) := by decide +kernel
theorem dX0_dropOldest_53 : decode cX0_dropOldest 53 = .ok (.arraylength, 1) := by decide +kernel
theorem dX0_dropOldest_54 : decode cX0_dropOldest 54 = .ok (.iconst 1, 1) := by decide +kernel
theorem dX0_dropOldest_55 : decode cX0_dropOldest 55 = .ok (.isub, 1) := by decide +kernel
theorem dX0_dropOldest_56 : decode cX0_dropOldest 56 = .ok (.aload_n 1, 1) := by decide +kernel
theorem dX0_dropOldest_57 : decode cX0_dropOldest 57 = .ok (.aastore, 1) := by decide +kernel
theorem dX0_dropOldest_58 : decode cX0_dropOldest 58 = .ok (.aload_n 0, 1) := by decide +kernel
theorem dX0_dropOldest_59 : decode cX0_dropOldest 59 = .ok (.dup, 1) := by decide +kernel
theorem dX0_dropOldest_60 : decode cX0_dropOldest 60 = .ok (.getfield 17, 3) := by decide +kernel
theorem dX0_dropOldest_63 : decode cX0_dropOldest 63 = .ok (.iconst 1, 1) := by decide +kernel
theorem dX0_dropOldest_64 : decode cX0_dropOldest 64 = .ok (.isub, 1) := by decide +kernel
theorem dX0_dropOldest_65 : decode cX0_dropOldest 65 = .ok (.putfield 17, 3) := by decide +kernel
theorem dX0_dropOldest_68 : decode cX0_dropOldest 68 = .ok (.return_, 1) := by decide +kernel
theorem dX0_stateAt_0 : decode cX0_stateAt 0 = .ok (.iload_n 1, 1) := by decide +kernel
theorem dX0_stateAt_1 : decode cX0_stateAt 1 = .ok (.ifCond .lt 12, 3) := by decide +kernel
theorem dX0_stateAt_4 : decode cX0_stateAt 4 = .ok (.iload_n 1, 1) := by decide +kernel
theorem dX0_stateAt_5 : decode cX0_stateAt 5 = .ok (.aload_n 0, 1) := by decide +kernel
theorem dX0_stateAt_6 : decode cX0_stateAt 6 = .ok (.getfield 11, 3) := by decide +kernel
theorem dX0_stateAt_9 : decode cX0_stateAt 9 = .ok (.arraylength, 1) := by decide +kernel
theorem dX0_stateAt_10 : decode cX0_stateAt 10 = .ok (.if_icmp .lt 7, 3) := by decide +kernel
theorem dX0_stateAt_13 : decode cX0_stateAt 13 = .ok (.aconst_null, 1) := by decide +kernel
theorem dX0_stateAt_14 : decode cX0_stateAt 14 = .ok (.goto 9, 3) := by decide +kernel
theorem dX0_stateAt_17 : decode cX0_stateAt 17 = .ok (.aload_n 0, 1) := by decide +kernel
theorem dX0_stateAt_18 : decode cX0_stateAt 18 = .ok (.getfield 11, 3) := by decide +kernel
theorem dX0_stateAt_21 : decode cX0_stateAt 21 = .ok (.iload_n 1, 1) := by decide +kernel
theorem dX0_stateAt_22 : decode cX0_stateAt 22 = .ok (.aaload, 1) := by decide +kernel
theorem dX0_stateAt_23 : decode cX0_stateAt 23 = .ok (.areturn, 1) := by decide +kernel
theorem dX1_init_0 : decode cX1_init 0 = .ok (.aload_n 0, 1) := by decide +kernel
theorem dX1_init_1 : decode cX1_init 1 = .ok (.invokespecial 3, 3) := by decide +kernel
theorem dX1_init_4 : decode cX1_init 4 = .ok (.aload_n 0, 1) := by decide +kernel
theorem dX1_init_5 : decode cX1_init 5 = .ok (.sipush 480, 3) := by decide +kernel
theorem dX1_init_8 : decode cX1_init 8 = .ok (.anewarray 9, 3) := by decide +kernel
theorem dX1_init_11 : decode cX1_init 11 = .ok (.putfield 11, 3) := by decide +kernel
theorem dX1_init_14 : decode cX1_init 14 = .ok (.aload_n 0, 1) := by decide +kernel
theorem dX1_init_15 : decode cX1_init 15 = .ok (.bipush 24, 2) := by decide +kernel
theorem dX1_init_17 : decode cX1_init 17 = .ok (.anewarray 17, 3) := by decide +kernel
theorem dX1_init_20 : decode cX1_init 20 = .ok (.putfield 19, 3) := by decide +kernel
theorem dX1_init_23 : decode cX1_init 23 = .ok (.aload_n 0, 1) := by decide +kernel
theorem dX1_init_24 : decode cX1_init 24 = .ok (.bipush 24, 2) := by decide +kernel
theorem dX1_init_26 : decode cX1_init 26 = .ok (.anewarray 23, 3) := by decide +kernel
theorem dX1_init_29 : decode cX1_init 29 = .ok (.putfield 25, 3) := by decide +kernel
theorem dX1_init_32 : decode cX1_init 32 = .ok (.aload_n 0, 1) := by decide +kernel
theorem dX1_init_33 : decode cX1_init 33 = .ok (.sipush 480, 3) := by decide +kernel
theorem dX1_init_36 : decode cX1_init 36 = .ok (.anewarray 29, 3) := by decide +kernel
theorem dX1_init_39 : decode cX1_init 39 = .ok (.putfield 31, 3) := by decide +kernel
theorem dX1_init_42 : decode cX1_init 42 = .ok (.aload_n 0, 1) := by decide +kernel
theorem dX1_init_43 : decode cX1_init 43 = .ok (.iconst 0, 1) := by decide +kernel
theorem dX1_init_44 : decode cX1_init 44 = .ok (.putfield 35, 3) := by decide +kernel
theorem dX1_init_47 : decode cX1_init 47 = .ok (.aload_n 0, 1) := by decide +kernel
theorem dX1_init_48 : decode cX1_init 48 = .ok (.iconst 0, 1) := by decide +kernel
theorem dX1_init_49 : decode cX1_init 49 = .ok (.putfield 39, 3) := by decide +kernel
theorem dX1_init_52 : decode cX1_init 52 = .ok (.aload_n 0, 1) := by decide +kernel
theorem dX1_init_53 : decode cX1_init 53 = .ok (.iconst 0, 1) := by decide +kernel
theorem dX1_init_54 : decode cX1_init 54 = .ok (.putfield 42, 3) := by decide +kernel
theorem dX1_init_57 : decode cX1_init 57 = .ok (.aload_n 0, 1) := by decide +kernel
theorem dX1_init_58 : decode cX1_init 58 = .ok (.iconst 0, 1) := by decide +kernel
theorem dX1_init_59 : decode cX1_init 59 = .ok (.putfield 45, 3) := by decide +kernel
theorem dX1_init_62 : decode cX1_init 62 = .ok (.aload_n 0, 1) := by decide +kernel
theorem dX1_init_63 : decode cX1_init 63 = .ok (.iconst 0, 1) := by decide +kernel
theorem dX1_init_64 : decode cX1_init 64 = .ok (.putfield 48, 3) := by decide +kernel
theorem dX1_init_67 : decode cX1_init 67 = .ok (.return_, 1) := by decide +kernel
theorem dX1_rowAt_0 : decode cX1_rowAt 0 = .ok (.iload_n 1, 1) := by decide +kernel
theorem dX1_rowAt_1 : decode cX1_rowAt 1 = .ok (.ifCond .lt 20, 3) := by decide +kernel
theorem dX1_rowAt_4 : decode cX1_rowAt 4 = .ok (.iload_n 1, 1) := by decide +kernel
theorem dX1_rowAt_5 : decode cX1_rowAt 5 = .ok (.aload_n 0, 1) := by decide +kernel
theorem dX1_rowAt_6 : decode cX1_rowAt 6 = .ok (.getfield 35, 3) := by decide +kernel
theorem dX1_rowAt_9 : decode cX1_rowAt 9 = .ok (.if_icmp .ge 12, 3) := by decide +kernel
theorem dX1_rowAt_12 : decode cX1_rowAt 12 = .ok (.iload_n 1, 1) := by decide +kernel
theorem dX1_rowAt_13 : decode cX1_rowAt 13 = .ok (.aload_n 0, 1) := by decide +kernel
theorem dX1_rowAt_14 : decode cX1_rowAt 14 = .ok (.getfield 11, 3) := by decide +kernel
theorem dX1_rowAt_17 : decode cX1_rowAt 17 = .ok (.arraylength, 1) := by decide +kernel
theorem dX1_rowAt_18 : decode cX1_rowAt 18 = .ok (.if_icmp .lt 7, 3) := by decide +kernel
theorem dX1_rowAt_21 : decode cX1_rowAt 21 = .ok (.aconst_null, 1) := by decide +kernel
theorem dX1_rowAt_22 : decode cX1_rowAt 22 = .ok (.goto 9, 3) := by decide +kernel
theorem dX1_rowAt_25 : decode cX1_rowAt 25 = .ok (.aload_n 0, 1) := by decide +kernel
theorem dX1_rowAt_26 : decode cX1_rowAt 26 = .ok (.getfield 11, 3) := by decide +kernel
theorem dX1_rowAt_29 : decode cX1_rowAt 29 = .ok (.iload_n 1, 1) := by decide +kernel
theorem dX1_rowAt_30 : decode cX1_rowAt 30 = .ok (.aaload, 1) := by decide +kernel
theorem dX1_rowAt_31 : decode cX1_rowAt 31 = .ok (.areturn, 1) := by decide +kernel
theorem dX1_spanAt_0 : decode cX1_spanAt 0 = .ok (.iload_n 1, 1) := by decide +kernel
theorem dX1_spanAt_1 : decode cX1_spanAt 1 = .ok (.ifCond .lt 20, 3) := by decide +kernel
theorem dX1_spanAt_4 : decode cX1_spanAt 4 = .ok (.iload_n 1, 1) := by decide +kernel
theorem dX1_spanAt_5 : decode cX1_spanAt 5 = .ok (.aload_n 0, 1) := by decide +kernel
theorem dX1_spanAt_6 : decode cX1_spanAt 6 = .ok (.getfield 45, 3) := by decide +kernel
theorem dX1_spanAt_9 : decode cX1_spanAt 9 = .ok (.if_icmp .ge 12, 3) := by decide +kernel
theorem dX1_spanAt_12 : decode cX1_spanAt 12 = .ok (.iload_n 1, 1) := by decide +kernel
theorem dX1_spanAt_13 : decode cX1_spanAt 13 = .ok (.aload_n 0, 1) := by decide +kernel
theorem dX1_spanAt_14 : decode cX1_spanAt 14 = .ok (.getfield 19, 3) := by decide +kernel
theorem dX1_spanAt_17 : decode cX1_spanAt 17 = .ok (.arraylength, 1) := by decide +kernel
theorem dX1_spanAt_18 : decode cX1_spanAt 18 = .ok (.if_icmp .lt 7, 3) := by decide +kernel
theorem dX1_spanAt_21 : decode cX1_spanAt 21 = .ok (.aconst_null, 1) := by decide +kernel
theorem dX1_spanAt_22 : decode cX1_spanAt 22 = .ok (.goto 9, 3) := by decide +kernel
theorem dX1_spanAt_25 : decode cX1_spanAt 25 = .ok (.aload_n 0, 1) := by decide +kernel
theorem dX1_spanAt_26 : decode cX1_spanAt 26 = .ok (.getfield 19, 3) := by decide +kernel
theorem dX1_spanAt_29 : decode cX1_spanAt 29 = .ok (.iload_n 1, 1) := by decide +kernel
theorem dX1_spanAt_30 : decode cX1_spanAt 30 = .ok (.aaload, 1) := by decide +kernel
theorem dX1_spanAt_31 : decode cX1_spanAt 31 = .ok (.areturn, 1) := by decide +kernel
theorem dX1_stanzaAt_0 : decode cX1_stanzaAt 0 = .ok (.iload_n 1, 1) := by decide +kernel
theorem dX1_stanzaAt_1 : decode cX1_stanzaAt 1 = .ok (.ifCond .lt 20, 3) := by decide +kernel
theorem dX1_stanzaAt_4 : decode cX1_stanzaAt 4 = .ok (.iload_n 1, 1) := by decide +kernel
theorem dX1_stanzaAt_5 : decode cX1_stanzaAt 5 = .ok (.aload_n 0, 1) := by decide +kernel
theorem dX1_stanzaAt_6 : decode cX1_stanzaAt 6 = .ok (.getfield 39, 3) := by decide +kernel
theorem dX1_stanzaAt_9 : decode cX1_stanzaAt 9 = .ok (.if_icmp .ge 12, 3) := by decide +kernel
theorem dX1_stanzaAt_12 : decode cX1_stanzaAt 12 = .ok (.iload_n 1, 1) := by decide +kernel
theorem dX1_stanzaAt_13 : decode cX1_stanzaAt 13 = .ok (.aload_n 0, 1) := by decide +kernel
theorem dX1_stanzaAt_14 : decode cX1_stanzaAt 14 = .ok (.getfield 25, 3) := by decide +kernel
theorem dX1_stanzaAt_17 : decode cX1_stanzaAt 17 = .ok (.arraylength, 1) := by decide +kernel
theorem dX1_stanzaAt_18 : decode cX1_stanzaAt 18 = .ok (.if_icmp .lt 7, 3) := by decide +kernel
theorem dX1_stanzaAt_21 : decode cX1_stanzaAt 21 = .ok (.aconst_null, 1) := by decide +kernel
theorem dX1_stanzaAt_22 : decode cX1_stanzaAt 22 = .ok (.goto 9, 3) := by decide +kernel
theorem dX1_stanzaAt_25 : decode cX1_stanzaAt 25 = .ok (.aload_n 0, 1) := by decide +kernel
theorem dX1_stanzaAt_26 : decode cX1_stanzaAt 26 = .ok (.getfield 25, 3) := by decide +kernel
theorem dX1_stanzaAt_29 : decode cX1_stanzaAt 29 = .ok (.iload_n 1, 1) := by decide +kernel
theorem dX1_stanzaAt_30 : decode cX1_stanzaAt 30 = .ok (.aaload, 1) := by decide +kernel
theorem dX1_stanzaAt_31 : decode cX1_stanzaAt 31 = .ok (.areturn, 1) := by decide +kernel
theorem dX1_pageAt_0 : decode cX1_pageAt 0 = .ok (.iload_n 1, 1) := by decide +kernel
theorem dX1_pageAt_1 : decode cX1_pageAt 1 = .ok (.ifCond .lt 20, 3) := by decide +kernel
theorem dX1_pageAt_4 : decode cX1_pageAt 4 = .ok (.iload_n 1, 1) := by decide +kernel
theorem dX1_pageAt_5 : decode cX1_pageAt 5 = .ok (.aload_n 0, 1) := by decide +kernel
theorem dX1_pageAt_6 : decode cX1_pageAt 6 = .ok (.getfield 42, 3) := by decide +kernel
theorem dX1_pageAt_9 : decode cX1_pageAt 9 = .ok (.if_icmp .ge 12, 3) := by decide +kernel
theorem dX1_pageAt_12 : decode cX1_pageAt 12 = .ok (.iload_n 1, 1) := by decide +kernel
theorem dX1_pageAt_13 : decode cX1_pageAt 13 = .ok (.aload_n 0, 1) := by decide +kernel
theorem dX1_pageAt_14 : decode cX1_pageAt 14 = .ok (.getfield 31, 3) := by decide +kernel
theorem dX1_pageAt_17 : decode cX1_pageAt 17 = .ok (.arraylength, 1) := by decide +kernel
theorem dX1_pageAt_18 : decode cX1_pageAt 18 = .ok (.if_icmp .lt 7, 3) := by decide +kernel
theorem dX1_pageAt_21 : decode cX1_pageAt 21 = .ok (.aconst_null, 1) := by decide +kernel
theorem dX1_pageAt_22 : decode cX1_pageAt 22 = .ok (.goto 9, 3) := by decide +kernel
theorem dX1_pageAt_25 : decode cX1_pageAt 25 = .ok (.aload_n 0, 1) := by decide +kernel
theorem dX1_pageAt_26 : decode cX1_pageAt 26 = .ok (.getfield 31, 3) := by decide +kernel
theorem dX1_pageAt_29 : decode cX1_pageAt 29 = .ok (.iload_n 1, 1) := by decide +kernel
theorem dX1_pageAt_30 : decode cX1_pageAt 30 = .ok (.aaload, 1) := by decide +kernel
theorem dX1_pageAt_31 : decode cX1_pageAt 31 = .ok (.areturn, 1) := by decide +kernel
theorem dX1_rowAtPlace_0 : decode cX1_rowAtPlace 0 = .ok (.aload_n 1, 1) := by decide +kernel
theorem dX1_rowAtPlace_1 : decode cX1_rowAtPlace 1 = .ok (.getfield 51, 3) := by decide +kernel
theorem dX1_rowAtPlace_4 : decode cX1_rowAtPlace 4 = .ok (.istore_n 3, 1) := by decide +kernel
theorem dX1_rowAtPlace_5 : decode cX1_rowAtPlace 5 = .ok (.iload_n 3, 1) := by decide +kernel
theorem dX1_rowAtPlace_6 : decode cX1_rowAtPlace 6 = .ok (.aload_n 1, 1) := by decide +kernel
theorem dX1_rowAtPlace_7 : decode cX1_rowAtPlace 7 = .ok (.getfield 51, 3) := by decide +kernel
theorem dX1_rowAtPlace_10 : decode cX1_rowAtPlace 10 = .ok (.aload_n 1, 1) := by decide +kernel
theorem dX1_rowAtPlace_11 : decode cX1_rowAtPlace 11 = .ok (.getfield 54, 3) := by decide +kernel
theorem dX1_rowAtPlace_14 : decode cX1_rowAtPlace 14 = .ok (.iadd, 1) := by decide +kernel
theorem dX1_rowAtPlace_15 : decode cX1_rowAtPlace 15 = .ok (.if_icmp .ge 33, 3) := by decide +kernel
theorem dX1_rowAtPlace_18 : decode cX1_rowAtPlace 18 = .ok (.aload_n 0, 1) := by decide +kernel
theorem dX1_rowAtPlace_19 : decode cX1_rowAtPlace 19 = .ok (.iload_n 3, 1) := by decide +kernel
theorem dX1_rowAtPlace_20 : decode cX1_rowAtPlace 20 = .ok (.invokevirtual 56, 3) := by decide +kernel
theorem dX1_rowAtPlace_23 : decode cX1_rowAtPlace 23 = .ok (.astore 4, 2) := by decide +kernel
theorem dX1_rowAtPlace_25 : decode cX1_rowAtPlace 25 = .ok (.aload 4, 2) := by decide +kernel
theorem dX1_rowAtPlace_27 : decode cX1_rowAtPlace 27 = .ok (.ifnull 15, 3) := by decide +kernel
theorem dX1_rowAtPlace_30 : decode cX1_rowAtPlace 30 = .ok (.aload 4, 2) := by decide +kernel
theorem dX1_rowAtPlace_32 : decode cX1_rowAtPlace 32 = .ok (.getfield 60, 3) := by decide +kernel
theorem dX1_rowAtPlace_35 : decode cX1_rowAtPlace 35 = .ok (.iload_n 2, 1) := by decide +kernel
theorem dX1_rowAtPlace_36 : decode cX1_rowAtPlace 36 = .ok (.if_icmp .ne 6, 3) := by decide +kernel
theorem dX1_rowAtPlace_39 : decode cX1_rowAtPlace 39 = .ok (.aload 4, 2) := by decide +kernel
theorem dX1_rowAtPlace_41 : decode cX1_rowAtPlace 41 = .ok (.areturn, 1) := by decide +kernel
theorem dX1_rowAtPlace_42 : decode cX1_rowAtPlace 42 = .ok (.iinc 3 1, 3) := by decide +kernel
theorem dX1_rowAtPlace_45 : decode cX1_rowAtPlace 45 = .ok (.goto (-40), 3) := by decide +kernel
theorem dX1_rowAtPlace_48 : decode cX1_rowAtPlace 48 = .ok (.aconst_null, 1) := by decide +kernel
theorem dX1_rowAtPlace_49 : decode cX1_rowAtPlace 49 = .ok (.areturn, 1) := by decide +kernel
theorem dX1_runOvers_0 : decode cX1_runOvers 0 = .ok (.aload_n 0, 1) := by decide +kernel
theorem dX1_runOvers_1 : decode cX1_runOvers 1 = .ok (.getfield 35, 3) := by decide +kernel
theorem dX1_runOvers_4 : decode cX1_runOvers 4 = .ok (.aload_n 0, 1) := by decide +kernel
theorem dX1_runOvers_5 : decode cX1_runOvers 5 = .ok (.getfield 45, 3) := by decide +kernel
theorem dX1_runOvers_8 : decode cX1_runOvers 8 = .ok (.isub, 1) := by decide +kernel
theorem dX1_runOvers_9 : decode cX1_runOvers 9 = .ok (.ireturn, 1) := by decide +kernel
theorem dX1_cuts_0 : decode cX1_cuts 0 = .ok (.iconst 0, 1) := by decide +kernel
theorem dX1_cuts_1 : decode cX1_cuts 1 = .ok (.istore_n 1, 1) := by decide +kernel
theorem dX1_cuts_2 : decode cX1_cuts 2 = .ok (.iconst 0, 1) := by decide +kernel
theorem dX1_cuts_3 : decode cX1_cuts 3 = .ok (.istore_n 2, 1) := by decide +kernel
theorem dX1_cuts_4 : decode cX1_cuts 4 = .ok (.iload_n 2, 1) := by decide +kernel
theorem dX1_cuts_5 : decode cX1_cuts 5 = .ok (.aload_n 0, 1) := by decide +kernel
theorem dX1_cuts_6 : decode cX1_cuts 6 = .ok (.getfield 35, 3) := by decide +kernel
theorem dX1_cuts_9 : decode cX1_cuts 9 = .ok (.if_icmp .ge 37, 3) := by decide +kernel
theorem dX1_cuts_12 : decode cX1_cuts 12 = .ok (.aload_n 0, 1) := by decide +kernel
theorem dX1_cuts_13 : decode cX1_cuts 13 = .ok (.iload_n 2, 1) := by decide +kernel
theorem dX1_cuts_14 : decode cX1_cuts 14 = .ok (.invokevirtual 56, 3) := by decide +kernel
theorem dX1_cuts_17 : decode cX1_cuts 17 = .ok (.astore_n 3, 1) := by decide +kernel
theorem dX1_cuts_18 : decode cX1_cuts 18 = .ok (.iload_n 1, 1) := by decide +kernel
theorem dX1_cuts_19 : decode cX1_cuts 19 = .ok (.aload_n 3, 1) := by decide +kernel
theorem dX1_cuts_20 : decode cX1_cuts 20 = .ok (.ifnull 14, 3) := by decide +kernel
theorem dX1_cuts_23 : decode cX1_cuts 23 = .ok (.aload_n 3, 1) := by decide +kernel
theorem dX1_cuts_24 : decode cX1_cuts 24 = .ok (.getfield 63, 3) := by decide +kernel
theorem dX1_cuts_27 : decode cX1_cuts 27 = .ok (.ifCond .eq 7, 3) := by decide +kernel
theorem dX1_cuts_30 : decode cX1_cuts 30 = .ok (.iconst 1, 1) := by decide +kernel
theorem dX1_cuts_31 : decode cX1_cuts 31 = .ok (.goto 4, 3) := by decide +kernel
theorem dX1_cuts_34 : decode cX1_cuts 34 = .ok (.iconst 0, 1) := by decide +kernel
theorem dX1_cuts_35 : decode cX1_cuts 35 = .ok (.invokestatic 67, 3) := by decide +kernel
theorem dX1_cuts_38 : decode cX1_cuts 38 = .ok (.iadd, 1) := by decide +kernel
theorem dX1_cuts_39 : decode cX1_cuts 39 = .ok (.istore_n 1, 1) := by decide +kernel
theorem dX1_cuts_40 : decode cX1_cuts 40 = .ok (.iinc 2 1, 3) := by decide +kernel
theorem dX1_cuts_43 : decode cX1_cuts 43 = .ok (.goto (-39), 3) := by decide +kernel
theorem dX1_cuts_46 : decode cX1_cuts 46 = .ok (.iload_n 1, 1) := by decide +kernel
theorem dX1_cuts_47 : decode cX1_cuts 47 = .ok (.ireturn, 1) := by decide +kernel
theorem dX1_markedPages_0 : decode cX1_markedPages 0 = .ok (.iconst 0, 1) := by decide +kernel
theorem dX1_markedPages_1 : decode cX1_markedPages 1 = .ok (.istore_n 1, 1) := by decide +kernel
theorem dX1_markedPages_2 : decode cX1_markedPages 2 = .ok (.iconst 0, 1) := by decide +kernel
theorem dX1_markedPages_3 : decode cX1_markedPages 3 = .ok (.istore_n 2, 1) := by decide +kernel
theorem dX1_markedPages_4 : decode cX1_markedPages 4 = .ok (.iload_n 2, 1) := by decide +kernel
theorem dX1_markedPages_5 : decode cX1_markedPages 5 = .ok (.aload_n 0, 1) := by decide +kernel
theorem dX1_markedPages_6 : decode cX1_markedPages 6 = .ok (.getfield 42, 3) := by decide +kernel
theorem dX1_markedPages_9 : decode cX1_markedPages 9 = .ok (.if_icmp .ge 37, 3) := by decide +kernel
theorem dX1_markedPages_12 : decode cX1_markedPages 12 = .ok (.aload_n 0, 1) := by decide +kernel
theorem dX1_markedPages_13 : decode cX1_markedPages 13 = .ok (.iload_n 2, 1) := by decide +kernel
theorem dX1_markedPages_14 : decode cX1_markedPages 14 = .ok (.invokevirtual 71, 3) := by decide +kernel
theorem dX1_markedPages_17 : decode cX1_markedPages 17 = .ok (.astore_n 3, 1) := by decide +kernel
theorem dX1_markedPages_18 : decode cX1_markedPages 18 = .ok (.iload_n 1, 1) := by decide +kernel
theorem dX1_markedPages_19 : decode cX1_markedPages 19 = .ok (.aload_n 3, 1) := by decide +kernel
theorem dX1_markedPages_20 : decode cX1_markedPages 20 = .ok (.ifnull 14, 3) := by decide +kernel
theorem dX1_markedPages_23 : decode cX1_markedPages 23 = .ok (.aload_n 3, 1) := by decide +kernel
theorem dX1_markedPages_24 : decode cX1_markedPages 24 = .ok (.getfield 75, 3) := by decide +kernel
theorem dX1_markedPages_27 : decode cX1_markedPages 27 = .ok (.ifCond .eq 7, 3) := by decide +kernel
theorem dX1_markedPages_30 : decode cX1_markedPages 30 = .ok (.iconst 1, 1) := by decide +kernel
theorem dX1_markedPages_31 : decode cX1_markedPages 31 = .ok (.goto 4, 3) := by decide +kernel
theorem dX1_markedPages_34 : decode cX1_markedPages 34 = .ok (.iconst 0, 1) := by decide +kernel
theorem dX1_markedPages_35 : decode cX1_markedPages 35 = .ok (.invokestatic 67, 3) := by decide +kernel
theorem dX1_markedPages_38 : decode cX1_markedPages 38 = .ok (.iadd, 1) := by decide +kernel
theorem dX1_markedPages_39 : decode cX1_markedPages 39 = .ok (.istore_n 1, 1) := by decide +kernel
theorem dX1_markedPages_40 : decode cX1_markedPages 40 = .ok (.iinc 2 1, 3) := by decide +kernel
theorem dX1_markedPages_43 : decode cX1_markedPages 43 = .ok (.goto (-39), 3) := by decide +kernel
theorem dX1_markedPages_46 : decode cX1_markedPages 46 = .ok (.iload_n 1, 1) := by decide +kernel
theorem dX1_markedPages_47 : decode cX1_markedPages 47 = .ok (.ireturn, 1) := by decide +kernel
theorem dX1_lastNumber_0 : decode cX1_lastNumber 0 = .ok (.aload_n 0, 1) := by decide +kernel
theorem dX1_lastNumber_1 : decode cX1_lastNumber 1 = .ok (.aload_n 0, 1) := by decide +kernel
theorem dX1_lastNumber_2 : decode cX1_lastNumber 2 = .ok (.getfield 45, 3) := by decide +kernel
theorem dX1_lastNumber_5 : decode cX1_lastNumber 5 = .ok (.iconst 1, 1) := by decide +kernel
theorem dX1_lastNumber_6 : decode cX1_lastNumber 6 = .ok (.isub, 1) := by decide +kernel
theorem dX1_lastNumber_7 : decode cX1_lastNumber 7 = .ok (.invokevirtual 78, 3) := by decide +kernel
theorem dX1_lastNumber_10 : decode cX1_lastNumber 10 = .ok (.astore_n 1, 1) := by decide +kernel
theorem dX1_lastNumber_11 : decode cX1_lastNumber 11 = .ok (.aload_n 1, 1) := by decide +kernel
theorem dX1_lastNumber_12 : decode cX1_lastNumber 12 = .ok (.ifnonnull 7, 3) := by decide +kernel
theorem dX1_lastNumber_15 : decode cX1_lastNumber 15 = .ok (.iconst 0, 1) := by decide +kernel
theorem dX1_lastNumber_16 : decode cX1_lastNumber 16 = .ok (.goto 7, 3) := by decide +kernel
theorem dX1_lastNumber_19 : decode cX1_lastNumber 19 = .ok (.aload_n 1, 1) := by decide +kernel
theorem dX1_lastNumber_20 : decode cX1_lastNumber 20 = .ok (.getfield 82, 3) := by decide +kernel
theorem dX1_lastNumber_23 : decode cX1_lastNumber 23 = .ok (.ireturn, 1) := by decide +kernel
theorem dX1_greatestWidth_0 : decode cX1_greatestWidth 0 = .ok (.iconst 0, 1) := by decide +kernel
theorem dX1_greatestWidth_1 : decode cX1_greatestWidth 1 = .ok (.istore_n 3, 1) := by decide +kernel
theorem dX1_greatestWidth_2 : decode cX1_greatestWidth 2 = .ok (.iload_n 1, 1) := by decide +kernel
theorem dX1_greatestWidth_3 : decode cX1_greatestWidth 3 = .ok (.istore 4, 2) := by decide +kernel
theorem dX1_greatestWidth_5 : decode cX1_greatestWidth 5 = .ok (.iload 4, 2) := by decide +kernel
theorem dX1_greatestWidth_7 : decode cX1_greatestWidth 7 = .ok (.iload_n 1, 1) := by decide +kernel
theorem dX1_greatestWidth_8 : decode cX1_greatestWidth 8 = .ok (.iload_n 2, 1) := by decide +kernel
theorem dX1_greatestWidth_9 : decode cX1_greatestWidth 9 = .ok (.iadd, 1) := by decide +kernel
theorem dX1_greatestWidth_10 : decode cX1_greatestWidth 10 = .ok (.if_icmp .ge 20, 3) := by decide +kernel
theorem dX1_greatestWidth_13 : decode cX1_greatestWidth 13 = .ok (.iload_n 3, 1) := by decide +kernel
theorem dX1_greatestWidth_14 : decode cX1_greatestWidth 14 = .ok (.aload_n 0, 1) := by decide +kernel
theorem dX1_greatestWidth_15 : decode cX1_greatestWidth 15 = .ok (.iload 4, 2) := by decide +kernel
theorem dX1_greatestWidth_17 : decode cX1_greatestWidth 17 = .ok (.invokevirtual 85, 3) := by decide +kernel
theorem dX1_greatestWidth_20 : decode cX1_greatestWidth 20 = .ok (.invokestatic 89, 3) := by decide +kernel
theorem dX1_greatestWidth_23 : decode cX1_greatestWidth 23 = .ok (.istore_n 3, 1) := by decide +kernel
theorem dX1_greatestWidth_24 : decode cX1_greatestWidth 24 = .ok (.iinc 4 1, 3) := by decide +kernel
theorem dX1_greatestWidth_27 : decode cX1_greatestWidth 27 = .ok (.goto (-22), 3) := by decide +kernel
theorem dX1_greatestWidth_30 : decode cX1_greatestWidth 30 = .ok (.iload_n 3, 1) := by decide +kernel
theorem dX1_greatestWidth_31 : decode cX1_greatestWidth 31 = .ok (.ireturn, 1) := by decide +kernel
theorem dX1_breakLines_0 : decode cX1_breakLines 0 = .ok (.aload_n 0, 1) := by decide +kernel
theorem dX1_breakLines_1 : decode cX1_breakLines 1 = .ok (.iconst 0, 1) := by decide +kernel
theorem dX1_breakLines_2 : decode cX1_breakLines 2 = .ok (.putfield 35, 3) := by decide +kernel
theorem dX1_breakLines_5 : decode cX1_breakLines 5 = .ok (.aload_n 0, 1) := by decide +kernel
theorem dX1_breakLines_6 : decode cX1_breakLines 6 = .ok (.iconst 0, 1) := by decide +kernel
theorem dX1_breakLines_7 : decode cX1_breakLines 7 = .ok (.putfield 45, 3) := by decide +kernel
theorem dX1_breakLines_10 : decode cX1_breakLines 10 = .ok (.aload_n 0, 1) := by decide +kernel
theorem dX1_breakLines_11 : decode cX1_breakLines 11 = .ok (.iconst 0, 1) := by decide +kernel
theorem dX1_breakLines_12 : decode cX1_breakLines 12 = .ok (.putfield 39, 3) := by decide +kernel
theorem dX1_breakLines_15 : decode cX1_breakLines 15 = .ok (.iconst 0, 1) := by decide +kernel
theorem dX1_breakLines_16 : decode cX1_breakLines 16 = .ok (.istore_n 3, 1) := by decide +kernel
theorem dX1_breakLines_17 : decode cX1_breakLines 17 = .ok (.iload_n 3, 1) := by decide +kernel
theorem dX1_breakLines_18 : decode cX1_breakLines 18 = .ok (.aload_n 1, 1) := by decide +kernel
theorem dX1_breakLines_19 : decode cX1_breakLines 19 = .ok (.getfield 107, 3) := by decide +kernel
theorem dX1_breakLines_22 : decode cX1_breakLines 22 = .ok (.if_icmp .ge 149, 3) := by decide +kernel
theorem dX1_breakLines_25 : decode cX1_breakLines 25 = .ok (.aload_n 1, 1) := by decide +kernel
theorem dX1_breakLines_26 : decode cX1_breakLines 26 = .ok (.iload_n 3, 1) := by decide +kernel
theorem dX1_breakLines_27 : decode cX1_breakLines 27 = .ok (.invokevirtual 112, 3) := by decide +kernel
theorem dX1_breakLines_30 : decode cX1_breakLines 30 = .ok (.astore 4, 2) := by decide +kernel
theorem dX1_breakLines_32 : decode cX1_breakLines 32 = .ok (.aload 4, 2) := by decide +kernel
theorem dX1_breakLines_34 : decode cX1_breakLines 34 = .ok (.ifnull 131, 3) := by decide +kernel
theorem dX1_breakLines_37 : decode cX1_breakLines 37 = .ok (.aload_n 1, 1) := by decide +kernel
theorem dX1_breakLines_38 : decode cX1_breakLines 38 = .ok (.iload_n 3, 1) := by decide +kernel
theorem dX1_breakLines_39 : decode cX1_breakLines 39 = .ok (.invokevirtual 116, 3) := by decide +kernel
theorem dX1_breakLines_42 : decode cX1_breakLines 42 = .ok (.ifCond .eq 11, 3) := by decide +kernel
theorem dX1_breakLines_45 : decode cX1_breakLines 45 = .ok (.aload_n 0, 1) := by decide +kernel
theorem dX1_breakLines_46 : decode cX1_breakLines 46 = .ok (.iload_n 3, 1) := by decide +kernel
theorem dX1_breakLines_47 : decode cX1_breakLines 47 = .ok (.invokevirtual 120, 3) := by decide +kernel
theorem dX1_breakLines_50 : decode cX1_breakLines 50 = .ok (.goto 8, 3) := by decide +kernel
theorem dX1_breakLines_53 : decode cX1_breakLines 53 = .ok (.aload_n 0, 1) := by decide +kernel
theorem dX1_breakLines_54 : decode cX1_breakLines 54 = .ok (.iload_n 3, 1) := by decide +kernel
theorem dX1_breakLines_55 : decode cX1_breakLines 55 = .ok (.invokevirtual 124, 3) := by decide +kernel
theorem dX1_breakLines_58 : decode cX1_breakLines 58 = .ok (.astore 5, 2) := by decide +kernel
theorem dX1_breakLines_60 : decode cX1_breakLines 60 = .ok (.aload_n 0, 1) := by decide +kernel
theorem dX1_breakLines_61 : decode cX1_breakLines 61 = .ok (.aload 4, 2) := by decide +kernel
theorem dX1_breakLines_63 : decode cX1_breakLines 63 = .ok (.iload_n 3, 1) := by decide +kernel
theorem dX1_breakLines_64 : decode cX1_breakLines 64 = .ok (.aload 5, 2) := by decide +kernel
theorem dX1_breakLines_66 : decode cX1_breakLines 66 = .ok (.getfield 127, 3) := by decide +kernel
theorem dX1_breakLines_69 : decode cX1_breakLines 69 = .ok (.if_icmp .le 7, 3) := by decide +kernel
theorem dX1_breakLines_72 : decode cX1_breakLines 72 = .ok (.iconst 1, 1) := by decide +kernel
theorem dX1_breakLines_73 : decode cX1_breakLines 73 = .ok (.goto 4, 3) := by decide +kernel
theorem dX1_breakLines_76 : decode cX1_breakLines 76 = .ok (.iconst 0, 1) := by decide +kernel
theorem dX1_breakLines_77 : decode cX1_breakLines 77 = .ok (.invokevirtual 130, 3) := by decide +kernel
theorem dX1_breakLines_80 : decode cX1_breakLines 80 = .ok (.astore 6, 2) := by decide +kernel
theorem dX1_breakLines_82 : decode cX1_breakLines 82 = .ok (.aload_n 0, 1) := by decide +kernel
theorem dX1_breakLines_83 : decode cX1_breakLines 83 = .ok (.aload 4, 2) := by decide +kernel
theorem dX1_breakLines_85 : decode cX1_breakLines 85 = .ok (.iload_n 3, 1) := by decide +kernel
theorem dX1_breakLines_86 : decode cX1_breakLines 86 = .ok (.aload 6, 2) := by decide +kernel
theorem dX1_breakLines_88 : decode cX1_breakLines 88 = .ok (.aload_n 1, 1) := by decide +kernel
theorem dX1_breakLines_89 : decode cX1_breakLines 89 = .ok (.iload_n 2, 1) := by decide +kernel
theorem dX1_breakLines_90 : decode cX1_breakLines 90 = .ok (.invokevirtual 134, 3) := by decide +kernel
theorem dX1_breakLines_93 : decode cX1_breakLines 93 = .ok (.astore 7, 2) := by decide +kernel
theorem dX1_breakLines_95 : decode cX1_breakLines 95 = .ok (.aload 4, 2) := by decide +kernel
theorem dX1_breakLines_97 : decode cX1_breakLines 97 = .ok (.getfield 138, 3) := by decide +kernel
theorem dX1_breakLines_100 : decode cX1_breakLines 100 = .ok (.aload_n 1, 1) := by decide +kernel
theorem dX1_breakLines_101 : decode cX1_breakLines 101 = .ok (.iconst 2, 1) := by decide +kernel
theorem dX1_breakLines_102 : decode cX1_breakLines 102 = .ok (.invokevirtual 143, 3) := by decide +kernel
theorem dX1_breakLines_105 : decode cX1_breakLines 105 = .ok (.imul, 1) := by decide +kernel
theorem dX1_breakLines_106 : decode cX1_breakLines 106 = .ok (.aload_n 1, 1) := by decide +kernel
theorem dX1_breakLines_107 : decode cX1_breakLines 107 = .ok (.iconst 3, 1) := by decide +kernel
theorem dX1_breakLines_108 : decode cX1_breakLines 108 = .ok (.invokevirtual 143, 3) := by decide +kernel
theorem dX1_breakLines_111 : decode cX1_breakLines 111 = .ok (.iadd, 1) := by decide +kernel
theorem dX1_breakLines_112 : decode cX1_breakLines 112 = .ok (.istore 8, 2) := by decide +kernel
theorem dX1_breakLines_114 : decode cX1_breakLines 114 = .ok (.aload_n 0, 1) := by decide +kernel
theorem dX1_breakLines_115 : decode cX1_breakLines 115 = .ok (.aload 4, 2) := by decide +kernel
theorem dX1_breakLines_117 : decode cX1_breakLines 117 = .ok (.getfield 146, 3) := by decide +kernel
theorem dX1_breakLines_120 : decode cX1_breakLines 120 = .ok (.aload 7, 2) := by decide +kernel
theorem dX1_breakLines_122 : decode cX1_breakLines 122 = .ok (.iload 8, 2) := by decide +kernel
theorem dX1_breakLines_124 : decode cX1_breakLines 124 = .ok (.iload_n 2, 1) := by decide +kernel
theorem dX1_breakLines_125 : decode cX1_breakLines 125 = .ok (.bipush 6, 2) := by decide +kernel
theorem dX1_breakLines_127 : decode cX1_breakLines 127 = .ok (.isub, 1) := by decide +kernel
theorem dX1_breakLines_128 : decode cX1_breakLines 128 = .ok (.invokestatic 150, 3) := by decide +kernel
theorem dX1_breakLines_131 : decode cX1_breakLines 131 = .ok (.iload_n 2, 1) := by decide +kernel
theorem dX1_breakLines_132 : decode cX1_breakLines 132 = .ok (.invokevirtual 153, 3) := by decide +kernel
theorem dX1_breakLines_135 : decode cX1_breakLines 135 = .ok (.aload 6, 2) := by decide +kernel
theorem dX1_breakLines_137 : decode cX1_breakLines 137 = .ok (.aload_n 0, 1) := by decide +kernel
theorem dX1_breakLines_138 : decode cX1_breakLines 138 = .ok (.getfield 35, 3) := by decide +kernel
theorem dX1_breakLines_141 : decode cX1_breakLines 141 = .ok (.aload 6, 2) := by decide +kernel
theorem dX1_breakLines_143 : decode cX1_breakLines 143 = .ok (.getfield 157, 3) := by decide +kernel
theorem dX1_breakLines_146 : decode cX1_breakLines 146 = .ok (.isub, 1) := by decide +kernel
theorem dX1_breakLines_147 : decode cX1_breakLines 147 = .ok (.putfield 158, 3) := by decide +kernel
theorem dX1_breakLines_150 : decode cX1_breakLines 150 = .ok (.aload 5, 2) := by decide +kernel
theorem dX1_breakLines_152 : decode cX1_breakLines 152 = .ok (.dup, 1) := by decide +kernel
theorem dX1_breakLines_153 : decode cX1_breakLines 153 = .ok (.getfield 96, 3) := by decide +kernel
theorem dX1_breakLines_156 : decode cX1_breakLines 156 = .ok (.aload 6, 2) := by decide +kernel
theorem dX1_breakLines_158 : decode cX1_breakLines 158 = .ok (.getfield 158, 3) := by decide +kernel
theorem dX1_breakLines_161 : decode cX1_breakLines 161 = .ok (.iadd, 1) := by decide +kernel
theorem dX1_breakLines_162 : decode cX1_breakLines 162 = .ok (.putfield 96, 3) := by decide +kernel
theorem dX1_breakLines_165 : decode cX1_breakLines 165 = .ok (.iinc 3 1, 3) := by decide +kernel
theorem dX1_breakLines_168 : decode cX1_breakLines 168 = .ok (.goto (-151), 3) := by decide +kernel
theorem dX1_breakLines_171 : decode cX1_breakLines 171 = .ok (.return_, 1) := by decide +kernel
theorem dX1_putOnPages_0 : decode cX1_putOnPages 0 = .ok (.aload_n 0, 1) := by decide +kernel
theorem dX1_putOnPages_1 : decode cX1_putOnPages 1 = .ok (.iconst 0, 1) := by decide +kernel
theorem dX1_putOnPages_2 : decode cX1_putOnPages 2 = .ok (.putfield 42, 3) := by decide +kernel
theorem dX1_putOnPages_5 : decode cX1_putOnPages 5 = .ok (.aload_n 0, 1) := by decide +kernel
theorem dX1_putOnPages_6 : decode cX1_putOnPages 6 = .ok (.iconst 0, 1) := by decide +kernel
theorem dX1_putOnPages_7 : decode cX1_putOnPages 7 = .ok (.putfield 48, 3) := by decide +kernel
theorem dX1_putOnPages_10 : decode cX1_putOnPages 10 = .ok (.iconst 0, 1) := by decide +kernel
theorem dX1_putOnPages_11 : decode cX1_putOnPages 11 = .ok (.istore_n 3, 1) := by decide +kernel
theorem dX1_putOnPages_12 : decode cX1_putOnPages 12 = .ok (.iload_n 3, 1) := by decide +kernel
theorem dX1_putOnPages_13 : decode cX1_putOnPages 13 = .ok (.aload_n 0, 1) := by decide +kernel
theorem dX1_putOnPages_14 : decode cX1_putOnPages 14 = .ok (.getfield 39, 3) := by decide +kernel
theorem dX1_putOnPages_17 : decode cX1_putOnPages 17 = .ok (.if_icmp .ge 36, 3) := by decide +kernel
theorem dX1_putOnPages_20 : decode cX1_putOnPages 20 = .ok (.aload_n 0, 1) := by decide +kernel
theorem dX1_putOnPages_21 : decode cX1_putOnPages 21 = .ok (.iload_n 3, 1) := by decide +kernel
theorem dX1_putOnPages_22 : decode cX1_putOnPages 22 = .ok (.invokevirtual 159, 3) := by decide +kernel
theorem dX1_putOnPages_25 : decode cX1_putOnPages 25 = .ok (.astore 4, 2) := by decide +kernel
theorem dX1_putOnPages_27 : decode cX1_putOnPages 27 = .ok (.aload 4, 2) := by decide +kernel
theorem dX1_putOnPages_29 : decode cX1_putOnPages 29 = .ok (.ifnull 18, 3) := by decide +kernel
theorem dX1_putOnPages_32 : decode cX1_putOnPages 32 = .ok (.aload_n 0, 1) := by decide +kernel
theorem dX1_putOnPages_33 : decode cX1_putOnPages 33 = .ok (.aload 4, 2) := by decide +kernel
theorem dX1_putOnPages_35 : decode cX1_putOnPages 35 = .ok (.iload_n 1, 1) := by decide +kernel
theorem dX1_putOnPages_36 : decode cX1_putOnPages 36 = .ok (.iload_n 2, 1) := by decide +kernel
theorem dX1_putOnPages_37 : decode cX1_putOnPages 37 = .ok (.invokevirtual 162, 3) := by decide +kernel
theorem dX1_putOnPages_40 : decode cX1_putOnPages 40 = .ok (.aload_n 0, 1) := by decide +kernel
theorem dX1_putOnPages_41 : decode cX1_putOnPages 41 = .ok (.aload 4, 2) := by decide +kernel
theorem dX1_putOnPages_43 : decode cX1_putOnPages 43 = .ok (.iload_n 1, 1) := by decide +kernel
theorem dX1_putOnPages_44 : decode cX1_putOnPages 44 = .ok (.invokevirtual 166, 3) := by decide +kernel
theorem dX1_putOnPages_47 : decode cX1_putOnPages 47 = .ok (.iinc 3 1, 3) := by decide +kernel
theorem dX1_putOnPages_50 : decode cX1_putOnPages 50 = .ok (.goto (-38), 3) := by decide +kernel
theorem dX1_putOnPages_53 : decode cX1_putOnPages 53 = .ok (.iconst 0, 1) := by decide +kernel
theorem dX1_putOnPages_54 : decode cX1_putOnPages 54 = .ok (.istore_n 3, 1) := by decide +kernel
theorem dX1_putOnPages_55 : decode cX1_putOnPages 55 = .ok (.iload_n 3, 1) := by decide +kernel
theorem dX1_putOnPages_56 : decode cX1_putOnPages 56 = .ok (.aload_n 0, 1) := by decide +kernel
theorem dX1_putOnPages_57 : decode cX1_putOnPages 57 = .ok (.getfield 42, 3) := by decide +kernel
theorem dX1_putOnPages_60 : decode cX1_putOnPages 60 = .ok (.if_icmp .ge 37, 3) := by decide +kernel
theorem dX1_putOnPages_63 : decode cX1_putOnPages 63 = .ok (.aload_n 0, 1) := by decide +kernel
theorem dX1_putOnPages_64 : decode cX1_putOnPages 64 = .ok (.iload_n 3, 1) := by decide +kernel
theorem dX1_putOnPages_65 : decode cX1_putOnPages 65 = .ok (.invokevirtual 71, 3) := by decide +kernel
theorem dX1_putOnPages_68 : decode cX1_putOnPages 68 = .ok (.astore 4, 2) := by decide +kernel
theorem dX1_putOnPages_70 : decode cX1_putOnPages 70 = .ok (.aload 4, 2) := by decide +kernel
theorem dX1_putOnPages_72 : decode cX1_putOnPages 72 = .ok (.ifnull 19, 3) := by decide +kernel
theorem dX1_putOnPages_75 : decode cX1_putOnPages 75 = .ok (.aload 4, 2) := by decide +kernel
theorem dX1_putOnPages_77 : decode cX1_putOnPages 77 = .ok (.aload_n 0, 1) := by decide +kernel
theorem dX1_putOnPages_78 : decode cX1_putOnPages 78 = .ok (.aload_n 0, 1) := by decide +kernel
theorem dX1_putOnPages_79 : decode cX1_putOnPages 79 = .ok (.iload_n 3, 1) := by decide +kernel
theorem dX1_putOnPages_80 : decode cX1_putOnPages 80 = .ok (.iconst 1, 1) := by decide +kernel
theorem dX1_putOnPages_81 : decode cX1_putOnPages 81 = .ok (.iadd, 1) := by decide +kernel
theorem dX1_putOnPages_82 : decode cX1_putOnPages 82 = .ok (.invokevirtual 71, 3) := by decide +kernel
theorem dX1_putOnPages_85 : decode cX1_putOnPages 85 = .ok (.invokevirtual 170, 3) := by decide +kernel
theorem dX1_putOnPages_88 : decode cX1_putOnPages 88 = .ok (.putfield 75, 3) := by decide +kernel
theorem dX1_putOnPages_91 : decode cX1_putOnPages 91 = .ok (.iinc 3 1, 3) := by decide +kernel
theorem dX1_putOnPages_94 : decode cX1_putOnPages 94 = .ok (.goto (-39), 3) := by decide +kernel
theorem dX1_putOnPages_97 : decode cX1_putOnPages 97 = .ok (.return_, 1) := by decide +kernel
theorem dX1_addFirstRow_0 : decode cX1_addFirstRow 0 = .ok (.aload_n 3, 1) := by decide +kernel
theorem dX1_addFirstRow_1 : decode cX1_addFirstRow 1 = .ok (.getfield 174, 3) := by decide +kernel
theorem dX1_addFirstRow_4 : decode cX1_addFirstRow 4 = .ok (.ifCond .eq 18, 3) := by decide +kernel
theorem dX1_addFirstRow_7 : decode cX1_addFirstRow 7 = .ok (.aload_n 0, 1) := by decide +kernel
theorem dX1_addFirstRow_8 : decode cX1_addFirstRow 8 = .ok (.aload_n 0, 1) := by decide +kernel
theorem dX1_addFirstRow_9 : decode cX1_addFirstRow 9 = .ok (.getfield 35, 3) := by decide +kernel
theorem dX1_addFirstRow_12 : decode cX1_addFirstRow 12 = .ok (.iconst 1, 1) := by decide +kernel
theorem dX1_addFirstRow_13 : decode cX1_addFirstRow 13 = .ok (.isub, 1) := by decide +kernel
theorem dX1_addFirstRow_14 : decode cX1_addFirstRow 14 = .ok (.invokevirtual 85, 3) := by decide +kernel
theorem dX1_addFirstRow_17 : decode cX1_addFirstRow 17 = .ok (.iconst 1, 1) := by decide +kernel
theorem dX1_addFirstRow_18 : decode cX1_addFirstRow 18 = .ok (.iadd, 1) := by decide +kernel
theorem dX1_addFirstRow_19 : decode cX1_addFirstRow 19 = .ok (.goto 14, 3) := by decide +kernel
theorem dX1_addFirstRow_22 : decode cX1_addFirstRow 22 = .ok (.aload_n 1, 1) := by decide +kernel
theorem dX1_addFirstRow_23 : decode cX1_addFirstRow 23 = .ok (.getfield 138, 3) := by decide +kernel
theorem dX1_addFirstRow_26 : decode cX1_addFirstRow 26 = .ok (.aload 4, 2) := by decide +kernel
theorem dX1_addFirstRow_28 : decode cX1_addFirstRow 28 = .ok (.iconst 2, 1) := by decide +kernel
theorem dX1_addFirstRow_29 : decode cX1_addFirstRow 29 = .ok (.invokevirtual 143, 3) := by decide +kernel
theorem dX1_addFirstRow_32 : decode cX1_addFirstRow 32 = .ok (.imul, 1) := by decide +kernel
theorem dX1_addFirstRow_33 : decode cX1_addFirstRow 33 = .ok (.istore 6, 2) := by decide +kernel
theorem dX1_addFirstRow_35 : decode cX1_addFirstRow 35 = .ok (.aload_n 0, 1) := by decide +kernel
theorem dX1_addFirstRow_36 : decode cX1_addFirstRow 36 = .ok (.iload_n 2, 1) := by decide +kernel
theorem dX1_addFirstRow_37 : decode cX1_addFirstRow 37 = .ok (.iload 6, 2) := by decide +kernel
theorem dX1_addFirstRow_39 : decode cX1_addFirstRow 39 = .ok (.iload 5, 2) := by decide +kernel
theorem dX1_addFirstRow_41 : decode cX1_addFirstRow 41 = .ok (.bipush 6, 2) := by decide +kernel
theorem dX1_addFirstRow_43 : decode cX1_addFirstRow 43 = .ok (.isub, 1) := by decide +kernel
theorem dX1_addFirstRow_44 : decode cX1_addFirstRow 44 = .ok (.invokestatic 150, 3) := by decide +kernel
theorem dX1_addFirstRow_47 : decode cX1_addFirstRow 47 = .ok (.iconst 0, 1) := by decide +kernel
theorem dX1_addFirstRow_48 : decode cX1_addFirstRow 48 = .ok (.invokevirtual 177, 3) := by decide +kernel
theorem dX1_addFirstRow_51 : decode cX1_addFirstRow 51 = .ok (.astore 7, 2) := by decide +kernel
theorem dX1_addFirstRow_53 : decode cX1_addFirstRow 53 = .ok (.aload 7, 2) := by decide +kernel
theorem dX1_addFirstRow_55 : decode cX1_addFirstRow 55 = .ok (.aload_n 3, 1) := by decide +kernel
theorem dX1_addFirstRow_56 : decode cX1_addFirstRow 56 = .ok (.getfield 174, 3) := by decide +kernel
theorem dX1_addFirstRow_59 : decode cX1_addFirstRow 59 = .ok (.ifCond .ne 19, 3) := by decide +kernel
theorem dX1_addFirstRow_62 : decode cX1_addFirstRow 62 = .ok (.aload_n 3, 1) := by decide +kernel
theorem dX1_addFirstRow_63 : decode cX1_addFirstRow 63 = .ok (.getfield 82, 3) := by decide +kernel
theorem dX1_addFirstRow_66 : decode cX1_addFirstRow 66 = .ok (.iconst 5, 1) := by decide +kernel
theorem dX1_addFirstRow_67 : decode cX1_addFirstRow 67 = .ok (.irem, 1) := by decide +kernel
theorem dX1_addFirstRow_68 : decode cX1_addFirstRow 68 = .ok (.ifCond .ne 10, 3) := by decide +kernel
theorem dX1_addFirstRow_71 : decode cX1_addFirstRow 71 = .ok (.aload_n 3, 1) := by decide +kernel
theorem dX1_addFirstRow_72 : decode cX1_addFirstRow 72 = .ok (.getfield 82, 3) := by decide +kernel
theorem dX1_addFirstRow_75 : decode cX1_addFirstRow 75 = .ok (.goto 4, 3) := by decide +kernel
theorem dX1_addFirstRow_78 : decode cX1_addFirstRow 78 = .ok (.iconst 0, 1) := by decide +kernel
theorem dX1_addFirstRow_79 : decode cX1_addFirstRow 79 = .ok (.putfield 181, 3) := by decide +kernel
theorem dX1_addFirstRow_82 : decode cX1_addFirstRow 82 = .ok (.aload 7, 2) := by decide +kernel
theorem dX1_addFirstRow_84 : decode cX1_addFirstRow 84 = .ok (.areturn, 1) := by decide +kernel
theorem dX1_putWords_0 : decode cX1_putWords 0 = .ok (.aload_n 2, 1) := by decide +kernel
theorem dX1_putWords_1 : decode cX1_putWords 1 = .ok (.astore 5, 2) := by decide +kernel
theorem dX1_putWords_3 : decode cX1_putWords 3 = .ok (.iconst 0, 1) := by decide +kernel
theorem dX1_putWords_4 : decode cX1_putWords 4 = .ok (.istore 6, 2) := by decide +kernel
theorem dX1_putWords_6 : decode cX1_putWords 6 = .ok (.iconst 0, 1) := by decide +kernel
theorem dX1_putWords_7 : decode cX1_putWords 7 = .ok (.istore 7, 2) := by decide +kernel
theorem dX1_putWords_9 : decode cX1_putWords 9 = .ok (.iload 7, 2) := by decide +kernel
theorem dX1_putWords_11 : decode cX1_putWords 11 = .ok (.aload_n 1, 1) := by decide +kernel
theorem dX1_putWords_12 : decode cX1_putWords 12 = .ok (.getfield 184, 3) := by decide +kernel
theorem dX1_putWords_15 : decode cX1_putWords 15 = .ok (.if_icmp .ge 101, 3) := by decide +kernel
theorem dX1_putWords_18 : decode cX1_putWords 18 = .ok (.aload_n 1, 1) := by decide +kernel
theorem dX1_putWords_19 : decode cX1_putWords 19 = .ok (.iload 7, 2) := by decide +kernel
theorem dX1_putWords_21 : decode cX1_putWords 21 = .ok (.invokevirtual 187, 3) := by decide +kernel
theorem dX1_putWords_24 : decode cX1_putWords 24 = .ok (.istore 8, 2) := by decide +kernel
theorem dX1_putWords_26 : decode cX1_putWords 26 = .ok (.aload 5, 2) := by decide +kernel
theorem dX1_putWords_28 : decode cX1_putWords 28 = .ok (.getfield 190, 3) := by decide +kernel
theorem dX1_putWords_31 : decode cX1_putWords 31 = .ok (.ifCond .le 35, 3) := by decide +kernel
theorem dX1_putWords_34 : decode cX1_putWords 34 = .ok (.aload 5, 2) := by decide +kernel
theorem dX1_putWords_36 : decode cX1_putWords 36 = .ok (.invokevirtual 193, 3) := by decide +kernel
theorem dX1_putWords_39 : decode cX1_putWords 39 = .ok (.iconst 1, 1) := by decide +kernel
theorem dX1_putWords_40 : decode cX1_putWords 40 = .ok (.iadd, 1) := by decide +kernel
theorem dX1_putWords_41 : decode cX1_putWords 41 = .ok (.iload 8, 2) := by decide +kernel
theorem dX1_putWords_43 : decode cX1_putWords 43 = .ok (.iadd, 1) := by decide +kernel
theorem dX1_putWords_44 : decode cX1_putWords 44 = .ok (.iload 4, 2) := by decide +kernel
theorem dX1_putWords_46 : decode cX1_putWords 46 = .ok (.if_icmp .gt 20, 3) := by decide +kernel
theorem dX1_putWords_49 : decode cX1_putWords 49 = .ok (.aload 5, 2) := by decide +kernel
theorem dX1_putWords_51 : decode cX1_putWords 51 = .ok (.dup, 1) := by decide +kernel
theorem dX1_putWords_52 : decode cX1_putWords 52 = .ok (.getfield 190, 3) := by decide +kernel
theorem dX1_putWords_55 : decode cX1_putWords 55 = .ok (.iconst 1, 1) := by decide +kernel
theorem dX1_putWords_56 : decode cX1_putWords 56 = .ok (.iload 8, 2) := by decide +kernel
theorem dX1_putWords_58 : decode cX1_putWords 58 = .ok (.iadd, 1) := by decide +kernel
theorem dX1_putWords_59 : decode cX1_putWords 59 = .ok (.iadd, 1) := by decide +kernel
theorem dX1_putWords_60 : decode cX1_putWords 60 = .ok (.putfield 190, 3) := by decide +kernel
theorem dX1_putWords_63 : decode cX1_putWords 63 = .ok (.goto 38, 3) := by decide +kernel
theorem dX1_putWords_66 : decode cX1_putWords 66 = .ok (.aload 5, 2) := by decide +kernel
theorem dX1_putWords_68 : decode cX1_putWords 68 = .ok (.getfield 190, 3) := by decide +kernel
theorem dX1_putWords_71 : decode cX1_putWords 71 = .ok (.ifCond .le 17, 3) := by decide +kernel
theorem dX1_putWords_74 : decode cX1_putWords 74 = .ok (.aload_n 0, 1) := by decide +kernel
theorem dX1_putWords_75 : decode cX1_putWords 75 = .ok (.aload 5, 2) := by decide +kernel
theorem dX1_putWords_77 : decode cX1_putWords 77 = .ok (.getfield 197, 3) := by decide +kernel
theorem dX1_putWords_80 : decode cX1_putWords 80 = .ok (.iload_n 3, 1) := by decide +kernel
theorem dX1_putWords_81 : decode cX1_putWords 81 = .ok (.iload 6, 2) := by decide +kernel
theorem dX1_putWords_83 : decode cX1_putWords 83 = .ok (.invokevirtual 177, 3) := by decide +kernel
theorem dX1_putWords_86 : decode cX1_putWords 86 = .ok (.astore 5, 2) := by decide +kernel
theorem dX1_putWords_88 : decode cX1_putWords 88 = .ok (.aload_n 0, 1) := by decide +kernel
theorem dX1_putWords_89 : decode cX1_putWords 89 = .ok (.iload 8, 2) := by decide +kernel
theorem dX1_putWords_91 : decode cX1_putWords 91 = .ok (.aload 5, 2) := by decide +kernel
theorem dX1_putWords_93 : decode cX1_putWords 93 = .ok (.iload_n 3, 1) := by decide +kernel
theorem dX1_putWords_94 : decode cX1_putWords 94 = .ok (.iload 4, 2) := by decide +kernel
theorem dX1_putWords_96 : decode cX1_putWords 96 = .ok (.invokevirtual 200, 3) := by decide +kernel
theorem dX1_putWords_99 : decode cX1_putWords 99 = .ok (.astore 5, 2) := by decide +kernel
theorem dX1_putWords_101 : decode cX1_putWords 101 = .ok (.iload 6, 2) := by decide +kernel
theorem dX1_putWords_103 : decode cX1_putWords 103 = .ok (.iload 8, 2) := by decide +kernel
theorem dX1_putWords_105 : decode cX1_putWords 105 = .ok (.iconst 1, 1) := by decide +kernel
theorem dX1_putWords_106 : decode cX1_putWords 106 = .ok (.iadd, 1) := by decide +kernel
theorem dX1_putWords_107 : decode cX1_putWords 107 = .ok (.iadd, 1) := by decide +kernel
theorem dX1_putWords_108 : decode cX1_putWords 108 = .ok (.istore 6, 2) := by decide +kernel
theorem dX1_putWords_110 : decode cX1_putWords 110 = .ok (.iinc 7 1, 3) := by decide +kernel
theorem dX1_putWords_113 : decode cX1_putWords 113 = .ok (.goto (-104), 3) := by decide +kernel
theorem dX1_putWords_116 : decode cX1_putWords 116 = .ok (.return_, 1) := by decide +kernel
theorem dX1_putWord_0 : decode cX1_putWord 0 = .ok (.aload_n 2, 1) := by decide +kernel
theorem dX1_putWord_1 : decode cX1_putWord 1 = .ok (.astore 5, 2) := by decide +kernel
theorem dX1_putWord_3 : decode cX1_putWord 3 = .ok (.iload_n 1, 1) := by decide +kernel
theorem dX1_putWord_4 : decode cX1_putWord 4 = .ok (.istore 6, 2) := by decide +kernel
theorem dX1_putWord_6 : decode cX1_putWord 6 = .ok (.iconst 0, 1) := by decide +kernel
theorem dX1_putWord_7 : decode cX1_putWord 7 = .ok (.istore 7, 2) := by decide +kernel
theorem dX1_putWord_9 : decode cX1_putWord 9 = .ok (.iload 7, 2) := by decide +kernel
theorem dX1_putWord_11 : decode cX1_putWord 11 = .ok (.bipush 16, 2) := by decide +kernel
theorem dX1_putWord_13 : decode cX1_putWord 13 = .ok (.if_icmp .ge 74, 3) := by decide +kernel
theorem dX1_putWord_16 : decode cX1_putWord 16 = .ok (.iload 6, 2) := by decide +kernel
theorem dX1_putWord_18 : decode cX1_putWord 18 = .ok (.iload 4, 2) := by decide +kernel
theorem dX1_putWord_20 : decode cX1_putWord 20 = .ok (.aload 5, 2) := by decide +kernel
theorem dX1_putWord_22 : decode cX1_putWord 22 = .ok (.getfield 204, 3) := by decide +kernel
theorem dX1_putWord_25 : decode cX1_putWord 25 = .ok (.isub, 1) := by decide +kernel
theorem dX1_putWord_26 : decode cX1_putWord 26 = .ok (.if_icmp .le 61, 3) := by decide +kernel
theorem dX1_putWord_29 : decode cX1_putWord 29 = .ok (.aload 5, 2) := by decide +kernel
theorem dX1_putWord_31 : decode cX1_putWord 31 = .ok (.iload 4, 2) := by decide +kernel
theorem dX1_putWord_33 : decode cX1_putWord 33 = .ok (.aload 5, 2) := by decide +kernel
theorem dX1_putWord_35 : decode cX1_putWord 35 = .ok (.getfield 204, 3) := by decide +kernel
theorem dX1_putWord_38 : decode cX1_putWord 38 = .ok (.isub, 1) := by decide +kernel
theorem dX1_putWord_39 : decode cX1_putWord 39 = .ok (.putfield 190, 3) := by decide +kernel
theorem dX1_putWord_42 : decode cX1_putWord 42 = .ok (.iload 6, 2) := by decide +kernel
theorem dX1_putWord_44 : decode cX1_putWord 44 = .ok (.aload 5, 2) := by decide +kernel
theorem dX1_putWord_46 : decode cX1_putWord 46 = .ok (.getfield 190, 3) := by decide +kernel
theorem dX1_putWord_49 : decode cX1_putWord 49 = .ok (.isub, 1) := by decide +kernel
theorem dX1_putWord_50 : decode cX1_putWord 50 = .ok (.istore 6, 2) := by decide +kernel
theorem dX1_putWord_52 : decode cX1_putWord 52 = .ok (.aload_n 0, 1) := by decide +kernel
theorem dX1_putWord_53 : decode cX1_putWord 53 = .ok (.aload 5, 2) := by decide +kernel
theorem dX1_putWord_55 : decode cX1_putWord 55 = .ok (.getfield 197, 3) := by decide +kernel
theorem dX1_putWord_58 : decode cX1_putWord 58 = .ok (.iload_n 3, 1) := by decide +kernel
theorem dX1_putWord_59 : decode cX1_putWord 59 = .ok (.aload 5, 2) := by decide +kernel
theorem dX1_putWord_61 : decode cX1_putWord 61 = .ok (.getfield 207, 3) := by decide +kernel
theorem dX1_putWord_64 : decode cX1_putWord 64 = .ok (.aload 5, 2) := by decide +kernel
theorem dX1_putWord_66 : decode cX1_putWord 66 = .ok (.getfield 190, 3) := by decide +kernel
theorem dX1_putWord_69 : decode cX1_putWord 69 = .ok (.iadd, 1) := by decide +kernel
theorem dX1_putWord_70 : decode cX1_putWord 70 = .ok (.invokevirtual 177, 3) := by decide +kernel
theorem dX1_putWord_73 : decode cX1_putWord 73 = .ok (.astore 5, 2) := by decide +kernel
theorem dX1_putWord_75 : decode cX1_putWord 75 = .ok (.aload 5, 2) := by decide +kernel
theorem dX1_putWord_77 : decode cX1_putWord 77 = .ok (.iconst 1, 1) := by decide +kernel
theorem dX1_putWord_78 : decode cX1_putWord 78 = .ok (.putfield 63, 3) := by decide +kernel
theorem dX1_putWord_81 : decode cX1_putWord 81 = .ok (.iinc 7 1, 3) := by decide +kernel
theorem dX1_putWord_84 : decode cX1_putWord 84 = .ok (.goto (-75), 3) := by decide +kernel
theorem dX1_putWord_87 : decode cX1_putWord 87 = .ok (.aload 5, 2) := by decide +kernel
theorem dX1_putWord_89 : decode cX1_putWord 89 = .ok (.iload 6, 2) := by decide +kernel
theorem dX1_putWord_91 : decode cX1_putWord 91 = .ok (.putfield 190, 3) := by decide +kernel
theorem dX1_putWord_94 : decode cX1_putWord 94 = .ok (.aload 5, 2) := by decide +kernel
theorem dX1_putWord_96 : decode cX1_putWord 96 = .ok (.areturn, 1) := by decide +kernel
theorem dX1_passOver_0 : decode cX1_passOver 0 = .ok (.aload_n 0, 1) := by decide +kernel
theorem dX1_passOver_1 : decode cX1_passOver 1 = .ok (.aload_n 1, 1) := by decide +kernel
theorem dX1_passOver_2 : decode cX1_passOver 2 = .ok (.getfield 127, 3) := by decide +kernel
theorem dX1_passOver_5 : decode cX1_passOver 5 = .ok (.invokevirtual 78, 3) := by decide +kernel
theorem dX1_passOver_8 : decode cX1_passOver 8 = .ok (.astore 4, 2) := by decide +kernel
theorem dX1_passOver_10 : decode cX1_passOver 10 = .ok (.aload_n 0, 1) := by decide +kernel
theorem dX1_passOver_11 : decode cX1_passOver 11 = .ok (.getfield 42, 3) := by decide +kernel
theorem dX1_passOver_14 : decode cX1_passOver 14 = .ok (.ifCond .eq 8, 3) := by decide +kernel
theorem dX1_passOver_17 : decode cX1_passOver 17 = .ok (.aload 4, 2) := by decide +kernel
theorem dX1_passOver_19 : decode cX1_passOver 19 = .ok (.ifnonnull 4, 3) := by decide +kernel
theorem dX1_passOver_22 : decode cX1_passOver 22 = .ok (.return_, 1) := by decide +kernel
theorem dX1_passOver_23 : decode cX1_passOver 23 = .ok (.iload_n 2, 1) := by decide +kernel
theorem dX1_passOver_24 : decode cX1_passOver 24 = .ok (.aload_n 0, 1) := by decide +kernel
theorem dX1_passOver_25 : decode cX1_passOver 25 = .ok (.getfield 48, 3) := by decide +kernel
theorem dX1_passOver_28 : decode cX1_passOver 28 = .ok (.isub, 1) := by decide +kernel
theorem dX1_passOver_29 : decode cX1_passOver 29 = .ok (.iconst 1, 1) := by decide +kernel
theorem dX1_passOver_30 : decode cX1_passOver 30 = .ok (.isub, 1) := by decide +kernel
theorem dX1_passOver_31 : decode cX1_passOver 31 = .ok (.istore 5, 2) := by decide +kernel
theorem dX1_passOver_33 : decode cX1_passOver 33 = .ok (.aload_n 1, 1) := by decide +kernel
theorem dX1_passOver_34 : decode cX1_passOver 34 = .ok (.getfield 96, 3) := by decide +kernel
theorem dX1_passOver_37 : decode cX1_passOver 37 = .ok (.iload_n 3, 1) := by decide +kernel
theorem dX1_passOver_38 : decode cX1_passOver 38 = .ok (.if_icmp .gt 15, 3) := by decide +kernel
theorem dX1_passOver_41 : decode cX1_passOver 41 = .ok (.aload_n 1, 1) := by decide +kernel
theorem dX1_passOver_42 : decode cX1_passOver 42 = .ok (.getfield 96, 3) := by decide +kernel
theorem dX1_passOver_45 : decode cX1_passOver 45 = .ok (.iload_n 2, 1) := by decide +kernel
theorem dX1_passOver_46 : decode cX1_passOver 46 = .ok (.if_icmp .gt 7, 3) := by decide +kernel
theorem dX1_passOver_49 : decode cX1_passOver 49 = .ok (.iconst 1, 1) := by decide +kernel
theorem dX1_passOver_50 : decode cX1_passOver 50 = .ok (.goto 4, 3) := by decide +kernel
theorem dX1_passOver_53 : decode cX1_passOver 53 = .ok (.iconst 0, 1) := by decide +kernel
theorem dX1_passOver_54 : decode cX1_passOver 54 = .ok (.istore 6, 2) := by decide +kernel
theorem dX1_passOver_56 : decode cX1_passOver 56 = .ok (.iload 5, 2) := by decide +kernel
theorem dX1_passOver_58 : decode cX1_passOver 58 = .ok (.aload 4, 2) := by decide +kernel
theorem dX1_passOver_60 : decode cX1_passOver 60 = .ok (.getfield 158, 3) := by decide +kernel
theorem dX1_passOver_63 : decode cX1_passOver 63 = .ok (.if_icmp .lt 17, 3) := by decide +kernel
theorem dX1_passOver_66 : decode cX1_passOver 66 = .ok (.iload 6, 2) := by decide +kernel
theorem dX1_passOver_68 : decode cX1_passOver 68 = .ok (.ifCond .eq 20, 3) := by decide +kernel
theorem dX1_passOver_71 : decode cX1_passOver 71 = .ok (.iload 5, 2) := by decide +kernel
theorem dX1_passOver_73 : decode cX1_passOver 73 = .ok (.aload_n 1, 1) := by decide +kernel
theorem dX1_passOver_74 : decode cX1_passOver 74 = .ok (.getfield 96, 3) := by decide +kernel
theorem dX1_passOver_77 : decode cX1_passOver 77 = .ok (.if_icmp .ge 11, 3) := by decide +kernel
theorem dX1_passOver_80 : decode cX1_passOver 80 = .ok (.aload_n 0, 1) := by decide +kernel
theorem dX1_passOver_81 : decode cX1_passOver 81 = .ok (.iload_n 2, 1) := by decide +kernel
theorem dX1_passOver_82 : decode cX1_passOver 82 = .ok (.invokevirtual 210, 3) := by decide +kernel
theorem dX1_passOver_85 : decode cX1_passOver 85 = .ok (.goto 13, 3) := by decide +kernel
theorem dX1_passOver_88 : decode cX1_passOver 88 = .ok (.aload_n 0, 1) := by decide +kernel
theorem dX1_passOver_89 : decode cX1_passOver 89 = .ok (.dup, 1) := by decide +kernel
theorem dX1_passOver_90 : decode cX1_passOver 90 = .ok (.getfield 48, 3) := by decide +kernel
theorem dX1_passOver_93 : decode cX1_passOver 93 = .ok (.iconst 1, 1) := by decide +kernel
theorem dX1_passOver_94 : decode cX1_passOver 94 = .ok (.iadd, 1) := by decide +kernel
theorem dX1_passOver_95 : decode cX1_passOver 95 = .ok (.putfield 48, 3) := by decide +kernel
theorem dX1_passOver_98 : decode cX1_passOver 98 = .ok (.return_, 1) := by decide +kernel
theorem dX1_putStanza_0 : decode cX1_putStanza 0 = .ok (.aload_n 1, 1) := by decide +kernel
theorem dX1_putStanza_1 : decode cX1_putStanza 1 = .ok (.getfield 95, 3) := by decide +kernel
theorem dX1_putStanza_4 : decode cX1_putStanza 4 = .ok (.istore_n 3, 1) := by decide +kernel
theorem dX1_putStanza_5 : decode cX1_putStanza 5 = .ok (.iload_n 3, 1) := by decide +kernel
theorem dX1_putStanza_6 : decode cX1_putStanza 6 = .ok (.aload_n 1, 1) := by decide +kernel
theorem dX1_putStanza_7 : decode cX1_putStanza 7 = .ok (.getfield 95, 3) := by decide +kernel
theorem dX1_putStanza_10 : decode cX1_putStanza 10 = .ok (.aload_n 1, 1) := by decide +kernel
theorem dX1_putStanza_11 : decode cX1_putStanza 11 = .ok (.getfield 96, 3) := by decide +kernel
theorem dX1_putStanza_14 : decode cX1_putStanza 14 = .ok (.iadd, 1) := by decide +kernel
theorem dX1_putStanza_15 : decode cX1_putStanza 15 = .ok (.if_icmp .ge 96, 3) := by decide +kernel
theorem dX1_putStanza_18 : decode cX1_putStanza 18 = .ok (.aload_n 0, 1) := by decide +kernel
theorem dX1_putStanza_19 : decode cX1_putStanza 19 = .ok (.iload_n 3, 1) := by decide +kernel
theorem dX1_putStanza_20 : decode cX1_putStanza 20 = .ok (.invokevirtual 56, 3) := by decide +kernel
theorem dX1_putStanza_23 : decode cX1_putStanza 23 = .ok (.astore 4, 2) := by decide +kernel
theorem dX1_putStanza_25 : decode cX1_putStanza 25 = .ok (.aload 4, 2) := by decide +kernel
theorem dX1_putStanza_27 : decode cX1_putStanza 27 = .ok (.ifnonnull 7, 3) := by decide +kernel
theorem dX1_putStanza_30 : decode cX1_putStanza 30 = .ok (.aconst_null, 1) := by decide +kernel
theorem dX1_putStanza_31 : decode cX1_putStanza 31 = .ok (.goto 12, 3) := by decide +kernel
theorem dX1_putStanza_34 : decode cX1_putStanza 34 = .ok (.aload_n 0, 1) := by decide +kernel
theorem dX1_putStanza_35 : decode cX1_putStanza 35 = .ok (.aload 4, 2) := by decide +kernel
theorem dX1_putStanza_37 : decode cX1_putStanza 37 = .ok (.getfield 197, 3) := by decide +kernel
theorem dX1_putStanza_40 : decode cX1_putStanza 40 = .ok (.invokevirtual 78, 3) := by decide +kernel
theorem dX1_putStanza_43 : decode cX1_putStanza 43 = .ok (.astore 5, 2) := by decide +kernel
theorem dX1_putStanza_45 : decode cX1_putStanza 45 = .ok (.aload 5, 2) := by decide +kernel
theorem dX1_putStanza_47 : decode cX1_putStanza 47 = .ok (.ifnull 58, 3) := by decide +kernel
theorem dX1_putStanza_50 : decode cX1_putStanza 50 = .ok (.aload 4, 2) := by decide +kernel
theorem dX1_putStanza_52 : decode cX1_putStanza 52 = .ok (.getfield 214, 3) := by decide +kernel
theorem dX1_putStanza_55 : decode cX1_putStanza 55 = .ok (.ifCond .ne 15, 3) := by decide +kernel
theorem dX1_putStanza_58 : decode cX1_putStanza 58 = .ok (.iload_n 3, 1) := by decide +kernel
theorem dX1_putStanza_59 : decode cX1_putStanza 59 = .ok (.aload_n 1, 1) := by decide +kernel
theorem dX1_putStanza_60 : decode cX1_putStanza 60 = .ok (.getfield 95, 3) := by decide +kernel
theorem dX1_putStanza_63 : decode cX1_putStanza 63 = .ok (.if_icmp .le 7, 3) := by decide +kernel
theorem dX1_putStanza_66 : decode cX1_putStanza 66 = .ok (.iconst 1, 1) := by decide +kernel
theorem dX1_putStanza_67 : decode cX1_putStanza 67 = .ok (.goto 4, 3) := by decide +kernel
theorem dX1_putStanza_70 : decode cX1_putStanza 70 = .ok (.iconst 0, 1) := by decide +kernel
theorem dX1_putStanza_71 : decode cX1_putStanza 71 = .ok (.istore 6, 2) := by decide +kernel
theorem dX1_putStanza_73 : decode cX1_putStanza 73 = .ok (.iload 6, 2) := by decide +kernel
theorem dX1_putStanza_75 : decode cX1_putStanza 75 = .ok (.ifCond .eq 22, 3) := by decide +kernel
theorem dX1_putStanza_78 : decode cX1_putStanza 78 = .ok (.iload_n 2, 1) := by decide +kernel
theorem dX1_putStanza_79 : decode cX1_putStanza 79 = .ok (.aload_n 0, 1) := by decide +kernel
theorem dX1_putStanza_80 : decode cX1_putStanza 80 = .ok (.getfield 48, 3) := by decide +kernel
theorem dX1_putStanza_83 : decode cX1_putStanza 83 = .ok (.isub, 1) := by decide +kernel
theorem dX1_putStanza_84 : decode cX1_putStanza 84 = .ok (.aload 5, 2) := by decide +kernel
theorem dX1_putStanza_86 : decode cX1_putStanza 86 = .ok (.getfield 158, 3) := by decide +kernel
theorem dX1_putStanza_89 : decode cX1_putStanza 89 = .ok (.if_icmp .ge 8, 3) := by decide +kernel
theorem dX1_putStanza_92 : decode cX1_putStanza 92 = .ok (.aload_n 0, 1) := by decide +kernel
theorem dX1_putStanza_93 : decode cX1_putStanza 93 = .ok (.iload_n 2, 1) := by decide +kernel
theorem dX1_putStanza_94 : decode cX1_putStanza 94 = .ok (.invokevirtual 210, 3) := by decide +kernel
theorem dX1_putStanza_97 : decode cX1_putStanza 97 = .ok (.aload_n 0, 1) := by decide +kernel
theorem dX1_putStanza_98 : decode cX1_putStanza 98 = .ok (.aload 4, 2) := by decide +kernel
theorem dX1_putStanza_100 : decode cX1_putStanza 100 = .ok (.iload_n 3, 1) := by decide +kernel
theorem dX1_putStanza_101 : decode cX1_putStanza 101 = .ok (.iload_n 2, 1) := by decide +kernel
theorem dX1_putStanza_102 : decode cX1_putStanza 102 = .ok (.invokevirtual 217, 3) := by decide +kernel
theorem dX1_putStanza_105 : decode cX1_putStanza 105 = .ok (.iinc 3 1, 3) := by decide +kernel
theorem dX1_putStanza_108 : decode cX1_putStanza 108 = .ok (.goto (-103), 3) := by decide +kernel
theorem dX1_putStanza_111 : decode cX1_putStanza 111 = .ok (.return_, 1) := by decide +kernel
theorem dX1_putRow_0 : decode cX1_putRow 0 = .ok (.aload_n 0, 1) := by decide +kernel
theorem dX1_putRow_1 : decode cX1_putRow 1 = .ok (.getfield 48, 3) := by decide +kernel
theorem dX1_putRow_4 : decode cX1_putRow 4 = .ok (.iload_n 3, 1) := by decide +kernel
theorem dX1_putRow_5 : decode cX1_putRow 5 = .ok (.if_icmp .ge 16, 3) := by decide +kernel
theorem dX1_putRow_8 : decode cX1_putRow 8 = .ok (.aload_n 0, 1) := by decide +kernel
theorem dX1_putRow_9 : decode cX1_putRow 9 = .ok (.aload_n 0, 1) := by decide +kernel
theorem dX1_putRow_10 : decode cX1_putRow 10 = .ok (.getfield 42, 3) := by decide +kernel
theorem dX1_putRow_13 : decode cX1_putRow 13 = .ok (.iconst 1, 1) := by decide +kernel
theorem dX1_putRow_14 : decode cX1_putRow 14 = .ok (.isub, 1) := by decide +kernel
theorem dX1_putRow_15 : decode cX1_putRow 15 = .ok (.invokevirtual 71, 3) := by decide +kernel
theorem dX1_putRow_18 : decode cX1_putRow 18 = .ok (.goto 4, 3) := by decide +kernel
theorem dX1_putRow_21 : decode cX1_putRow 21 = .ok (.aconst_null, 1) := by decide +kernel
theorem dX1_putRow_22 : decode cX1_putRow 22 = .ok (.astore 4, 2) := by decide +kernel
theorem dX1_putRow_24 : decode cX1_putRow 24 = .ok (.aload 4, 2) := by decide +kernel
theorem dX1_putRow_26 : decode cX1_putRow 26 = .ok (.ifnonnull 15, 3) := by decide +kernel
theorem dX1_putRow_29 : decode cX1_putRow 29 = .ok (.aload_n 0, 1) := by decide +kernel
theorem dX1_putRow_30 : decode cX1_putRow 30 = .ok (.iload_n 2, 1) := by decide +kernel
theorem dX1_putRow_31 : decode cX1_putRow 31 = .ok (.invokevirtual 221, 3) := by decide +kernel
theorem dX1_putRow_34 : decode cX1_putRow 34 = .ok (.astore 4, 2) := by decide +kernel
theorem dX1_putRow_36 : decode cX1_putRow 36 = .ok (.aload_n 0, 1) := by decide +kernel
theorem dX1_putRow_37 : decode cX1_putRow 37 = .ok (.iconst 0, 1) := by decide +kernel
theorem dX1_putRow_38 : decode cX1_putRow 38 = .ok (.putfield 48, 3) := by decide +kernel
theorem dX1_putRow_41 : decode cX1_putRow 41 = .ok (.aload_n 1, 1) := by decide +kernel
theorem dX1_putRow_42 : decode cX1_putRow 42 = .ok (.aload_n 0, 1) := by decide +kernel
theorem dX1_putRow_43 : decode cX1_putRow 43 = .ok (.getfield 42, 3) := by decide +kernel
theorem dX1_putRow_46 : decode cX1_putRow 46 = .ok (.iconst 1, 1) := by decide +kernel
theorem dX1_putRow_47 : decode cX1_putRow 47 = .ok (.isub, 1) := by decide +kernel
theorem dX1_putRow_48 : decode cX1_putRow 48 = .ok (.putfield 224, 3) := by decide +kernel
theorem dX1_putRow_51 : decode cX1_putRow 51 = .ok (.aload_n 1, 1) := by decide +kernel
theorem dX1_putRow_52 : decode cX1_putRow 52 = .ok (.aload_n 0, 1) := by decide +kernel
theorem dX1_putRow_53 : decode cX1_putRow 53 = .ok (.getfield 48, 3) := by decide +kernel
theorem dX1_putRow_56 : decode cX1_putRow 56 = .ok (.putfield 60, 3) := by decide +kernel
theorem dX1_putRow_59 : decode cX1_putRow 59 = .ok (.aload_n 0, 1) := by decide +kernel
theorem dX1_putRow_60 : decode cX1_putRow 60 = .ok (.dup, 1) := by decide +kernel
theorem dX1_putRow_61 : decode cX1_putRow 61 = .ok (.getfield 48, 3) := by decide +kernel
theorem dX1_putRow_64 : decode cX1_putRow 64 = .ok (.iconst 1, 1) := by decide +kernel
theorem dX1_putRow_65 : decode cX1_putRow 65 = .ok (.iadd, 1) := by decide +kernel
theorem dX1_putRow_66 : decode cX1_putRow 66 = .ok (.putfield 48, 3) := by decide +kernel
theorem dX1_putRow_69 : decode cX1_putRow 69 = .ok (.aload 4, 2) := by decide +kernel
theorem dX1_putRow_71 : decode cX1_putRow 71 = .ok (.dup, 1) := by decide +kernel
theorem dX1_putRow_72 : decode cX1_putRow 72 = .ok (.getfield 54, 3) := by decide +kernel
theorem dX1_putRow_75 : decode cX1_putRow 75 = .ok (.iconst 1, 1) := by decide +kernel
theorem dX1_putRow_76 : decode cX1_putRow 76 = .ok (.iadd, 1) := by decide +kernel
theorem dX1_putRow_77 : decode cX1_putRow 77 = .ok (.putfield 54, 3) := by decide +kernel
theorem dX1_putRow_80 : decode cX1_putRow 80 = .ok (.aload 4, 2) := by decide +kernel
theorem dX1_putRow_82 : decode cX1_putRow 82 = .ok (.aload_n 0, 1) := by decide +kernel
theorem dX1_putRow_83 : decode cX1_putRow 83 = .ok (.getfield 48, 3) := by decide +kernel
theorem dX1_putRow_86 : decode cX1_putRow 86 = .ok (.putfield 227, 3) := by decide +kernel
theorem dX1_putRow_89 : decode cX1_putRow 89 = .ok (.aload 4, 2) := by decide +kernel
theorem dX1_putRow_91 : decode cX1_putRow 91 = .ok (.dup, 1) := by decide +kernel
theorem dX1_putRow_92 : decode cX1_putRow 92 = .ok (.getfield 230, 3) := by decide +kernel
theorem dX1_putRow_95 : decode cX1_putRow 95 = .ok (.aload_n 1, 1) := by decide +kernel
theorem dX1_putRow_96 : decode cX1_putRow 96 = .ok (.getfield 214, 3) := by decide +kernel
theorem dX1_putRow_99 : decode cX1_putRow 99 = .ok (.ifCond .ne 7, 3) := by decide +kernel
theorem dX1_putRow_102 : decode cX1_putRow 102 = .ok (.iconst 1, 1) := by decide +kernel
theorem dX1_putRow_103 : decode cX1_putRow 103 = .ok (.goto 4, 3) := by decide +kernel
theorem dX1_putRow_106 : decode cX1_putRow 106 = .ok (.iconst 0, 1) := by decide +kernel
theorem dX1_putRow_107 : decode cX1_putRow 107 = .ok (.invokestatic 67, 3) := by decide +kernel
theorem dX1_putRow_110 : decode cX1_putRow 110 = .ok (.iadd, 1) := by decide +kernel
theorem dX1_putRow_111 : decode cX1_putRow 111 = .ok (.putfield 230, 3) := by decide +kernel
theorem dX1_putRow_114 : decode cX1_putRow 114 = .ok (.return_, 1) := by decide +kernel
theorem dX1_closePage_0 : decode cX1_closePage 0 = .ok (.aload_n 0, 1) := by decide +kernel
theorem dX1_closePage_1 : decode cX1_closePage 1 = .ok (.iload_n 1, 1) := by decide +kernel
theorem dX1_closePage_2 : decode cX1_closePage 2 = .ok (.putfield 48, 3) := by decide +kernel
theorem dX1_closePage_5 : decode cX1_closePage 5 = .ok (.return_, 1) := by decide +kernel
theorem dX1_beginsWithStanza_0 : decode cX1_beginsWithStanza 0 = .ok (.aload_n 1, 1) := by decide +kernel
theorem dX1_beginsWithStanza_1 : decode cX1_beginsWithStanza 1 = .ok (.ifnonnull 5, 3) := by decide +kernel
theorem dX1_beginsWithStanza_4 : decode cX1_beginsWithStanza 4 = .ok (.iconst 0, 1) := by decide +kernel
theorem dX1_beginsWithStanza_5 : decode cX1_beginsWithStanza 5 = .ok (.ireturn, 1) := by decide +kernel
theorem dX1_beginsWithStanza_6 : decode cX1_beginsWithStanza 6 = .ok (.aload_n 0, 1) := by decide +kernel
theorem dX1_beginsWithStanza_7 : decode cX1_beginsWithStanza 7 = .ok (.aload_n 1, 1) := by decide +kernel
theorem dX1_beginsWithStanza_8 : decode cX1_beginsWithStanza 8 = .ok (.getfield 51, 3) := by decide +kernel
theorem dX1_beginsWithStanza_11 : decode cX1_beginsWithStanza 11 = .ok (.invokevirtual 56, 3) := by decide +kernel
theorem dX1_beginsWithStanza_14 : decode cX1_beginsWithStanza 14 = .ok (.astore_n 2, 1) := by decide +kernel
theorem dX1_beginsWithStanza_15 : decode cX1_beginsWithStanza 15 = .ok (.aload_n 2, 1) := by decide +kernel
theorem dX1_beginsWithStanza_16 : decode cX1_beginsWithStanza 16 = .ok (.ifnonnull 7, 3) := by decide +kernel
theorem dX1_beginsWithStanza_19 : decode cX1_beginsWithStanza 19 = .ok (.aconst_null, 1) := by decide +kernel
theorem dX1_beginsWithStanza_20 : decode cX1_beginsWithStanza 20 = .ok (.goto 11, 3) := by decide +kernel
theorem dX1_beginsWithStanza_23 : decode cX1_beginsWithStanza 23 = .ok (.aload_n 0, 1) := by decide +kernel
theorem dX1_beginsWithStanza_24 : decode cX1_beginsWithStanza 24 = .ok (.aload_n 2, 1) := by decide +kernel
theorem dX1_beginsWithStanza_25 : decode cX1_beginsWithStanza 25 = .ok (.getfield 197, 3) := by decide +kernel
theorem dX1_beginsWithStanza_28 : decode cX1_beginsWithStanza 28 = .ok (.invokevirtual 78, 3) := by decide +kernel
theorem dX1_beginsWithStanza_31 : decode cX1_beginsWithStanza 31 = .ok (.astore_n 3, 1) := by decide +kernel
theorem dX1_beginsWithStanza_32 : decode cX1_beginsWithStanza 32 = .ok (.aload_n 3, 1) := by decide +kernel
theorem dX1_beginsWithStanza_33 : decode cX1_beginsWithStanza 33 = .ok (.ifnonnull 7, 3) := by decide +kernel
theorem dX1_beginsWithStanza_36 : decode cX1_beginsWithStanza 36 = .ok (.aconst_null, 1) := by decide +kernel
theorem dX1_beginsWithStanza_37 : decode cX1_beginsWithStanza 37 = .ok (.goto 11, 3) := by decide +kernel
theorem dX1_beginsWithStanza_40 : decode cX1_beginsWithStanza 40 = .ok (.aload_n 0, 1) := by decide +kernel
theorem dX1_beginsWithStanza_41 : decode cX1_beginsWithStanza 41 = .ok (.aload_n 3, 1) := by decide +kernel
theorem dX1_beginsWithStanza_42 : decode cX1_beginsWithStanza 42 = .ok (.getfield 233, 3) := by decide +kernel
theorem dX1_beginsWithStanza_45 : decode cX1_beginsWithStanza 45 = .ok (.invokevirtual 159, 3) := by decide +kernel
theorem dX1_beginsWithStanza_48 : decode cX1_beginsWithStanza 48 = .ok (.astore 4, 2) := by decide +kernel
theorem dX1_beginsWithStanza_50 : decode cX1_beginsWithStanza 50 = .ok (.aload 4, 2) := by decide +kernel
theorem dX1_beginsWithStanza_52 : decode cX1_beginsWithStanza 52 = .ok (.ifnull 19, 3) := by decide +kernel
theorem dX1_beginsWithStanza_55 : decode cX1_beginsWithStanza 55 = .ok (.aload 4, 2) := by decide +kernel
theorem dX1_beginsWithStanza_57 : decode cX1_beginsWithStanza 57 = .ok (.getfield 95, 3) := by decide +kernel
theorem dX1_beginsWithStanza_60 : decode cX1_beginsWithStanza 60 = .ok (.aload_n 1, 1) := by decide +kernel
theorem dX1_beginsWithStanza_61 : decode cX1_beginsWithStanza 61 = .ok (.getfield 51, 3) := by decide +kernel
theorem dX1_beginsWithStanza_64 : decode cX1_beginsWithStanza 64 = .ok (.if_icmp .ne 7, 3) := by decide +kernel
theorem dX1_beginsWithStanza_67 : decode cX1_beginsWithStanza 67 = .ok (.iconst 1, 1) := by decide +kernel
theorem dX1_beginsWithStanza_68 : decode cX1_beginsWithStanza 68 = .ok (.goto 4, 3) := by decide +kernel
theorem dX1_beginsWithStanza_71 : decode cX1_beginsWithStanza 71 = .ok (.iconst 0, 1) := by decide +kernel
theorem dX1_beginsWithStanza_72 : decode cX1_beginsWithStanza 72 = .ok (.ireturn, 1) := by decide +kernel
theorem dX1_widthOf_0 : decode cX1_widthOf 0 = .ok (.aload_n 0, 1) := by decide +kernel
theorem dX1_widthOf_1 : decode cX1_widthOf 1 = .ok (.iload_n 1, 1) := by decide +kernel
theorem dX1_widthOf_2 : decode cX1_widthOf 2 = .ok (.invokevirtual 56, 3) := by decide +kernel
theorem dX1_widthOf_5 : decode cX1_widthOf 5 = .ok (.astore_n 2, 1) := by decide +kernel
theorem dX1_widthOf_6 : decode cX1_widthOf 6 = .ok (.aload_n 2, 1) := by decide +kernel
theorem dX1_widthOf_7 : decode cX1_widthOf 7 = .ok (.ifnonnull 7, 3) := by decide +kernel
theorem dX1_widthOf_10 : decode cX1_widthOf 10 = .ok (.iconst 0, 1) := by decide +kernel
theorem dX1_widthOf_11 : decode cX1_widthOf 11 = .ok (.goto 7, 3) := by decide +kernel
theorem dX1_widthOf_14 : decode cX1_widthOf 14 = .ok (.aload_n 2, 1) := by decide +kernel
theorem dX1_widthOf_15 : decode cX1_widthOf 15 = .ok (.invokevirtual 193, 3) := by decide +kernel
theorem dX1_widthOf_18 : decode cX1_widthOf 18 = .ok (.ireturn, 1) := by decide +kernel
theorem dX1_addRow_0 : decode cX1_addRow 0 = .ok (.aload_n 0, 1) := by decide +kernel
theorem dX1_addRow_1 : decode cX1_addRow 1 = .ok (.aload_n 0, 1) := by decide +kernel
theorem dX1_addRow_2 : decode cX1_addRow 2 = .ok (.getfield 35, 3) := by decide +kernel
theorem dX1_addRow_5 : decode cX1_addRow 5 = .ok (.iconst 1, 1) := by decide +kernel
theorem dX1_addRow_6 : decode cX1_addRow 6 = .ok (.isub, 1) := by decide +kernel
theorem dX1_addRow_7 : decode cX1_addRow 7 = .ok (.invokevirtual 56, 3) := by decide +kernel
theorem dX1_addRow_10 : decode cX1_addRow 10 = .ok (.astore 4, 2) := by decide +kernel
theorem dX1_addRow_12 : decode cX1_addRow 12 = .ok (.aload 4, 2) := by decide +kernel
theorem dX1_addRow_14 : decode cX1_addRow 14 = .ok (.ifnull 22, 3) := by decide +kernel
theorem dX1_addRow_17 : decode cX1_addRow 17 = .ok (.aload 4, 2) := by decide +kernel
theorem dX1_addRow_19 : decode cX1_addRow 19 = .ok (.getfield 197, 3) := by decide +kernel
theorem dX1_addRow_22 : decode cX1_addRow 22 = .ok (.iload_n 1, 1) := by decide +kernel
theorem dX1_addRow_23 : decode cX1_addRow 23 = .ok (.if_icmp .ne 13, 3) := by decide +kernel
theorem dX1_addRow_26 : decode cX1_addRow 26 = .ok (.aload 4, 2) := by decide +kernel
theorem dX1_addRow_28 : decode cX1_addRow 28 = .ok (.getfield 214, 3) := by decide +kernel
theorem dX1_addRow_31 : decode cX1_addRow 31 = .ok (.iconst 1, 1) := by decide +kernel
theorem dX1_addRow_32 : decode cX1_addRow 32 = .ok (.iadd, 1) := by decide +kernel
theorem dX1_addRow_33 : decode cX1_addRow 33 = .ok (.goto 4, 3) := by decide +kernel
theorem dX1_addRow_36 : decode cX1_addRow 36 = .ok (.iconst 0, 1) := by decide +kernel
theorem dX1_addRow_37 : decode cX1_addRow 37 = .ok (.istore 5, 2) := by decide +kernel
theorem dX1_addRow_39 : decode cX1_addRow 39 = .ok (.aload_n 0, 1) := by decide +kernel
theorem dX1_addRow_40 : decode cX1_addRow 40 = .ok (.getfield 35, 3) := by decide +kernel
theorem dX1_addRow_43 : decode cX1_addRow 43 = .ok (.ifCond .lt 15, 3) := by decide +kernel
theorem dX1_addRow_46 : decode cX1_addRow 46 = .ok (.aload_n 0, 1) := by decide +kernel
theorem dX1_addRow_47 : decode cX1_addRow 47 = .ok (.getfield 35, 3) := by decide +kernel
theorem dX1_addRow_50 : decode cX1_addRow 50 = .ok (.aload_n 0, 1) := by decide +kernel
theorem dX1_addRow_51 : decode cX1_addRow 51 = .ok (.getfield 11, 3) := by decide +kernel
theorem dX1_addRow_54 : decode cX1_addRow 54 = .ok (.arraylength, 1) := by decide +kernel
theorem dX1_addRow_55 : decode cX1_addRow 55 = .ok (.if_icmp .lt 11, 3) := by decide +kernel
theorem dX1_addRow_58 : decode cX1_addRow 58 = .ok (.new 9, 3) := by decide +kernel
theorem dX1_addRow_61 : decode cX1_addRow 61 = .ok (.dup, 1) := by decide +kernel
theorem dX1_addRow_62 : decode cX1_addRow 62 = .ok (.invokespecial 236, 3) := by decide +kernel
theorem dX1_addRow_65 : decode cX1_addRow 65 = .ok (.areturn, 1) := by decide +kernel
theorem dX1_addRow_66 : decode cX1_addRow 66 = .ok (.aload_n 0, 1) := by decide +kernel
theorem dX1_addRow_67 : decode cX1_addRow 67 = .ok (.getfield 11, 3) := by decide +kernel
theorem dX1_addRow_70 : decode cX1_addRow 70 = .ok (.aload_n 0, 1) := by decide +kernel
theorem dX1_addRow_71 : decode cX1_addRow 71 = .ok (.getfield 35, 3) := by decide +kernel
theorem dX1_addRow_74 : decode cX1_addRow 74 = .ok (.aaload, 1) := by decide +kernel
theorem dX1_addRow_75 : decode cX1_addRow 75 = .ok (.astore 6, 2) := by decide +kernel
theorem dX1_addRow_77 : decode cX1_addRow 77 = .ok (.aload 6, 2) := by decide +kernel
theorem dX1_addRow_79 : decode cX1_addRow 79 = .ok (.ifnonnull 23, 3) := by decide +kernel
theorem dX1_addRow_82 : decode cX1_addRow 82 = .ok (.new 9, 3) := by decide +kernel
theorem dX1_addRow_85 : decode cX1_addRow 85 = .ok (.dup, 1) := by decide +kernel
theorem dX1_addRow_86 : decode cX1_addRow 86 = .ok (.invokespecial 236, 3) := by decide +kernel
theorem dX1_addRow_89 : decode cX1_addRow 89 = .ok (.astore 6, 2) := by decide +kernel
theorem dX1_addRow_91 : decode cX1_addRow 91 = .ok (.aload_n 0, 1) := by decide +kernel
theorem dX1_addRow_92 : decode cX1_addRow 92 = .ok (.getfield 11, 3) := by decide +kernel
theorem dX1_addRow_95 : decode cX1_addRow 95 = .ok (.aload_n 0, 1) := by decide +kernel
theorem dX1_addRow_96 : decode cX1_addRow 96 = .ok (.getfield 35, 3) := by decide +kernel
theorem dX1_addRow_99 : decode cX1_addRow 99 = .ok (.aload 6, 2) := by decide +kernel
theorem dX1_addRow_101 : decode cX1_addRow 101 = .ok (.aastore, 1) := by decide +kernel
theorem dX1_addRow_102 : decode cX1_addRow 102 = .ok (.aload_n 0, 1) := by decide +kernel
theorem dX1_addRow_103 : decode cX1_addRow 103 = .ok (.dup, 1) := by decide +kernel
theorem dX1_addRow_104 : decode cX1_addRow 104 = .ok (.getfield 35, 3) := by decide +kernel
theorem dX1_addRow_107 : decode cX1_addRow 107 = .ok (.iconst 1, 1) := by decide +kernel
theorem dX1_addRow_108 : decode cX1_addRow 108 = .ok (.iadd, 1) := by decide +kernel
theorem dX1_addRow_109 : decode cX1_addRow 109 = .ok (.putfield 35, 3) := by decide +kernel
theorem dX1_addRow_112 : decode cX1_addRow 112 = .ok (.aload 6, 2) := by decide +kernel
theorem dX1_addRow_114 : decode cX1_addRow 114 = .ok (.iload_n 1, 1) := by decide +kernel
theorem dX1_addRow_115 : decode cX1_addRow 115 = .ok (.putfield 197, 3) := by decide +kernel
theorem dX1_addRow_118 : decode cX1_addRow 118 = .ok (.aload 6, 2) := by decide +kernel
theorem dX1_addRow_120 : decode cX1_addRow 120 = .ok (.iload 5, 2) := by decide +kernel
theorem dX1_addRow_122 : decode cX1_addRow 122 = .ok (.putfield 214, 3) := by decide +kernel
theorem dX1_addRow_125 : decode cX1_addRow 125 = .ok (.aload 6, 2) := by decide +kernel
theorem dX1_addRow_127 : decode cX1_addRow 127 = .ok (.iload_n 2, 1) := by decide +kernel
theorem dX1_addRow_128 : decode cX1_addRow 128 = .ok (.putfield 204, 3) := by decide +kernel
theorem dX1_addRow_131 : decode cX1_addRow 131 = .ok (.aload 6, 2) := by decide +kernel
theorem dX1_addRow_133 : decode cX1_addRow 133 = .ok (.iload_n 3, 1) := by decide +kernel
theorem dX1_addRow_134 : decode cX1_addRow 134 = .ok (.putfield 207, 3) := by decide +kernel
theorem dX1_addRow_137 : decode cX1_addRow 137 = .ok (.aload 6, 2) := by decide +kernel
theorem dX1_addRow_139 : decode cX1_addRow 139 = .ok (.iconst 0, 1) := by decide +kernel
theorem dX1_addRow_140 : decode cX1_addRow 140 = .ok (.putfield 190, 3) := by decide +kernel
theorem dX1_addRow_143 : decode cX1_addRow 143 = .ok (.aload 6, 2) := by decide +kernel
theorem dX1_addRow_145 : decode cX1_addRow 145 = .ok (.iconst 0, 1) := by decide +kernel
theorem dX1_addRow_146 : decode cX1_addRow 146 = .ok (.putfield 181, 3) := by decide +kernel
theorem dX1_addRow_149 : decode cX1_addRow 149 = .ok (.aload 6, 2) := by decide +kernel
theorem dX1_addRow_151 : decode cX1_addRow 151 = .ok (.iconst 0, 1) := by decide +kernel
theorem dX1_addRow_152 : decode cX1_addRow 152 = .ok (.putfield 63, 3) := by decide +kernel
theorem dX1_addRow_155 : decode cX1_addRow 155 = .ok (.aload 6, 2) := by decide +kernel
theorem dX1_addRow_157 : decode cX1_addRow 157 = .ok (.areturn, 1) := by decide +kernel
theorem dX1_addSpan_0 : decode cX1_addSpan 0 = .ok (.aload_n 0, 1) := by decide +kernel
theorem dX1_addSpan_1 : decode cX1_addSpan 1 = .ok (.invokevirtual 237, 3) := by decide +kernel
theorem dX1_addSpan_4 : decode cX1_addSpan 4 = .ok (.istore_n 3, 1) := by decide +kernel
theorem dX1_addSpan_5 : decode cX1_addSpan 5 = .ok (.aload_n 0, 1) := by decide +kernel
theorem dX1_addSpan_6 : decode cX1_addSpan 6 = .ok (.getfield 45, 3) := by decide +kernel
theorem dX1_addSpan_9 : decode cX1_addSpan 9 = .ok (.ifCond .lt 15, 3) := by decide +kernel
theorem dX1_addSpan_12 : decode cX1_addSpan 12 = .ok (.aload_n 0, 1) := by decide +kernel
theorem dX1_addSpan_13 : decode cX1_addSpan 13 = .ok (.getfield 45, 3) := by decide +kernel
theorem dX1_addSpan_16 : decode cX1_addSpan 16 = .ok (.aload_n 0, 1) := by decide +kernel
theorem dX1_addSpan_17 : decode cX1_addSpan 17 = .ok (.getfield 19, 3) := by decide +kernel
theorem dX1_addSpan_20 : decode cX1_addSpan 20 = .ok (.arraylength, 1) := by decide +kernel
theorem dX1_addSpan_21 : decode cX1_addSpan 21 = .ok (.if_icmp .lt 11, 3) := by decide +kernel
theorem dX1_addSpan_24 : decode cX1_addSpan 24 = .ok (.new 17, 3) := by decide +kernel
theorem dX1_addSpan_27 : decode cX1_addSpan 27 = .ok (.dup, 1) := by decide +kernel
theorem dX1_addSpan_28 : decode cX1_addSpan 28 = .ok (.invokespecial 240, 3) := by decide +kernel
theorem dX1_addSpan_31 : decode cX1_addSpan 31 = .ok (.areturn, 1) := by decide +kernel
theorem dX1_addSpan_32 : decode cX1_addSpan 32 = .ok (.aload_n 0, 1) := by decide +kernel
theorem dX1_addSpan_33 : decode cX1_addSpan 33 = .ok (.getfield 19, 3) := by decide +kernel
theorem dX1_addSpan_36 : decode cX1_addSpan 36 = .ok (.aload_n 0, 1) := by decide +kernel
theorem dX1_addSpan_37 : decode cX1_addSpan 37 = .ok (.getfield 45, 3) := by decide +kernel
theorem dX1_addSpan_40 : decode cX1_addSpan 40 = .ok (.aaload, 1) := by decide +kernel
theorem dX1_addSpan_41 : decode cX1_addSpan 41 = .ok (.astore 4, 2) := by decide +kernel
theorem dX1_addSpan_43 : decode cX1_addSpan 43 = .ok (.aload 4, 2) := by decide +kernel
theorem dX1_addSpan_45 : decode cX1_addSpan 45 = .ok (.ifnonnull 23, 3) := by decide +kernel
theorem dX1_addSpan_48 : decode cX1_addSpan 48 = .ok (.new 17, 3) := by decide +kernel
theorem dX1_addSpan_51 : decode cX1_addSpan 51 = .ok (.dup, 1) := by decide +kernel
theorem dX1_addSpan_52 : decode cX1_addSpan 52 = .ok (.invokespecial 240, 3) := by decide +kernel
theorem dX1_addSpan_55 : decode cX1_addSpan 55 = .ok (.astore 4, 2) := by decide +kernel
theorem dX1_addSpan_57 : decode cX1_addSpan 57 = .ok (.aload_n 0, 1) := by decide +kernel
theorem dX1_addSpan_58 : decode cX1_addSpan 58 = .ok (.getfield 19, 3) := by decide +kernel
theorem dX1_addSpan_61 : decode cX1_addSpan 61 = .ok (.aload_n 0, 1) := by decide +kernel
theorem dX1_addSpan_62 : decode cX1_addSpan 62 = .ok (.getfield 45, 3) := by decide +kernel
theorem dX1_addSpan_65 : decode cX1_addSpan 65 = .ok (.aload 4, 2) := by decide +kernel
theorem dX1_addSpan_67 : decode cX1_addSpan 67 = .ok (.aastore, 1) := by decide +kernel
theorem dX1_addSpan_68 : decode cX1_addSpan 68 = .ok (.aload_n 0, 1) := by decide +kernel
theorem dX1_addSpan_69 : decode cX1_addSpan 69 = .ok (.dup, 1) := by decide +kernel
theorem dX1_addSpan_70 : decode cX1_addSpan 70 = .ok (.getfield 45, 3) := by decide +kernel
theorem dX1_addSpan_73 : decode cX1_addSpan 73 = .ok (.iconst 1, 1) := by decide +kernel
theorem dX1_addSpan_74 : decode cX1_addSpan 74 = .ok (.iadd, 1) := by decide +kernel
theorem dX1_addSpan_75 : decode cX1_addSpan 75 = .ok (.putfield 45, 3) := by decide +kernel
theorem dX1_addSpan_78 : decode cX1_addSpan 78 = .ok (.aload 4, 2) := by decide +kernel
theorem dX1_addSpan_80 : decode cX1_addSpan 80 = .ok (.aload_n 1, 1) := by decide +kernel
theorem dX1_addSpan_81 : decode cX1_addSpan 81 = .ok (.getfield 241, 3) := by decide +kernel
theorem dX1_addSpan_84 : decode cX1_addSpan 84 = .ok (.ifCond .eq 11, 3) := by decide +kernel
theorem dX1_addSpan_87 : decode cX1_addSpan 87 = .ok (.iload_n 2, 1) := by decide +kernel
theorem dX1_addSpan_88 : decode cX1_addSpan 88 = .ok (.ifCond .eq 7, 3) := by decide +kernel
theorem dX1_addSpan_91 : decode cX1_addSpan 91 = .ok (.iconst 1, 1) := by decide +kernel
theorem dX1_addSpan_92 : decode cX1_addSpan 92 = .ok (.goto 4, 3) := by decide +kernel
theorem dX1_addSpan_95 : decode cX1_addSpan 95 = .ok (.iconst 0, 1) := by decide +kernel
theorem dX1_addSpan_96 : decode cX1_addSpan 96 = .ok (.putfield 174, 3) := by decide +kernel
theorem dX1_addSpan_99 : decode cX1_addSpan 99 = .ok (.aload 4, 2) := by decide +kernel
theorem dX1_addSpan_101 : decode cX1_addSpan 101 = .ok (.aload 4, 2) := by decide +kernel
theorem dX1_addSpan_103 : decode cX1_addSpan 103 = .ok (.getfield 174, 3) := by decide +kernel
theorem dX1_addSpan_106 : decode cX1_addSpan 106 = .ok (.ifCond .eq 7, 3) := by decide +kernel
theorem dX1_addSpan_109 : decode cX1_addSpan 109 = .ok (.iload_n 3, 1) := by decide +kernel
theorem dX1_addSpan_110 : decode cX1_addSpan 110 = .ok (.goto 6, 3) := by decide +kernel
theorem dX1_addSpan_113 : decode cX1_addSpan 113 = .ok (.iload_n 3, 1) := by decide +kernel
theorem dX1_addSpan_114 : decode cX1_addSpan 114 = .ok (.iconst 1, 1) := by decide +kernel
theorem dX1_addSpan_115 : decode cX1_addSpan 115 = .ok (.iadd, 1) := by decide +kernel
theorem dX1_addSpan_116 : decode cX1_addSpan 116 = .ok (.putfield 82, 3) := by decide +kernel
theorem dX1_addSpan_119 : decode cX1_addSpan 119 = .ok (.aload 4, 2) := by decide +kernel
theorem dX1_addSpan_121 : decode cX1_addSpan 121 = .ok (.aload_n 0, 1) := by decide +kernel
theorem dX1_addSpan_122 : decode cX1_addSpan 122 = .ok (.getfield 39, 3) := by decide +kernel
theorem dX1_addSpan_125 : decode cX1_addSpan 125 = .ok (.iconst 1, 1) := by decide +kernel
theorem dX1_addSpan_126 : decode cX1_addSpan 126 = .ok (.isub, 1) := by decide +kernel
theorem dX1_addSpan_127 : decode cX1_addSpan 127 = .ok (.putfield 233, 3) := by decide +kernel
theorem dX1_addSpan_130 : decode cX1_addSpan 130 = .ok (.aload 4, 2) := by decide +kernel
theorem dX1_addSpan_132 : decode cX1_addSpan 132 = .ok (.aload_n 0, 1) := by decide +kernel
theorem dX1_addSpan_133 : decode cX1_addSpan 133 = .ok (.getfield 35, 3) := by decide +kernel
theorem dX1_addSpan_136 : decode cX1_addSpan 136 = .ok (.putfield 157, 3) := by decide +kernel
theorem dX1_addSpan_139 : decode cX1_addSpan 139 = .ok (.aload 4, 2) := by decide +kernel
theorem dX1_addSpan_141 : decode cX1_addSpan 141 = .ok (.areturn, 1) := by decide +kernel
theorem dX1_addStanza_0 : decode cX1_addStanza 0 = .ok (.aload_n 0, 1) := by decide +kernel
theorem dX1_addStanza_1 : decode cX1_addStanza 1 = .ok (.getfield 39, 3) := by decide +kernel
theorem dX1_addStanza_4 : decode cX1_addStanza 4 = .ok (.ifCond .lt 15, 3) := by decide +kernel
theorem dX1_addStanza_7 : decode cX1_addStanza 7 = .ok (.aload_n 0, 1) := by decide +kernel
theorem dX1_addStanza_8 : decode cX1_addStanza 8 = .ok (.getfield 39, 3) := by decide +kernel
theorem dX1_addStanza_11 : decode cX1_addStanza 11 = .ok (.aload_n 0, 1) := by decide +kernel
theorem dX1_addStanza_12 : decode cX1_addStanza 12 = .ok (.getfield 25, 3) := by decide +kernel
theorem dX1_addStanza_15 : decode cX1_addStanza 15 = .ok (.arraylength, 1) := by decide +kernel
theorem dX1_addStanza_16 : decode cX1_addStanza 16 = .ok (.if_icmp .lt 11, 3) := by decide +kernel
theorem dX1_addStanza_19 : decode cX1_addStanza 19 = .ok (.new 23, 3) := by decide +kernel
theorem dX1_addStanza_22 : decode cX1_addStanza 22 = .ok (.dup, 1) := by decide +kernel
theorem dX1_addStanza_23 : decode cX1_addStanza 23 = .ok (.invokespecial 244, 3) := by decide +kernel
theorem dX1_addStanza_26 : decode cX1_addStanza 26 = .ok (.areturn, 1) := by decide +kernel
theorem dX1_addStanza_27 : decode cX1_addStanza 27 = .ok (.aload_n 0, 1) := by decide +kernel
theorem dX1_addStanza_28 : decode cX1_addStanza 28 = .ok (.getfield 25, 3) := by decide +kernel
theorem dX1_addStanza_31 : decode cX1_addStanza 31 = .ok (.aload_n 0, 1) := by decide +kernel
theorem dX1_addStanza_32 : decode cX1_addStanza 32 = .ok (.getfield 39, 3) := by decide +kernel
theorem dX1_addStanza_35 : decode cX1_addStanza 35 = .ok (.aaload, 1) := by decide +kernel
theorem dX1_addStanza_36 : decode cX1_addStanza 36 = .ok (.astore_n 2, 1) := by decide +kernel
theorem dX1_addStanza_37 : decode cX1_addStanza 37 = .ok (.aload_n 2, 1) := by decide +kernel
theorem dX1_addStanza_38 : decode cX1_addStanza 38 = .ok (.ifnonnull 21, 3) := by decide +kernel
theorem dX1_addStanza_41 : decode cX1_addStanza 41 = .ok (.new 23, 3) := by decide +kernel
theorem dX1_addStanza_44 : decode cX1_addStanza 44 = .ok (.dup, 1) := by decide +kernel
theorem dX1_addStanza_45 : decode cX1_addStanza 45 = .ok (.invokespecial 244, 3) := by decide +kernel
theorem dX1_addStanza_48 : decode cX1_addStanza 48 = .ok (.astore_n 2, 1) := by decide +kernel
theorem dX1_addStanza_49 : decode cX1_addStanza 49 = .ok (.aload_n 0, 1) := by decide +kernel
theorem dX1_addStanza_50 : decode cX1_addStanza 50 = .ok (.getfield 25, 3) := by decide +kernel
theorem dX1_addStanza_53 : decode cX1_addStanza 53 = .ok (.aload_n 0, 1) := by decide +kernel
theorem dX1_addStanza_54 : decode cX1_addStanza 54 = .ok (.getfield 39, 3) := by decide +kernel
theorem dX1_addStanza_57 : decode cX1_addStanza 57 = .ok (.aload_n 2, 1) := by decide +kernel
theorem dX1_addStanza_58 : decode cX1_addStanza 58 = .ok (.aastore, 1) := by decide +kernel
theorem dX1_addStanza_59 : decode cX1_addStanza 59 = .ok (.aload_n 0, 1) := by decide +kernel
theorem dX1_addStanza_60 : decode cX1_addStanza 60 = .ok (.dup, 1) := by decide +kernel
theorem dX1_addStanza_61 : decode cX1_addStanza 61 = .ok (.getfield 39, 3) := by decide +kernel
theorem dX1_addStanza_64 : decode cX1_addStanza 64 = .ok (.iconst 1, 1) := by decide +kernel
theorem dX1_addStanza_65 : decode cX1_addStanza 65 = .ok (.iadd, 1) := by decide +kernel
theorem dX1_addStanza_66 : decode cX1_addStanza 66 = .ok (.putfield 39, 3) := by decide +kernel
theorem dX1_addStanza_69 : decode cX1_addStanza 69 = .ok (.aload_n 2, 1) := by decide +kernel
theorem dX1_addStanza_70 : decode cX1_addStanza 70 = .ok (.iload_n 1, 1) := by decide +kernel
theorem dX1_addStanza_71 : decode cX1_addStanza 71 = .ok (.putfield 127, 3) := by decide +kernel
theorem dX1_addStanza_74 : decode cX1_addStanza 74 = .ok (.aload_n 2, 1) := by decide +kernel
theorem dX1_addStanza_75 : decode cX1_addStanza 75 = .ok (.aload_n 0, 1) := by decide +kernel
theorem dX1_addStanza_76 : decode cX1_addStanza 76 = .ok (.getfield 35, 3) := by decide +kernel
theorem dX1_addStanza_79 : decode cX1_addStanza 79 = .ok (.putfield 95, 3) := by decide +kernel
theorem dX1_addStanza_82 : decode cX1_addStanza 82 = .ok (.aload_n 2, 1) := by decide +kernel
theorem dX1_addStanza_83 : decode cX1_addStanza 83 = .ok (.iconst 0, 1) := by decide +kernel
theorem dX1_addStanza_84 : decode cX1_addStanza 84 = .ok (.putfield 96, 3) := by decide +kernel
theorem dX1_addStanza_87 : decode cX1_addStanza 87 = .ok (.aload_n 2, 1) := by decide +kernel
theorem dX1_addStanza_88 : decode cX1_addStanza 88 = .ok (.areturn, 1) := by decide +kernel
theorem dX1_lastStanza_0 : decode cX1_lastStanza 0 = .ok (.aload_n 0, 1) := by decide +kernel
theorem dX1_lastStanza_1 : decode cX1_lastStanza 1 = .ok (.aload_n 0, 1) := by decide +kernel
theorem dX1_lastStanza_2 : decode cX1_lastStanza 2 = .ok (.getfield 39, 3) := by decide +kernel
theorem dX1_lastStanza_5 : decode cX1_lastStanza 5 = .ok (.iconst 1, 1) := by decide +kernel
theorem dX1_lastStanza_6 : decode cX1_lastStanza 6 = .ok (.isub, 1) := by decide +kernel
theorem dX1_lastStanza_7 : decode cX1_lastStanza 7 = .ok (.invokevirtual 159, 3) := by decide +kernel
theorem dX1_lastStanza_10 : decode cX1_lastStanza 10 = .ok (.astore_n 2, 1) := by decide +kernel
theorem dX1_lastStanza_11 : decode cX1_lastStanza 11 = .ok (.aload_n 2, 1) := by decide +kernel
theorem dX1_lastStanza_12 : decode cX1_lastStanza 12 = .ok (.ifnonnull 11, 3) := by decide +kernel
theorem dX1_lastStanza_15 : decode cX1_lastStanza 15 = .ok (.aload_n 0, 1) := by decide +kernel
theorem dX1_lastStanza_16 : decode cX1_lastStanza 16 = .ok (.iload_n 1, 1) := by decide +kernel
theorem dX1_lastStanza_17 : decode cX1_lastStanza 17 = .ok (.invokevirtual 120, 3) := by decide +kernel
theorem dX1_lastStanza_20 : decode cX1_lastStanza 20 = .ok (.goto 4, 3) := by decide +kernel
theorem dX1_lastStanza_23 : decode cX1_lastStanza 23 = .ok (.aload_n 2, 1) := by decide +kernel
theorem dX1_lastStanza_24 : decode cX1_lastStanza 24 = .ok (.areturn, 1) := by decide +kernel
theorem dX1_addPage_0 : decode cX1_addPage 0 = .ok (.aload_n 0, 1) := by decide +kernel
theorem dX1_addPage_1 : decode cX1_addPage 1 = .ok (.getfield 42, 3) := by decide +kernel
theorem dX1_addPage_4 : decode cX1_addPage 4 = .ok (.ifCond .lt 15, 3) := by decide +kernel
theorem dX1_addPage_7 : decode cX1_addPage 7 = .ok (.aload_n 0, 1) := by decide +kernel
theorem dX1_addPage_8 : decode cX1_addPage 8 = .ok (.getfield 42, 3) := by decide +kernel
theorem dX1_addPage_11 : decode cX1_addPage 11 = .ok (.aload_n 0, 1) := by decide +kernel
theorem dX1_addPage_12 : decode cX1_addPage 12 = .ok (.getfield 31, 3) := by decide +kernel
theorem dX1_addPage_15 : decode cX1_addPage 15 = .ok (.arraylength, 1) := by decide +kernel
theorem dX1_addPage_16 : decode cX1_addPage 16 = .ok (.if_icmp .lt 11, 3) := by decide +kernel
theorem dX1_addPage_19 : decode cX1_addPage 19 = .ok (.new 29, 3) := by decide +kernel
theorem dX1_addPage_22 : decode cX1_addPage 22 = .ok (.dup, 1) := by decide +kernel
theorem dX1_addPage_23 : decode cX1_addPage 23 = .ok (.invokespecial 245, 3) := by decide +kernel
theorem dX1_addPage_26 : decode cX1_addPage 26 = .ok (.areturn, 1) := by decide +kernel
theorem dX1_addPage_27 : decode cX1_addPage 27 = .ok (.aload_n 0, 1) := by decide +kernel
theorem dX1_addPage_28 : decode cX1_addPage 28 = .ok (.getfield 31, 3) := by decide +kernel
theorem dX1_addPage_31 : decode cX1_addPage 31 = .ok (.aload_n 0, 1) := by decide +kernel
theorem dX1_addPage_32 : decode cX1_addPage 32 = .ok (.getfield 42, 3) := by decide +kernel
theorem dX1_addPage_35 : decode cX1_addPage 35 = .ok (.aaload, 1) := by decide +kernel
theorem dX1_addPage_36 : decode cX1_addPage 36 = .ok (.astore_n 2, 1) := by decide +kernel
theorem dX1_addPage_37 : decode cX1_addPage 37 = .ok (.aload_n 2, 1) := by decide +kernel
theorem dX1_addPage_38 : decode cX1_addPage 38 = .ok (.ifnonnull 21, 3) := by decide +kernel
theorem dX1_addPage_41 : decode cX1_addPage 41 = .ok (.new 29, 3) := by decide +kernel
theorem dX1_addPage_44 : decode cX1_addPage 44 = .ok (.dup, 1) := by decide +kernel
theorem dX1_addPage_45 : decode cX1_addPage 45 = .ok (.invokespecial 245, 3) := by decide +kernel
theorem dX1_addPage_48 : decode cX1_addPage 48 = .ok (.astore_n 2, 1) := by decide +kernel
theorem dX1_addPage_49 : decode cX1_addPage 49 = .ok (.aload_n 0, 1) := by decide +kernel
theorem dX1_addPage_50 : decode cX1_addPage 50 = .ok (.getfield 31, 3) := by decide +kernel
theorem dX1_addPage_53 : decode cX1_addPage 53 = .ok (.aload_n 0, 1) := by decide +kernel
theorem dX1_addPage_54 : decode cX1_addPage 54 = .ok (.getfield 42, 3) := by decide +kernel
theorem dX1_addPage_57 : decode cX1_addPage 57 = .ok (.aload_n 2, 1) := by decide +kernel
theorem dX1_addPage_58 : decode cX1_addPage 58 = .ok (.aastore, 1) := by decide +kernel
theorem dX1_addPage_59 : decode cX1_addPage 59 = .ok (.aload_n 0, 1) := by decide +kernel
theorem dX1_addPage_60 : decode cX1_addPage 60 = .ok (.dup, 1) := by decide +kernel
theorem dX1_addPage_61 : decode cX1_addPage 61 = .ok (.getfield 42, 3) := by decide +kernel
theorem dX1_addPage_64 : decode cX1_addPage 64 = .ok (.iconst 1, 1) := by decide +kernel
theorem dX1_addPage_65 : decode cX1_addPage 65 = .ok (.iadd, 1) := by decide +kernel
theorem dX1_addPage_66 : decode cX1_addPage 66 = .ok (.putfield 42, 3) := by decide +kernel
theorem dX1_addPage_69 : decode cX1_addPage 69 = .ok (.aload_n 2, 1) := by decide +kernel
theorem dX1_addPage_70 : decode cX1_addPage 70 = .ok (.iload_n 1, 1) := by decide +kernel
theorem dX1_addPage_71 : decode cX1_addPage 71 = .ok (.putfield 51, 3) := by decide +kernel
theorem dX1_addPage_74 : decode cX1_addPage 74 = .ok (.aload_n 2, 1) := by decide +kernel
theorem dX1_addPage_75 : decode cX1_addPage 75 = .ok (.iconst 0, 1) := by decide +kernel
theorem dX1_addPage_76 : decode cX1_addPage 76 = .ok (.putfield 54, 3) := by decide +kernel
theorem dX1_addPage_79 : decode cX1_addPage 79 = .ok (.aload_n 2, 1) := by decide +kernel
theorem dX1_addPage_80 : decode cX1_addPage 80 = .ok (.iconst 0, 1) := by decide +kernel
theorem dX1_addPage_81 : decode cX1_addPage 81 = .ok (.putfield 227, 3) := by decide +kernel
theorem dX1_addPage_84 : decode cX1_addPage 84 = .ok (.aload_n 2, 1) := by decide +kernel
theorem dX1_addPage_85 : decode cX1_addPage 85 = .ok (.iconst 0, 1) := by decide +kernel
theorem dX1_addPage_86 : decode cX1_addPage 86 = .ok (.putfield 230, 3) := by decide +kernel
theorem dX1_addPage_89 : decode cX1_addPage 89 = .ok (.aload_n 2, 1) := by decide +kernel
theorem dX1_addPage_90 : decode cX1_addPage 90 = .ok (.iconst 0, 1) := by decide +kernel
theorem dX1_addPage_91 : decode cX1_addPage 91 = .ok (.putfield 75, 3) := by decide +kernel
theorem dX1_addPage_94 : decode cX1_addPage 94 = .ok (.aload_n 2, 1) := by decide +kernel
theorem dX1_addPage_95 : decode cX1_addPage 95 = .ok (.areturn, 1) := by decide +kernel
theorem dX2_init_0 : decode cX2_init 0 = .ok (.aload_n 0, 1) := by decide +kernel
theorem dX2_init_1 : decode cX2_init 1 = .ok (.invokespecial 1, 3) := by decide +kernel
theorem dX2_init_4 : decode cX2_init 4 = .ok (.aload_n 0, 1) := by decide +kernel
theorem dX2_init_5 : decode cX2_init 5 = .ok (.aload_n 1, 1) := by decide +kernel
theorem dX2_init_6 : decode cX2_init 6 = .ok (.putfield 7, 3) := by decide +kernel
theorem dX2_init_9 : decode cX2_init 9 = .ok (.aload_n 0, 1) := by decide +kernel
theorem dX2_init_10 : decode cX2_init 10 = .ok (.iload_n 2, 1) := by decide +kernel
theorem dX2_init_11 : decode cX2_init 11 = .ok (.putfield 13, 3) := by decide +kernel
theorem dX2_init_14 : decode cX2_init 14 = .ok (.aload_n 0, 1) := by decide +kernel
theorem dX2_init_15 : decode cX2_init 15 = .ok (.iload_n 3, 1) := by decide +kernel
theorem dX2_init_16 : decode cX2_init 16 = .ok (.putfield 17, 3) := by decide +kernel
theorem dX2_init_19 : decode cX2_init 19 = .ok (.aload_n 0, 1) := by decide +kernel
theorem dX2_init_20 : decode cX2_init 20 = .ok (.iload 4, 2) := by decide +kernel
theorem dX2_init_22 : decode cX2_init 22 = .ok (.putfield 21, 3) := by decide +kernel
theorem dX2_init_25 : decode cX2_init 25 = .ok (.return_, 1) := by decide +kernel
theorem dX3_init_0 : decode cX3_init 0 = .ok (.aload_n 0, 1) := by decide +kernel
theorem dX3_init_1 : decode cX3_init 1 = .ok (.invokespecial 1, 3) := by decide +kernel
theorem dX3_init_4 : decode cX3_init 4 = .ok (.return_, 1) := by decide +kernel
theorem dX4_init_0 : decode cX4_init 0 = .ok (.aload_n 0, 1) := by decide +kernel
theorem dX4_init_1 : decode cX4_init 1 = .ok (.invokespecial 1, 3) := by decide +kernel
theorem dX4_init_4 : decode cX4_init 4 = .ok (.return_, 1) := by decide +kernel
theorem dX5_init_0 : decode cX5_init 0 = .ok (.aload_n 0, 1) := by decide +kernel
theorem dX5_init_1 : decode cX5_init 1 = .ok (.invokespecial 3, 3) := by decide +kernel
theorem dX5_init_4 : decode cX5_init 4 = .ok (.aload_n 0, 1) := by decide +kernel
theorem dX5_init_5 : decode cX5_init 5 = .ok (.bipush 24, 2) := by decide +kernel
theorem dX5_init_7 : decode cX5_init 7 = .ok (.anewarray 9, 3) := by decide +kernel
theorem dX5_init_10 : decode cX5_init 10 = .ok (.putfield 11, 3) := by decide +kernel
theorem dX5_init_13 : decode cX5_init 13 = .ok (.aload_n 0, 1) := by decide +kernel
theorem dX5_init_14 : decode cX5_init 14 = .ok (.iconst 5, 1) := by decide +kernel
theorem dX5_init_15 : decode cX5_init 15 = .ok (.newarray .int, 2) := by decide +kernel
theorem dX5_init_17 : decode cX5_init 17 = .ok (.putfield 17, 3) := by decide +kernel
theorem dX5_init_20 : decode cX5_init 20 = .ok (.aload_n 0, 1) := by decide +kernel
theorem dX5_init_21 : decode cX5_init 21 = .ok (.iconst 0, 1) := by decide +kernel
theorem dX5_init_22 : decode cX5_init 22 = .ok (.putfield 21, 3) := by decide +kernel
theorem dX5_init_25 : decode cX5_init 25 = .ok (.iconst 0, 1) := by decide +kernel
theorem dX5_init_26 : decode cX5_init 26 = .ok (.istore_n 1, 1) := by decide +kernel
theorem dX5_init_27 : decode cX5_init 27 = .ok (.iload_n 1, 1) := by decide +kernel
theorem dX5_init_28 : decode cX5_init 28 = .ok (.aload_n 0, 1) := by decide +kernel
theorem dX5_init_29 : decode cX5_init 29 = .ok (.getfield 17, 3) := by decide +kernel
theorem dX5_init_32 : decode cX5_init 32 = .ok (.arraylength, 1) := by decide +kernel
theorem dX5_init_33 : decode cX5_init 33 = .ok (.if_icmp .ge 22, 3) := by decide +kernel
theorem dX5_init_36 : decode cX5_init 36 = .ok (.aload_n 0, 1) := by decide +kernel
theorem dX5_init_37 : decode cX5_init 37 = .ok (.getfield 17, 3) := by decide +kernel
theorem dX5_init_40 : decode cX5_init 40 = .ok (.iload_n 1, 1) := by decide +kernel
theorem dX5_init_41 : decode cX5_init 41 = .ok (.getstatic 25, 3) := by decide +kernel
theorem dX5_init_44 : decode cX5_init 44 = .ok (.iload_n 1, 1) := by decide +kernel
theorem dX5_init_45 : decode cX5_init 45 = .ok (.invokestatic 28, 3) := by decide +kernel
theorem dX5_init_48 : decode cX5_init 48 = .ok (.iastore, 1) := by decide +kernel
theorem dX5_init_49 : decode cX5_init 49 = .ok (.iinc 1 1, 3) := by decide +kernel
theorem dX5_init_52 : decode cX5_init 52 = .ok (.goto (-25), 3) := by decide +kernel
theorem dX5_init_55 : decode cX5_init 55 = .ok (.return_, 1) := by decide +kernel
theorem dX5_lineAt_0 : decode cX5_lineAt 0 = .ok (.iload_n 1, 1) := by decide +kernel
theorem dX5_lineAt_1 : decode cX5_lineAt 1 = .ok (.ifCond .lt 20, 3) := by decide +kernel
theorem dX5_lineAt_4 : decode cX5_lineAt 4 = .ok (.iload_n 1, 1) := by decide +kernel
theorem dX5_lineAt_5 : decode cX5_lineAt 5 = .ok (.aload_n 0, 1) := by decide +kernel
theorem dX5_lineAt_6 : decode cX5_lineAt 6 = .ok (.getfield 21, 3) := by decide +kernel
theorem dX5_lineAt_9 : decode cX5_lineAt 9 = .ok (.if_icmp .ge 12, 3) := by decide +kernel
theorem dX5_lineAt_12 : decode cX5_lineAt 12 = .ok (.iload_n 1, 1) := by decide +kernel
theorem dX5_lineAt_13 : decode cX5_lineAt 13 = .ok (.aload_n 0, 1) := by decide +kernel
theorem dX5_lineAt_14 : decode cX5_lineAt 14 = .ok (.getfield 11, 3) := by decide +kernel
theorem dX5_lineAt_17 : decode cX5_lineAt 17 = .ok (.arraylength, 1) := by decide +kernel
theorem dX5_lineAt_18 : decode cX5_lineAt 18 = .ok (.if_icmp .lt 7, 3) := by decide +kernel
theorem dX5_lineAt_21 : decode cX5_lineAt 21 = .ok (.aconst_null, 1) := by decide +kernel
theorem dX5_lineAt_22 : decode cX5_lineAt 22 = .ok (.goto 9, 3) := by decide +kernel
theorem dX5_lineAt_25 : decode cX5_lineAt 25 = .ok (.aload_n 0, 1) := by decide +kernel
theorem dX5_lineAt_26 : decode cX5_lineAt 26 = .ok (.getfield 11, 3) := by decide +kernel
theorem dX5_lineAt_29 : decode cX5_lineAt 29 = .ok (.iload_n 1, 1) := by decide +kernel
theorem dX5_lineAt_30 : decode cX5_lineAt 30 = .ok (.aaload, 1) := by decide +kernel
theorem dX5_lineAt_31 : decode cX5_lineAt 31 = .ok (.areturn, 1) := by decide +kernel
theorem dX5_setting_0 : decode cX5_setting 0 = .ok (.aload_n 0, 1) := by decide +kernel
theorem dX5_setting_1 : decode cX5_setting 1 = .ok (.getfield 17, 3) := by decide +kernel
theorem dX5_setting_4 : decode cX5_setting 4 = .ok (.iload_n 1, 1) := by decide +kernel
theorem dX5_setting_5 : decode cX5_setting 5 = .ok (.invokestatic 28, 3) := by decide +kernel
theorem dX5_setting_8 : decode cX5_setting 8 = .ok (.ireturn, 1) := by decide +kernel
theorem dX5_changeSetting_0 : decode cX5_changeSetting 0 = .ok (.iload_n 1, 1) := by decide +kernel
theorem dX5_changeSetting_1 : decode cX5_changeSetting 1 = .ok (.ifCond .lt 19, 3) := by decide +kernel
theorem dX5_changeSetting_4 : decode cX5_changeSetting 4 = .ok (.iload_n 1, 1) := by decide +kernel
theorem dX5_changeSetting_5 : decode cX5_changeSetting 5 = .ok (.aload_n 0, 1) := by decide +kernel
theorem dX5_changeSetting_6 : decode cX5_changeSetting 6 = .ok (.getfield 17, 3) := by decide +kernel
theorem dX5_changeSetting_9 : decode cX5_changeSetting 9 = .ok (.arraylength, 1) := by decide +kernel
theorem dX5_changeSetting_10 : decode cX5_changeSetting 10 = .ok (.if_icmp .ge 10, 3) := by decide +kernel
theorem dX5_changeSetting_13 : decode cX5_changeSetting 13 = .ok (.aload_n 0, 1) := by decide +kernel
theorem dX5_changeSetting_14 : decode cX5_changeSetting 14 = .ok (.getfield 17, 3) := by decide +kernel
theorem dX5_changeSetting_17 : decode cX5_changeSetting 17 = .ok (.iload_n 1, 1) := by decide +kernel
theorem dX5_changeSetting_18 : decode cX5_changeSetting 18 = .ok (.iload_n 2, 1) := by decide +kernel
theorem dX5_changeSetting_19 : decode cX5_changeSetting 19 = .ok (.iastore, 1) := by decide +kernel
theorem dX5_changeSetting_20 : decode cX5_changeSetting 20 = .ok (.return_, 1) := by decide +kernel
theorem dX5_beginsStanza_0 : decode cX5_beginsStanza 0 = .ok (.aload_n 0, 1) := by decide +kernel
theorem dX5_beginsStanza_1 : decode cX5_beginsStanza 1 = .ok (.iload_n 1, 1) := by decide +kernel
theorem dX5_beginsStanza_2 : decode cX5_beginsStanza 2 = .ok (.iconst 1, 1) := by decide +kernel
theorem dX5_beginsStanza_3 : decode cX5_beginsStanza 3 = .ok (.isub, 1) := by decide +kernel
theorem dX5_beginsStanza_4 : decode cX5_beginsStanza 4 = .ok (.invokevirtual 32, 3) := by decide +kernel
theorem dX5_beginsStanza_7 : decode cX5_beginsStanza 7 = .ok (.astore_n 2, 1) := by decide +kernel
theorem dX5_beginsStanza_8 : decode cX5_beginsStanza 8 = .ok (.aload_n 2, 1) := by decide +kernel
theorem dX5_beginsStanza_9 : decode cX5_beginsStanza 9 = .ok (.ifnull 10, 3) := by decide +kernel
theorem dX5_beginsStanza_12 : decode cX5_beginsStanza 12 = .ok (.aload_n 2, 1) := by decide +kernel
theorem dX5_beginsStanza_13 : decode cX5_beginsStanza 13 = .ok (.getfield 36, 3) := by decide +kernel
theorem dX5_beginsStanza_16 : decode cX5_beginsStanza 16 = .ok (.ifCond .eq 7, 3) := by decide +kernel
theorem dX5_beginsStanza_19 : decode cX5_beginsStanza 19 = .ok (.iconst 1, 1) := by decide +kernel
theorem dX5_beginsStanza_20 : decode cX5_beginsStanza 20 = .ok (.goto 4, 3) := by decide +kernel
theorem dX5_beginsStanza_23 : decode cX5_beginsStanza 23 = .ok (.iconst 0, 1) := by decide +kernel
theorem dX5_beginsStanza_24 : decode cX5_beginsStanza 24 = .ok (.ireturn, 1) := by decide +kernel
theorem dX5_exchange_0 : decode cX5_exchange 0 = .ok (.iload_n 1, 1) := by decide +kernel
theorem dX5_exchange_1 : decode cX5_exchange 1 = .ok (.ifCond .lt 27, 3) := by decide +kernel
theorem dX5_exchange_4 : decode cX5_exchange 4 = .ok (.iload_n 1, 1) := by decide +kernel
theorem dX5_exchange_5 : decode cX5_exchange 5 = .ok (.aload_n 0, 1) := by decide +kernel
theorem dX5_exchange_6 : decode cX5_exchange 6 = .ok (.getfield 21, 3) := by decide +kernel
theorem dX5_exchange_9 : decode cX5_exchange 9 = .ok (.if_icmp .ge 19, 3) := by decide +kernel
theorem dX5_exchange_12 : decode cX5_exchange 12 = .ok (.iload_n 1, 1) := by decide +kernel
theorem dX5_exchange_13 : decode cX5_exchange 13 = .ok (.aload_n 0, 1) := by decide +kernel
theorem dX5_exchange_14 : decode cX5_exchange 14 = .ok (.getfield 11, 3) := by decide +kernel
theorem dX5_exchange_17 : decode cX5_exchange 17 = .ok (.arraylength, 1) := by decide +kernel
theorem dX5_exchange_18 : decode cX5_exchange 18 = .ok (.if_icmp .ge 10, 3) := by decide +kernel
theorem dX5_exchange_21 : decode cX5_exchange 21 = .ok (.aload_n 0, 1) := by decide +kernel
theorem dX5_exchange_22 : decode cX5_exchange 22 = .ok (.getfield 11, 3) := by decide +kernel
theorem dX5_exchange_25 : decode cX5_exchange 25 = .ok (.iload_n 1, 1) := by decide +kernel
theorem dX5_exchange_26 : decode cX5_exchange 26 = .ok (.aload_n 2, 1) := by decide +kernel
theorem dX5_exchange_27 : decode cX5_exchange 27 = .ok (.aastore, 1) := by decide +kernel
theorem dX5_exchange_28 : decode cX5_exchange 28 = .ok (.return_, 1) := by decide +kernel
theorem dX5_putIn_0 : decode cX5_putIn 0 = .ok (.iload_n 1, 1) := by decide +kernel
theorem dX5_putIn_1 : decode cX5_putIn 1 = .ok (.ifCond .lt 30, 3) := by decide +kernel
theorem dX5_putIn_4 : decode cX5_putIn 4 = .ok (.iload_n 1, 1) := by decide +kernel
theorem dX5_putIn_5 : decode cX5_putIn 5 = .ok (.aload_n 0, 1) := by decide +kernel
theorem dX5_putIn_6 : decode cX5_putIn 6 = .ok (.getfield 21, 3) := by decide +kernel
theorem dX5_putIn_9 : decode cX5_putIn 9 = .ok (.if_icmp .gt 22, 3) := by decide +kernel
theorem dX5_putIn_12 : decode cX5_putIn 12 = .ok (.aload_n 0, 1) := by decide +kernel
theorem dX5_putIn_13 : decode cX5_putIn 13 = .ok (.getfield 21, 3) := by decide +kernel
theorem dX5_putIn_16 : decode cX5_putIn 16 = .ok (.ifCond .lt 15, 3) := by decide +kernel
theorem dX5_putIn_19 : decode cX5_putIn 19 = .ok (.aload_n 0, 1) := by decide +kernel
theorem dX5_putIn_20 : decode cX5_putIn 20 = .ok (.getfield 21, 3) := by decide +kernel
theorem dX5_putIn_23 : decode cX5_putIn 23 = .ok (.aload_n 0, 1) := by decide +kernel
theorem dX5_putIn_24 : decode cX5_putIn 24 = .ok (.getfield 11, 3) := by decide +kernel
theorem dX5_putIn_27 : decode cX5_putIn 27 = .ok (.arraylength, 1) := by decide +kernel
theorem dX5_putIn_28 : decode cX5_putIn 28 = .ok (.if_icmp .lt 4, 3) := by decide +kernel
theorem dX5_putIn_31 : decode cX5_putIn 31 = .ok (.return_, 1) := by decide +kernel
theorem dX5_putIn_32 : decode cX5_putIn 32 = .ok (.aload_n 0, 1) := by decide +kernel
theorem dX5_putIn_33 : decode cX5_putIn 33 = .ok (.getfield 21, 3) := by decide +kernel
theorem dX5_putIn_36 : decode cX5_putIn 36 = .ok (.istore_n 3, 1) := by decide +kernel
theorem dX5_putIn_37 : decode cX5_putIn 37 = .ok (.iload_n 3, 1) := by decide +kernel
theorem dX5_putIn_38 : decode cX5_putIn 38 = .ok (.iload_n 1, 1) := by decide +kernel
theorem dX5_putIn_39 : decode cX5_putIn 39 = .ok (.if_icmp .le 23, 3) := by decide +kernel
theorem dX5_putIn_42 : decode cX5_putIn 42 = .ok (.aload_n 0, 1) := by decide +kernel
theorem dX5_putIn_43 : decode cX5_putIn 43 = .ok (.getfield 11, 3) := by decide +kernel
theorem dX5_putIn_46 : decode cX5_putIn 46 = .ok (.iload_n 3, 1) := by decide +kernel
theorem dX5_putIn_47 : decode cX5_putIn 47 = .ok (.aload_n 0, 1) := by decide +kernel
theorem dX5_putIn_48 : decode cX5_putIn 48 = .ok (.getfield 11, 3) := by decide +kernel
theorem dX5_putIn_51 : decode cX5_putIn 51 = .ok (.iload_n 3, 1) := by decide +kernel
theorem dX5_putIn_52 : decode cX5_putIn 52 = .ok (.iconst 1, 1) := by decide +kernel
theorem dX5_putIn_53 : decode cX5_putIn 53 = .ok (.isub, 1) := by decide +kernel
theorem dX5_putIn_54 : decode cX5_putIn 54 = .ok (.aaload, 1) := by decide +kernel
theorem dX5_putIn_55 : decode cX5_putIn 55 = .ok (.aastore, 1) := by decide +kernel
theorem dX5_putIn_56 : decode cX5_putIn 56 = .ok (.iinc 3 (-1), 3) := by decide +kernel
theorem dX5_putIn_59 : decode cX5_putIn 59 = .ok (.goto (-22), 3) := by decide +kernel
theorem dX5_putIn_62 : decode cX5_putIn 62 = .ok (.aload_n 0, 1) := by decide +kernel
theorem dX5_putIn_63 : decode cX5_putIn 63 = .ok (.getfield 11, 3) := by decide +kernel
theorem dX5_putIn_66 : decode cX5_putIn 66 = .ok (.iload_n 1, 1) := by decide +kernel
theorem dX5_putIn_67 : decode cX5_putIn 67 = .ok (.aload_n 2, 1) := by decide +kernel
theorem dX5_putIn_68 : decode cX5_putIn 68 = .ok (.aastore, 1) := by decide +kernel
theorem dX5_putIn_69 : decode cX5_putIn 69 = .ok (.aload_n 0, 1) := by decide +kernel
theorem dX5_putIn_70 : decode cX5_putIn 70 = .ok (.dup, 1) := by decide +kernel
theorem dX5_putIn_71 : decode cX5_putIn 71 = .ok (.getfield 21, 3) := by decide +kernel
theorem dX5_putIn_74 : decode cX5_putIn 74 = .ok (.iconst 1, 1) := by decide +kernel
theorem dX5_putIn_75 : decode cX5_putIn 75 = .ok (.iadd, 1) := by decide +kernel
theorem dX5_putIn_76 : decode cX5_putIn 76 = .ok (.putfield 21, 3) := by decide +kernel
theorem dX5_putIn_79 : decode cX5_putIn 79 = .ok (.return_, 1) := by decide +kernel
theorem dX5_takeOut_0 : decode cX5_takeOut 0 = .ok (.iload_n 1, 1) := by decide +kernel
theorem dX5_takeOut_1 : decode cX5_takeOut 1 = .ok (.ifCond .lt 23, 3) := by decide +kernel
theorem dX5_takeOut_4 : decode cX5_takeOut 4 = .ok (.iload_n 1, 1) := by decide +kernel
theorem dX5_takeOut_5 : decode cX5_takeOut 5 = .ok (.aload_n 0, 1) := by decide +kernel
theorem dX5_takeOut_6 : decode cX5_takeOut 6 = .ok (.getfield 21, 3) := by decide +kernel
theorem dX5_takeOut_9 : decode cX5_takeOut 9 = .ok (.if_icmp .ge 15, 3) := by decide +kernel
theorem dX5_takeOut_12 : decode cX5_takeOut 12 = .ok (.aload_n 0, 1) := by decide +kernel
theorem dX5_takeOut_13 : decode cX5_takeOut 13 = .ok (.getfield 21, 3) := by decide +kernel
theorem dX5_takeOut_16 : decode cX5_takeOut 16 = .ok (.aload_n 0, 1) := by decide +kernel
theorem dX5_takeOut_17 : decode cX5_takeOut 17 = .ok (.getfield 11, 3) := by decide +kernel
theorem dX5_takeOut_20 : decode cX5_takeOut 20 = .ok (.arraylength, 1) := by decide +kernel
theorem dX5_takeOut_21 : decode cX5_takeOut 21 = .ok (.if_icmp .le 4, 3) := by decide +kernel
theorem dX5_takeOut_24 : decode cX5_takeOut 24 = .ok (.return_, 1) := by decide +kernel
theorem dX5_takeOut_25 : decode cX5_takeOut 25 = .ok (.aload_n 0, 1) := by decide +kernel
theorem dX5_takeOut_26 : decode cX5_takeOut 26 = .ok (.dup, 1) := by decide +kernel
theorem dX5_takeOut_27 : decode cX5_takeOut 27 = .ok (.getfield 21, 3) := by decide +kernel
theorem dX5_takeOut_30 : decode cX5_takeOut 30 = .ok (.iconst 1, 1) := by decide +kernel
theorem dX5_takeOut_31 : decode cX5_takeOut 31 = .ok (.isub, 1) := by decide +kernel
theorem dX5_takeOut_32 : decode cX5_takeOut 32 = .ok (.putfield 21, 3) := by decide +kernel
theorem dX5_takeOut_35 : decode cX5_takeOut 35 = .ok (.iload_n 1, 1) := by decide +kernel
theorem dX5_takeOut_36 : decode cX5_takeOut 36 = .ok (.istore_n 2, 1) := by decide +kernel
theorem dX5_takeOut_37 : decode cX5_takeOut 37 = .ok (.iload_n 2, 1) := by decide +kernel
theorem dX5_takeOut_38 : decode cX5_takeOut 38 = .ok (.aload_n 0, 1) := by decide +kernel
theorem dX5_takeOut_39 : decode cX5_takeOut 39 = .ok (.getfield 21, 3) := by decide +kernel
theorem dX5_takeOut_42 : decode cX5_takeOut 42 = .ok (.if_icmp .ge 23, 3) := by decide +kernel
theorem dX5_takeOut_45 : decode cX5_takeOut 45 = .ok (.aload_n 0, 1) := by decide +kernel
theorem dX5_takeOut_46 : decode cX5_takeOut 46 = .ok (.getfield 11, 3) := by decide +kernel
theorem dX5_takeOut_49 : decode cX5_takeOut 49 = .ok (.iload_n 2, 1) := by decide +kernel
theorem dX5_takeOut_50 : decode cX5_takeOut 50 = .ok (.aload_n 0, 1) := by decide +kernel
theorem dX5_takeOut_51 : decode cX5_takeOut 51 = .ok (.getfield 11, 3) := by decide +kernel
theorem dX5_takeOut_54 : decode cX5_takeOut 54 = .ok (.iload_n 2, 1) := by decide +kernel
theorem dX5_takeOut_55 : decode cX5_takeOut 55 = .ok (.iconst 1, 1) := by decide +kernel
theorem dX5_takeOut_56 : decode cX5_takeOut 56 = .ok (.iadd, 1) := by decide +kernel
theorem dX5_takeOut_57 : decode cX5_takeOut 57 = .ok (.aaload, 1) := by decide +kernel
theorem dX5_takeOut_58 : decode cX5_takeOut 58 = .ok (.aastore, 1) := by decide +kernel
theorem dX5_takeOut_59 : decode cX5_takeOut 59 = .ok (.iinc 2 1, 3) := by decide +kernel
theorem dX5_takeOut_62 : decode cX5_takeOut 62 = .ok (.goto (-25), 3) := by decide +kernel
theorem dX5_takeOut_65 : decode cX5_takeOut 65 = .ok (.aload_n 0, 1) := by decide +kernel
theorem dX5_takeOut_66 : decode cX5_takeOut 66 = .ok (.getfield 11, 3) := by decide +kernel
theorem dX5_takeOut_69 : decode cX5_takeOut 69 = .ok (.aload_n 0, 1) := by decide +kernel
theorem dX5_takeOut_70 : decode cX5_takeOut 70 = .ok (.getfield 21, 3) := by decide +kernel
theorem dX5_takeOut_73 : decode cX5_takeOut 73 = .ok (.aconst_null, 1) := by decide +kernel
theorem dX5_takeOut_74 : decode cX5_takeOut 74 = .ok (.aastore, 1) := by decide +kernel
theorem dX5_takeOut_75 : decode cX5_takeOut 75 = .ok (.return_, 1) := by decide +kernel
theorem dX5_becomeLike_0 : decode cX5_becomeLike 0 = .ok (.aload_n 0, 1) := by decide +kernel
theorem dX5_becomeLike_1 : decode cX5_becomeLike 1 = .ok (.aload_n 1, 1) := by decide +kernel
theorem dX5_becomeLike_2 : decode cX5_becomeLike 2 = .ok (.getfield 21, 3) := by decide +kernel
theorem dX5_becomeLike_5 : decode cX5_becomeLike 5 = .ok (.putfield 21, 3) := by decide +kernel
theorem dX5_becomeLike_8 : decode cX5_becomeLike 8 = .ok (.iconst 0, 1) := by decide +kernel
theorem dX5_becomeLike_9 : decode cX5_becomeLike 9 = .ok (.istore_n 2, 1) := by decide +kernel
theorem dX5_becomeLike_10 : decode cX5_becomeLike 10 = .ok (.iload_n 2, 1) := by decide +kernel
theorem dX5_becomeLike_11 : decode cX5_becomeLike 11 = .ok (.aload_n 0, 1) := by decide +kernel
theorem dX5_becomeLike_12 : decode cX5_becomeLike 12 = .ok (.getfield 11, 3) := by decide +kernel
theorem dX5_becomeLike_15 : decode cX5_becomeLike 15 = .ok (.arraylength, 1) := by decide +kernel
theorem dX5_becomeLike_16 : decode cX5_becomeLike 16 = .ok (.if_icmp .ge 20, 3) := by decide +kernel
theorem dX5_becomeLike_19 : decode cX5_becomeLike 19 = .ok (.aload_n 0, 1) := by decide +kernel
theorem dX5_becomeLike_20 : decode cX5_becomeLike 20 = .ok (.getfield 11, 3) := by decide +kernel
theorem dX5_becomeLike_23 : decode cX5_becomeLike 23 = .ok (.iload_n 2, 1) := by decide +kernel
theorem dX5_becomeLike_24 : decode cX5_becomeLike 24 = .ok (.aload_n 1, 1) := by decide +kernel
theorem dX5_becomeLike_25 : decode cX5_becomeLike 25 = .ok (.iload_n 2, 1) := by decide +kernel
theorem dX5_becomeLike_26 : decode cX5_becomeLike 26 = .ok (.invokevirtual 32, 3) := by decide +kernel
theorem dX5_becomeLike_29 : decode cX5_becomeLike 29 = .ok (.aastore, 1) := by decide +kernel
theorem dX5_becomeLike_30 : decode cX5_becomeLike 30 = .ok (.iinc 2 1, 3) := by decide +kernel
theorem dX5_becomeLike_33 : decode cX5_becomeLike 33 = .ok (.goto (-23), 3) := by decide +kernel
theorem dX5_becomeLike_36 : decode cX5_becomeLike 36 = .ok (.iconst 0, 1) := by decide +kernel
theorem dX5_becomeLike_37 : decode cX5_becomeLike 37 = .ok (.istore_n 2, 1) := by decide +kernel
theorem dX5_becomeLike_38 : decode cX5_becomeLike 38 = .ok (.iload_n 2, 1) := by decide +kernel
theorem dX5_becomeLike_39 : decode cX5_becomeLike 39 = .ok (.aload_n 0, 1) := by decide +kernel
theorem dX5_becomeLike_40 : decode cX5_becomeLike 40 = .ok (.getfield 17, 3) := by decide +kernel
theorem dX5_becomeLike_43 : decode cX5_becomeLike 43 = .ok (.arraylength, 1) := by decide +kernel
theorem dX5_becomeLike_44 : decode cX5_becomeLike 44 = .ok (.if_icmp .ge 20, 3) := by decide +kernel
theorem dX5_becomeLike_47 : decode cX5_becomeLike 47 = .ok (.aload_n 0, 1) := by decide +kernel
theorem dX5_becomeLike_48 : decode cX5_becomeLike 48 = .ok (.getfield 17, 3) := by decide +kernel
theorem dX5_becomeLike_51 : decode cX5_becomeLike 51 = .ok (.iload_n 2, 1) := by decide +kernel
theorem dX5_becomeLike_52 : decode cX5_becomeLike 52 = .ok (.aload_n 1, 1) := by decide +kernel
theorem dX5_becomeLike_53 : decode cX5_becomeLike 53 = .ok (.iload_n 2, 1) := by decide +kernel
theorem dX5_becomeLike_54 : decode cX5_becomeLike 54 = .ok (.invokevirtual 44, 3) := by decide +kernel
theorem dX5_becomeLike_57 : decode cX5_becomeLike 57 = .ok (.iastore, 1) := by decide +kernel
theorem dX5_becomeLike_58 : decode cX5_becomeLike 58 = .ok (.iinc 2 1, 3) := by decide +kernel
theorem dX5_becomeLike_61 : decode cX5_becomeLike 61 = .ok (.goto (-23), 3) := by decide +kernel
theorem dX5_becomeLike_64 : decode cX5_becomeLike 64 = .ok (.return_, 1) := by decide +kernel
theorem dX6_init_0 : decode cX6_init 0 = .ok (.aload_n 0, 1) := by decide +kernel
theorem dX6_init_1 : decode cX6_init 1 = .ok (.invokespecial 1, 3) := by decide +kernel
theorem dX6_init_4 : decode cX6_init 4 = .ok (.return_, 1) := by decide +kernel
theorem dX6_end_0 : decode cX6_end 0 = .ok (.aload_n 0, 1) := by decide +kernel
theorem dX6_end_1 : decode cX6_end 1 = .ok (.getfield 7, 3) := by decide +kernel
theorem dX6_end_4 : decode cX6_end 4 = .ok (.aload_n 0, 1) := by decide +kernel
theorem dX6_end_5 : decode cX6_end 5 = .ok (.getfield 13, 3) := by decide +kernel
theorem dX6_end_8 : decode cX6_end 8 = .ok (.iadd, 1) := by decide +kernel
theorem dX6_end_9 : decode cX6_end 9 = .ok (.ireturn, 1) := by decide +kernel
theorem dX7_init_0 : decode cX7_init 0 = .ok (.aload_n 0, 1) := by decide +kernel
theorem dX7_init_1 : decode cX7_init 1 = .ok (.invokespecial 1, 3) := by decide +kernel
theorem dX7_init_4 : decode cX7_init 4 = .ok (.return_, 1) := by decide +kernel
theorem dX8_init_0 : decode cX8_init 0 = .ok (.aload_n 0, 1) := by decide +kernel
theorem dX8_init_1 : decode cX8_init 1 = .ok (.invokespecial 3, 3) := by decide +kernel
theorem dX8_init_4 : decode cX8_init 4 = .ok (.aload_n 0, 1) := by decide +kernel
theorem dX8_init_5 : decode cX8_init 5 = .ok (.bipush 80, 2) := by decide +kernel
theorem dX8_init_7 : decode cX8_init 7 = .ok (.newarray .byte, 2) := by decide +kernel
theorem dX8_init_9 : decode cX8_init 9 = .ok (.putfield 9, 3) := by decide +kernel
theorem dX8_init_12 : decode cX8_init 12 = .ok (.aload_n 0, 1) := by decide +kernel
theorem dX8_init_13 : decode cX8_init 13 = .ok (.iconst 0, 1) := by decide +kernel
theorem dX8_init_14 : decode cX8_init 14 = .ok (.putfield 15, 3) := by decide +kernel
theorem dX8_init_17 : decode cX8_init 17 = .ok (.return_, 1) := by decide +kernel
theorem dX8_append_0 : decode cX8_append 0 = .ok (.aload_n 0, 1) := by decide +kernel
theorem dX8_append_1 : decode cX8_append 1 = .ok (.getfield 15, 3) := by decide +kernel
theorem dX8_append_4 : decode cX8_append 4 = .ok (.ifCond .lt 36, 3) := by decide +kernel
theorem dX8_append_7 : decode cX8_append 7 = .ok (.aload_n 0, 1) := by decide +kernel
theorem dX8_append_8 : decode cX8_append 8 = .ok (.getfield 15, 3) := by decide +kernel
theorem dX8_append_11 : decode cX8_append 11 = .ok (.aload_n 0, 1) := by decide +kernel
theorem dX8_append_12 : decode cX8_append 12 = .ok (.getfield 9, 3) := by decide +kernel
theorem dX8_append_15 : decode cX8_append 15 = .ok (.arraylength, 1) := by decide +kernel
theorem dX8_append_16 : decode cX8_append 16 = .ok (.if_icmp .ge 24, 3) := by decide +kernel
theorem dX8_append_19 : decode cX8_append 19 = .ok (.aload_n 0, 1) := by decide +kernel
theorem dX8_append_20 : decode cX8_append 20 = .ok (.getfield 9, 3) := by decide +kernel
theorem dX8_append_23 : decode cX8_append 23 = .ok (.aload_n 0, 1) := by decide +kernel
theorem dX8_append_24 : decode cX8_append 24 = .ok (.getfield 15, 3) := by decide +kernel
theorem dX8_append_27 : decode cX8_append 27 = .ok (.iload_n 1, 1) := by decide +kernel
theorem dX8_append_28 : decode cX8_append 28 = .ok (.i2b, 1) := by decide +kernel
theorem dX8_append_29 : decode cX8_append 29 = .ok (.bastore, 1) := by decide +kernel
theorem dX8_append_30 : decode cX8_append 30 = .ok (.aload_n 0, 1) := by decide +kernel
theorem dX8_append_31 : decode cX8_append 31 = .ok (.dup, 1) := by decide +kernel
theorem dX8_append_32 : decode cX8_append 32 = .ok (.getfield 15, 3) := by decide +kernel
theorem dX8_append_35 : decode cX8_append 35 = .ok (.iconst 1, 1) := by decide +kernel
theorem dX8_append_36 : decode cX8_append 36 = .ok (.iadd, 1) := by decide +kernel
theorem dX8_append_37 : decode cX8_append 37 = .ok (.putfield 15, 3) := by decide +kernel
theorem dX8_append_40 : decode cX8_append 40 = .ok (.return_, 1) := by decide +kernel
theorem dX8_byteAt_0 : decode cX8_byteAt 0 = .ok (.iload_n 1, 1) := by decide +kernel
theorem dX8_byteAt_1 : decode cX8_byteAt 1 = .ok (.ifCond .lt 20, 3) := by decide +kernel
theorem dX8_byteAt_4 : decode cX8_byteAt 4 = .ok (.iload_n 1, 1) := by decide +kernel
theorem dX8_byteAt_5 : decode cX8_byteAt 5 = .ok (.aload_n 0, 1) := by decide +kernel
theorem dX8_byteAt_6 : decode cX8_byteAt 6 = .ok (.getfield 15, 3) := by decide +kernel
theorem dX8_byteAt_9 : decode cX8_byteAt 9 = .ok (.if_icmp .ge 12, 3) := by decide +kernel
theorem dX8_byteAt_12 : decode cX8_byteAt 12 = .ok (.iload_n 1, 1) := by decide +kernel
theorem dX8_byteAt_13 : decode cX8_byteAt 13 = .ok (.aload_n 0, 1) := by decide +kernel
theorem dX8_byteAt_14 : decode cX8_byteAt 14 = .ok (.getfield 9, 3) := by decide +kernel
theorem dX8_byteAt_17 : decode cX8_byteAt 17 = .ok (.arraylength, 1) := by decide +kernel
theorem dX8_byteAt_18 : decode cX8_byteAt 18 = .ok (.if_icmp .lt 7, 3) := by decide +kernel
theorem dX8_byteAt_21 : decode cX8_byteAt 21 = .ok (.iconst (-1), 1) := by decide +kernel
theorem dX8_byteAt_22 : decode cX8_byteAt 22 = .ok (.goto 9, 3) := by decide +kernel
theorem dX8_byteAt_25 : decode cX8_byteAt 25 = .ok (.aload_n 0, 1) := by decide +kernel
theorem dX8_byteAt_26 : decode cX8_byteAt 26 = .ok (.getfield 9, 3) := by decide +kernel
theorem dX8_byteAt_29 : decode cX8_byteAt 29 = .ok (.iload_n 1, 1) := by decide +kernel
theorem dX8_byteAt_30 : decode cX8_byteAt 30 = .ok (.baload, 1) := by decide +kernel
theorem dX8_byteAt_31 : decode cX8_byteAt 31 = .ok (.ireturn, 1) := by decide +kernel
theorem dX8_lineFault_0 : decode cX8_lineFault 0 = .ok (.aload_n 0, 1) := by decide +kernel
theorem dX8_lineFault_1 : decode cX8_lineFault 1 = .ok (.iconst 0, 1) := by decide +kernel
theorem dX8_lineFault_2 : decode cX8_lineFault 2 = .ok (.invokevirtual 19, 3) := by decide +kernel
theorem dX8_lineFault_5 : decode cX8_lineFault 5 = .ok (.istore_n 1, 1) := by decide +kernel
theorem dX8_lineFault_6 : decode cX8_lineFault 6 = .ok (.aload_n 0, 1) := by decide +kernel
theorem dX8_lineFault_7 : decode cX8_lineFault 7 = .ok (.iload_n 1, 1) := by decide +kernel
theorem dX8_lineFault_8 : decode cX8_lineFault 8 = .ok (.invokevirtual 23, 3) := by decide +kernel
theorem dX8_lineFault_11 : decode cX8_lineFault 11 = .ok (.bipush 126, 2) := by decide +kernel
theorem dX8_lineFault_13 : decode cX8_lineFault 13 = .ok (.if_icmp .ne 11, 3) := by decide +kernel
theorem dX8_lineFault_16 : decode cX8_lineFault 16 = .ok (.aload_n 0, 1) := by decide +kernel
theorem dX8_lineFault_17 : decode cX8_lineFault 17 = .ok (.iload_n 1, 1) := by decide +kernel
theorem dX8_lineFault_18 : decode cX8_lineFault 18 = .ok (.iconst 1, 1) := by decide +kernel
theorem dX8_lineFault_19 : decode cX8_lineFault 19 = .ok (.iadd, 1) := by decide +kernel
theorem dX8_lineFault_20 : decode cX8_lineFault 20 = .ok (.invokevirtual 19, 3) := by decide +kernel
theorem dX8_lineFault_23 : decode cX8_lineFault 23 = .ok (.istore_n 1, 1) := by decide +kernel
theorem dX8_lineFault_24 : decode cX8_lineFault 24 = .ok (.iconst 0, 1) := by decide +kernel
theorem dX8_lineFault_25 : decode cX8_lineFault 25 = .ok (.istore_n 2, 1) := by decide +kernel
theorem dX8_lineFault_26 : decode cX8_lineFault 26 = .ok (.iload_n 2, 1) := by decide +kernel
theorem dX8_lineFault_27 : decode cX8_lineFault 27 = .ok (.iconst 5, 1) := by decide +kernel
theorem dX8_lineFault_28 : decode cX8_lineFault 28 = .ok (.if_icmp .ge 27, 3) := by decide +kernel
theorem dX8_lineFault_31 : decode cX8_lineFault 31 = .ok (.aload_n 0, 1) := by decide +kernel
theorem dX8_lineFault_32 : decode cX8_lineFault 32 = .ok (.iload_n 1, 1) := by decide +kernel
theorem dX8_lineFault_33 : decode cX8_lineFault 33 = .ok (.invokevirtual 23, 3) := by decide +kernel
theorem dX8_lineFault_36 : decode cX8_lineFault 36 = .ok (.bipush 62, 2) := by decide +kernel
theorem dX8_lineFault_38 : decode cX8_lineFault 38 = .ok (.if_icmp .ne 17, 3) := by decide +kernel
theorem dX8_lineFault_41 : decode cX8_lineFault 41 = .ok (.aload_n 0, 1) := by decide +kernel
theorem dX8_lineFault_42 : decode cX8_lineFault 42 = .ok (.iload_n 1, 1) := by decide +kernel
theorem dX8_lineFault_43 : decode cX8_lineFault 43 = .ok (.iconst 1, 1) := by decide +kernel
theorem dX8_lineFault_44 : decode cX8_lineFault 44 = .ok (.iadd, 1) := by decide +kernel
theorem dX8_lineFault_45 : decode cX8_lineFault 45 = .ok (.invokevirtual 19, 3) := by decide +kernel
theorem dX8_lineFault_48 : decode cX8_lineFault 48 = .ok (.istore_n 1, 1) := by decide +kernel
theorem dX8_lineFault_49 : decode cX8_lineFault 49 = .ok (.iinc 2 1, 3) := by decide +kernel
theorem dX8_lineFault_52 : decode cX8_lineFault 52 = .ok (.goto (-26), 3) := by decide +kernel
theorem dX8_lineFault_55 : decode cX8_lineFault 55 = .ok (.aload_n 0, 1) := by decide +kernel
theorem dX8_lineFault_56 : decode cX8_lineFault 56 = .ok (.iload_n 1, 1) := by decide +kernel
theorem dX8_lineFault_57 : decode cX8_lineFault 57 = .ok (.invokevirtual 23, 3) := by decide +kernel
theorem dX8_lineFault_60 : decode cX8_lineFault 60 = .ok (.invokestatic 26, 3) := by decide +kernel
theorem dX8_lineFault_63 : decode cX8_lineFault 63 = .ok (.ifCond .ne 5, 3) := by decide +kernel
theorem dX8_lineFault_66 : decode cX8_lineFault 66 = .ok (.iload_n 1, 1) := by decide +kernel
theorem dX8_lineFault_67 : decode cX8_lineFault 67 = .ok (.ireturn, 1) := by decide +kernel
theorem dX8_lineFault_68 : decode cX8_lineFault 68 = .ok (.iconst 0, 1) := by decide +kernel
theorem dX8_lineFault_69 : decode cX8_lineFault 69 = .ok (.istore_n 2, 1) := by decide +kernel
theorem dX8_lineFault_70 : decode cX8_lineFault 70 = .ok (.iload_n 2, 1) := by decide +kernel
theorem dX8_lineFault_71 : decode cX8_lineFault 71 = .ok (.bipush 80, 2) := by decide +kernel
theorem dX8_lineFault_73 : decode cX8_lineFault 73 = .ok (.if_icmp .ge 45, 3) := by decide +kernel
theorem dX8_lineFault_76 : decode cX8_lineFault 76 = .ok (.aload_n 0, 1) := by decide +kernel
theorem dX8_lineFault_77 : decode cX8_lineFault 77 = .ok (.iload_n 1, 1) := by decide +kernel
theorem dX8_lineFault_78 : decode cX8_lineFault 78 = .ok (.invokevirtual 23, 3) := by decide +kernel
theorem dX8_lineFault_81 : decode cX8_lineFault 81 = .ok (.invokestatic 26, 3) := by decide +kernel
theorem dX8_lineFault_84 : decode cX8_lineFault 84 = .ok (.ifCond .eq 34, 3) := by decide +kernel
theorem dX8_lineFault_87 : decode cX8_lineFault 87 = .ok (.aload_n 0, 1) := by decide +kernel
theorem dX8_lineFault_88 : decode cX8_lineFault 88 = .ok (.iload_n 1, 1) := by decide +kernel
theorem dX8_lineFault_89 : decode cX8_lineFault 89 = .ok (.invokevirtual 30, 3) := by decide +kernel
theorem dX8_lineFault_92 : decode cX8_lineFault 92 = .ok (.istore_n 3, 1) := by decide +kernel
theorem dX8_lineFault_93 : decode cX8_lineFault 93 = .ok (.iload_n 3, 1) := by decide +kernel
theorem dX8_lineFault_94 : decode cX8_lineFault 94 = .ok (.iload_n 1, 1) := by decide +kernel
theorem dX8_lineFault_95 : decode cX8_lineFault 95 = .ok (.isub, 1) := by decide +kernel
theorem dX8_lineFault_96 : decode cX8_lineFault 96 = .ok (.bipush 16, 2) := by decide +kernel
theorem dX8_lineFault_98 : decode cX8_lineFault 98 = .ok (.if_icmp .le 8, 3) := by decide +kernel
theorem dX8_lineFault_101 : decode cX8_lineFault 101 = .ok (.iload_n 1, 1) := by decide +kernel
theorem dX8_lineFault_102 : decode cX8_lineFault 102 = .ok (.bipush 16, 2) := by decide +kernel
theorem dX8_lineFault_104 : decode cX8_lineFault 104 = .ok (.iadd, 1) := by decide +kernel
theorem dX8_lineFault_105 : decode cX8_lineFault 105 = .ok (.ireturn, 1) := by decide +kernel
theorem dX8_lineFault_106 : decode cX8_lineFault 106 = .ok (.aload_n 0, 1) := by decide +kernel
theorem dX8_lineFault_107 : decode cX8_lineFault 107 = .ok (.iload_n 3, 1) := by decide +kernel
theorem dX8_lineFault_108 : decode cX8_lineFault 108 = .ok (.invokevirtual 19, 3) := by decide +kernel
theorem dX8_lineFault_111 : decode cX8_lineFault 111 = .ok (.istore_n 1, 1) := by decide +kernel
theorem dX8_lineFault_112 : decode cX8_lineFault 112 = .ok (.iinc 2 1, 3) := by decide +kernel
theorem dX8_lineFault_115 : decode cX8_lineFault 115 = .ok (.goto (-45), 3) := by decide +kernel
theorem dX8_lineFault_118 : decode cX8_lineFault 118 = .ok (.aload_n 0, 1) := by decide +kernel
theorem dX8_lineFault_119 : decode cX8_lineFault 119 = .ok (.iload_n 1, 1) := by decide +kernel
theorem dX8_lineFault_120 : decode cX8_lineFault 120 = .ok (.invokevirtual 23, 3) := by decide +kernel
theorem dX8_lineFault_123 : decode cX8_lineFault 123 = .ok (.bipush 47, 2) := by decide +kernel
theorem dX8_lineFault_125 : decode cX8_lineFault 125 = .ok (.if_icmp .ne 11, 3) := by decide +kernel
theorem dX8_lineFault_128 : decode cX8_lineFault 128 = .ok (.aload_n 0, 1) := by decide +kernel
theorem dX8_lineFault_129 : decode cX8_lineFault 129 = .ok (.iload_n 1, 1) := by decide +kernel
theorem dX8_lineFault_130 : decode cX8_lineFault 130 = .ok (.iconst 1, 1) := by decide +kernel
theorem dX8_lineFault_131 : decode cX8_lineFault 131 = .ok (.iadd, 1) := by decide +kernel
theorem dX8_lineFault_132 : decode cX8_lineFault 132 = .ok (.invokevirtual 19, 3) := by decide +kernel
theorem dX8_lineFault_135 : decode cX8_lineFault 135 = .ok (.istore_n 1, 1) := by decide +kernel
theorem dX8_lineFault_136 : decode cX8_lineFault 136 = .ok (.iload_n 1, 1) := by decide +kernel
theorem dX8_lineFault_137 : decode cX8_lineFault 137 = .ok (.aload_n 0, 1) := by decide +kernel
theorem dX8_lineFault_138 : decode cX8_lineFault 138 = .ok (.getfield 15, 3) := by decide +kernel
theorem dX8_lineFault_141 : decode cX8_lineFault 141 = .ok (.if_icmp .ge 7, 3) := by decide +kernel
theorem dX8_lineFault_144 : decode cX8_lineFault 144 = .ok (.iload_n 1, 1) := by decide +kernel
theorem dX8_lineFault_145 : decode cX8_lineFault 145 = .ok (.goto 4, 3) := by decide +kernel
theorem dX8_lineFault_148 : decode cX8_lineFault 148 = .ok (.iconst (-1), 1) := by decide +kernel
theorem dX8_lineFault_149 : decode cX8_lineFault 149 = .ok (.ireturn, 1) := by decide +kernel
theorem dX8_shapeFault_0 : decode cX8_shapeFault 0 = .ok (.aload_n 0, 1) := by decide +kernel
theorem dX8_shapeFault_1 : decode cX8_shapeFault 1 = .ok (.invokevirtual 33, 3) := by decide +kernel
theorem dX8_shapeFault_4 : decode cX8_shapeFault 4 = .ok (.iconst (-1), 1) := by decide +kernel
theorem dX8_shapeFault_5 : decode cX8_shapeFault 5 = .ok (.if_icmp .ne 9, 3) := by decide +kernel
theorem dX8_shapeFault_8 : decode cX8_shapeFault 8 = .ok (.aload_n 0, 1) := by decide +kernel
theorem dX8_shapeFault_9 : decode cX8_shapeFault 9 = .ok (.iconst 0, 1) := by decide +kernel
theorem dX8_shapeFault_10 : decode cX8_shapeFault 10 = .ok (.invokevirtual 19, 3) := by decide +kernel
theorem dX8_shapeFault_13 : decode cX8_shapeFault 13 = .ok (.ireturn, 1) := by decide +kernel
theorem dX8_shapeFault_14 : decode cX8_shapeFault 14 = .ok (.aload_n 0, 1) := by decide +kernel
theorem dX8_shapeFault_15 : decode cX8_shapeFault 15 = .ok (.aload_n 0, 1) := by decide +kernel
theorem dX8_shapeFault_16 : decode cX8_shapeFault 16 = .ok (.aload_n 0, 1) := by decide +kernel
theorem dX8_shapeFault_17 : decode cX8_shapeFault 17 = .ok (.iconst 0, 1) := by decide +kernel
theorem dX8_shapeFault_18 : decode cX8_shapeFault 18 = .ok (.invokevirtual 19, 3) := by decide +kernel
theorem dX8_shapeFault_21 : decode cX8_shapeFault 21 = .ok (.invokevirtual 30, 3) := by decide +kernel
theorem dX8_shapeFault_24 : decode cX8_shapeFault 24 = .ok (.invokevirtual 19, 3) := by decide +kernel
theorem dX8_shapeFault_27 : decode cX8_shapeFault 27 = .ok (.istore_n 1, 1) := by decide +kernel
theorem dX8_shapeFault_28 : decode cX8_shapeFault 28 = .ok (.iload_n 1, 1) := by decide +kernel
theorem dX8_shapeFault_29 : decode cX8_shapeFault 29 = .ok (.aload_n 0, 1) := by decide +kernel
theorem dX8_shapeFault_30 : decode cX8_shapeFault 30 = .ok (.getfield 15, 3) := by decide +kernel
theorem dX8_shapeFault_33 : decode cX8_shapeFault 33 = .ok (.if_icmp .ge 7, 3) := by decide +kernel
theorem dX8_shapeFault_36 : decode cX8_shapeFault 36 = .ok (.iload_n 1, 1) := by decide +kernel
theorem dX8_shapeFault_37 : decode cX8_shapeFault 37 = .ok (.goto 4, 3) := by decide +kernel
theorem dX8_shapeFault_40 : decode cX8_shapeFault 40 = .ok (.iconst (-1), 1) := by decide +kernel
theorem dX8_shapeFault_41 : decode cX8_shapeFault 41 = .ok (.ireturn, 1) := by decide +kernel
theorem dX8_namedShape_0 : decode cX8_namedShape 0 = .ok (.aload_n 0, 1) := by decide +kernel
theorem dX8_namedShape_1 : decode cX8_namedShape 1 = .ok (.iconst 0, 1) := by decide +kernel
theorem dX8_namedShape_2 : decode cX8_namedShape 2 = .ok (.invokevirtual 19, 3) := by decide +kernel
theorem dX8_namedShape_5 : decode cX8_namedShape 5 = .ok (.istore_n 1, 1) := by decide +kernel
theorem dX8_namedShape_6 : decode cX8_namedShape 6 = .ok (.aload_n 0, 1) := by decide +kernel
theorem dX8_namedShape_7 : decode cX8_namedShape 7 = .ok (.iload_n 1, 1) := by decide +kernel
theorem dX8_namedShape_8 : decode cX8_namedShape 8 = .ok (.invokevirtual 30, 3) := by decide +kernel
theorem dX8_namedShape_11 : decode cX8_namedShape 11 = .ok (.istore_n 2, 1) := by decide +kernel
theorem dX8_namedShape_12 : decode cX8_namedShape 12 = .ok (.iconst 0, 1) := by decide +kernel
theorem dX8_namedShape_13 : decode cX8_namedShape 13 = .ok (.istore_n 3, 1) := by decide +kernel
theorem dX8_namedShape_14 : decode cX8_namedShape 14 = .ok (.iload_n 3, 1) := by decide +kernel
theorem dX8_namedShape_15 : decode cX8_namedShape 15 = .ok (.iconst 4, 1) := by decide +kernel
theorem dX8_namedShape_16 : decode cX8_namedShape 16 = .ok (.if_icmp .ge 24, 3) := by decide +kernel
theorem dX8_namedShape_19 : decode cX8_namedShape 19 = .ok (.aload_n 0, 1) := by decide +kernel
theorem dX8_namedShape_20 : decode cX8_namedShape 20 = .ok (.iload_n 1, 1) := by decide +kernel
theorem dX8_namedShape_21 : decode cX8_namedShape 21 = .ok (.iload_n 2, 1) := by decide +kernel
theorem dX8_namedShape_22 : decode cX8_namedShape 22 = .ok (.iload_n 3, 1) := by decide +kernel
theorem dX8_namedShape_23 : decode cX8_namedShape 23 = .ok (.invokestatic 37, 3) := by decide +kernel
theorem dX8_namedShape_26 : decode cX8_namedShape 26 = .ok (.invokevirtual 41, 3) := by decide +kernel
theorem dX8_namedShape_29 : decode cX8_namedShape 29 = .ok (.ifCond .eq 5, 3) := by decide +kernel
theorem dX8_namedShape_32 : decode cX8_namedShape 32 = .ok (.iload_n 3, 1) := by decide +kernel
theorem dX8_namedShape_33 : decode cX8_namedShape 33 = .ok (.ireturn, 1) := by decide +kernel
theorem dX8_namedShape_34 : decode cX8_namedShape 34 = .ok (.iinc 3 1, 3) := by decide +kernel
theorem dX8_namedShape_37 : decode cX8_namedShape 37 = .ok (.goto (-23), 3) := by decide +kernel
theorem dX8_namedShape_40 : decode cX8_namedShape 40 = .ok (.iconst (-1), 1) := by decide +kernel
theorem dX8_namedShape_41 : decode cX8_namedShape 41 = .ok (.ireturn, 1) := by decide +kernel
theorem dX8_toLine_0 : decode cX8_toLine 0 = .ok (.new 45, 3) := by decide +kernel
theorem dX8_toLine_3 : decode cX8_toLine 3 = .ok (.dup, 1) := by decide +kernel
theorem dX8_toLine_4 : decode cX8_toLine 4 = .ok (.invokespecial 47, 3) := by decide +kernel
theorem dX8_toLine_7 : decode cX8_toLine 7 = .ok (.astore_n 1, 1) := by decide +kernel
theorem dX8_toLine_8 : decode cX8_toLine 8 = .ok (.iconst 0, 1) := by decide +kernel
theorem dX8_toLine_9 : decode cX8_toLine 9 = .ok (.istore_n 2, 1) := by decide +kernel
theorem dX8_toLine_10 : decode cX8_toLine 10 = .ok (.iconst 0, 1) := by decide +kernel
theorem dX8_toLine_11 : decode cX8_toLine 11 = .ok (.istore_n 3, 1) := by decide +kernel
theorem dX8_toLine_12 : decode cX8_toLine 12 = .ok (.iconst 0, 1) := by decide +kernel
theorem dX8_toLine_13 : decode cX8_toLine 13 = .ok (.istore 4, 2) := by decide +kernel
theorem dX8_toLine_15 : decode cX8_toLine 15 = .ok (.iconst 0, 1) := by decide +kernel
theorem dX8_toLine_16 : decode cX8_toLine 16 = .ok (.istore 5, 2) := by decide +kernel
theorem dX8_toLine_18 : decode cX8_toLine 18 = .ok (.iload 5, 2) := by decide +kernel
theorem dX8_toLine_20 : decode cX8_toLine 20 = .ok (.aload_n 0, 1) := by decide +kernel
theorem dX8_toLine_21 : decode cX8_toLine 21 = .ok (.getfield 15, 3) := by decide +kernel
theorem dX8_toLine_24 : decode cX8_toLine 24 = .ok (.if_icmp .ge 87, 3) := by decide +kernel
theorem dX8_toLine_27 : decode cX8_toLine 27 = .ok (.aload_n 0, 1) := by decide +kernel
theorem dX8_toLine_28 : decode cX8_toLine 28 = .ok (.iload 5, 2) := by decide +kernel
theorem dX8_toLine_30 : decode cX8_toLine 30 = .ok (.invokevirtual 23, 3) := by decide +kernel
theorem dX8_toLine_33 : decode cX8_toLine 33 = .ok (.istore 6, 2) := by decide +kernel
theorem dX8_toLine_35 : decode cX8_toLine 35 = .ok (.iload 6, 2) := by decide +kernel
theorem dX8_toLine_37 : decode cX8_toLine 37 = .ok (.invokestatic 26, 3) := by decide +kernel
theorem dX8_toLine_40 : decode cX8_toLine 40 = .ok (.ifCond .eq 31, 3) := by decide +kernel
theorem dX8_toLine_43 : decode cX8_toLine 43 = .ok (.aload_n 1, 1) := by decide +kernel
theorem dX8_toLine_44 : decode cX8_toLine 44 = .ok (.iload 6, 2) := by decide +kernel
theorem dX8_toLine_46 : decode cX8_toLine 46 = .ok (.aload_n 0, 1) := by decide +kernel
theorem dX8_toLine_47 : decode cX8_toLine 47 = .ok (.iload 5, 2) := by decide +kernel
theorem dX8_toLine_49 : decode cX8_toLine 49 = .ok (.iconst 1, 1) := by decide +kernel
theorem dX8_toLine_50 : decode cX8_toLine 50 = .ok (.isub, 1) := by decide +kernel
theorem dX8_toLine_51 : decode cX8_toLine 51 = .ok (.invokevirtual 23, 3) := by decide +kernel
theorem dX8_toLine_54 : decode cX8_toLine 54 = .ok (.invokestatic 26, 3) := by decide +kernel
theorem dX8_toLine_57 : decode cX8_toLine 57 = .ok (.ifCond .ne 7, 3) := by decide +kernel
theorem dX8_toLine_60 : decode cX8_toLine 60 = .ok (.iconst 1, 1) := by decide +kernel
theorem dX8_toLine_61 : decode cX8_toLine 61 = .ok (.goto 4, 3) := by decide +kernel
theorem dX8_toLine_64 : decode cX8_toLine 64 = .ok (.iconst 0, 1) := by decide +kernel
theorem dX8_toLine_65 : decode cX8_toLine 65 = .ok (.invokevirtual 48, 3) := by decide +kernel
theorem dX8_toLine_68 : decode cX8_toLine 68 = .ok (.goto 37, 3) := by decide +kernel
theorem dX8_toLine_71 : decode cX8_toLine 71 = .ok (.iload 6, 2) := by decide +kernel
theorem dX8_toLine_73 : decode cX8_toLine 73 = .ok (.bipush 126, 2) := by decide +kernel
theorem dX8_toLine_75 : decode cX8_toLine 75 = .ok (.if_icmp .ne 8, 3) := by decide +kernel
theorem dX8_toLine_78 : decode cX8_toLine 78 = .ok (.iconst 1, 1) := by decide +kernel
theorem dX8_toLine_79 : decode cX8_toLine 79 = .ok (.istore_n 2, 1) := by decide +kernel
theorem dX8_toLine_80 : decode cX8_toLine 80 = .ok (.goto 25, 3) := by decide +kernel
theorem dX8_toLine_83 : decode cX8_toLine 83 = .ok (.iload 6, 2) := by decide +kernel
theorem dX8_toLine_85 : decode cX8_toLine 85 = .ok (.bipush 62, 2) := by decide +kernel
theorem dX8_toLine_87 : decode cX8_toLine 87 = .ok (.if_icmp .ne 9, 3) := by decide +kernel
theorem dX8_toLine_90 : decode cX8_toLine 90 = .ok (.iinc 4 1, 3) := by decide +kernel
theorem dX8_toLine_93 : decode cX8_toLine 93 = .ok (.goto 12, 3) := by decide +kernel
theorem dX8_toLine_96 : decode cX8_toLine 96 = .ok (.iload 6, 2) := by decide +kernel
theorem dX8_toLine_98 : decode cX8_toLine 98 = .ok (.bipush 47, 2) := by decide +kernel
theorem dX8_toLine_100 : decode cX8_toLine 100 = .ok (.if_icmp .ne 5, 3) := by decide +kernel
theorem dX8_toLine_103 : decode cX8_toLine 103 = .ok (.iconst 1, 1) := by decide +kernel
theorem dX8_toLine_104 : decode cX8_toLine 104 = .ok (.istore_n 3, 1) := by decide +kernel
theorem dX8_toLine_105 : decode cX8_toLine 105 = .ok (.iinc 5 1, 3) := by decide +kernel
theorem dX8_toLine_108 : decode cX8_toLine 108 = .ok (.goto (-90), 3) := by decide +kernel
theorem dX8_toLine_111 : decode cX8_toLine 111 = .ok (.new 52, 3) := by decide +kernel
theorem dX8_toLine_114 : decode cX8_toLine 114 = .ok (.dup, 1) := by decide +kernel
theorem dX8_toLine_115 : decode cX8_toLine 115 = .ok (.aload_n 1, 1) := by decide +kernel
theorem dX8_toLine_116 : decode cX8_toLine 116 = .ok (.iload 4, 2) := by decide +kernel
theorem dX8_toLine_118 : decode cX8_toLine 118 = .ok (.iload_n 2, 1) := by decide +kernel
theorem dX8_toLine_119 : decode cX8_toLine 119 = .ok (.iload_n 3, 1) := by decide +kernel
theorem dX8_toLine_120 : decode cX8_toLine 120 = .ok (.invokespecial 54, 3) := by decide +kernel
theorem dX8_toLine_123 : decode cX8_toLine 123 = .ok (.areturn, 1) := by decide +kernel
theorem dX8_behindBlanks_0 : decode cX8_behindBlanks 0 = .ok (.iload_n 1, 1) := by decide +kernel
theorem dX8_behindBlanks_1 : decode cX8_behindBlanks 1 = .ok (.istore_n 2, 1) := by decide +kernel
theorem dX8_behindBlanks_2 : decode cX8_behindBlanks 2 = .ok (.iload_n 2, 1) := by decide +kernel
theorem dX8_behindBlanks_3 : decode cX8_behindBlanks 3 = .ok (.aload_n 0, 1) := by decide +kernel
theorem dX8_behindBlanks_4 : decode cX8_behindBlanks 4 = .ok (.getfield 15, 3) := by decide +kernel
theorem dX8_behindBlanks_7 : decode cX8_behindBlanks 7 = .ok (.if_icmp .ge 19, 3) := by decide +kernel
theorem dX8_behindBlanks_10 : decode cX8_behindBlanks 10 = .ok (.aload_n 0, 1) := by decide +kernel
theorem dX8_behindBlanks_11 : decode cX8_behindBlanks 11 = .ok (.iload_n 2, 1) := by decide +kernel
theorem dX8_behindBlanks_12 : decode cX8_behindBlanks 12 = .ok (.invokevirtual 23, 3) := by decide +kernel
theorem dX8_behindBlanks_15 : decode cX8_behindBlanks 15 = .ok (.bipush 32, 2) := by decide +kernel
theorem dX8_behindBlanks_17 : decode cX8_behindBlanks 17 = .ok (.if_icmp .ne 9, 3) := by decide +kernel
theorem dX8_behindBlanks_20 : decode cX8_behindBlanks 20 = .ok (.iinc 2 1, 3) := by decide +kernel
theorem dX8_behindBlanks_23 : decode cX8_behindBlanks 23 = .ok (.goto (-21), 3) := by decide +kernel
theorem dX8_behindBlanks_26 : decode cX8_behindBlanks 26 = .ok (.iload_n 2, 1) := by decide +kernel
theorem dX8_behindBlanks_27 : decode cX8_behindBlanks 27 = .ok (.ireturn, 1) := by decide +kernel
theorem dX8_behindLetters_0 : decode cX8_behindLetters 0 = .ok (.iload_n 1, 1) := by decide +kernel
theorem dX8_behindLetters_1 : decode cX8_behindLetters 1 = .ok (.istore_n 2, 1) := by decide +kernel
theorem dX8_behindLetters_2 : decode cX8_behindLetters 2 = .ok (.iload_n 2, 1) := by decide +kernel
theorem dX8_behindLetters_3 : decode cX8_behindLetters 3 = .ok (.aload_n 0, 1) := by decide +kernel
theorem dX8_behindLetters_4 : decode cX8_behindLetters 4 = .ok (.getfield 15, 3) := by decide +kernel
theorem dX8_behindLetters_7 : decode cX8_behindLetters 7 = .ok (.if_icmp .ge 20, 3) := by decide +kernel
theorem dX8_behindLetters_10 : decode cX8_behindLetters 10 = .ok (.aload_n 0, 1) := by decide +kernel
theorem dX8_behindLetters_11 : decode cX8_behindLetters 11 = .ok (.iload_n 2, 1) := by decide +kernel
theorem dX8_behindLetters_12 : decode cX8_behindLetters 12 = .ok (.invokevirtual 23, 3) := by decide +kernel
theorem dX8_behindLetters_15 : decode cX8_behindLetters 15 = .ok (.invokestatic 26, 3) := by decide +kernel
theorem dX8_behindLetters_18 : decode cX8_behindLetters 18 = .ok (.ifCond .eq 9, 3) := by decide +kernel
theorem dX8_behindLetters_21 : decode cX8_behindLetters 21 = .ok (.iinc 2 1, 3) := by decide +kernel
theorem dX8_behindLetters_24 : decode cX8_behindLetters 24 = .ok (.goto (-22), 3) := by decide +kernel
theorem dX8_behindLetters_27 : decode cX8_behindLetters 27 = .ok (.iload_n 2, 1) := by decide +kernel
theorem dX8_behindLetters_28 : decode cX8_behindLetters 28 = .ok (.ireturn, 1) := by decide +kernel
theorem dX8_isBetween_0 : decode cX8_isBetween 0 = .ok (.iload_n 2, 1) := by decide +kernel
theorem dX8_isBetween_1 : decode cX8_isBetween 1 = .ok (.iload_n 1, 1) := by decide +kernel
theorem dX8_isBetween_2 : decode cX8_isBetween 2 = .ok (.isub, 1) := by decide +kernel
theorem dX8_isBetween_3 : decode cX8_isBetween 3 = .ok (.aload_n 3, 1) := by decide +kernel
theorem dX8_isBetween_4 : decode cX8_isBetween 4 = .ok (.invokevirtual 57, 3) := by decide +kernel
theorem dX8_isBetween_7 : decode cX8_isBetween 7 = .ok (.if_icmp .eq 5, 3) := by decide +kernel
theorem dX8_isBetween_10 : decode cX8_isBetween 10 = .ok (.iconst 0, 1) := by decide +kernel
theorem dX8_isBetween_11 : decode cX8_isBetween 11 = .ok (.ireturn, 1) := by decide +kernel
theorem dX8_isBetween_12 : decode cX8_isBetween 12 = .ok (.iconst 0, 1) := by decide +kernel
theorem dX8_isBetween_13 : decode cX8_isBetween 13 = .ok (.istore 4, 2) := by decide +kernel
theorem dX8_isBetween_15 : decode cX8_isBetween 15 = .ok (.iload 4, 2) := by decide +kernel
theorem dX8_isBetween_17 : decode cX8_isBetween 17 = .ok (.aload_n 3, 1) := by decide +kernel
theorem dX8_isBetween_18 : decode cX8_isBetween 18 = .ok (.invokevirtual 57, 3) := by decide +kernel
theorem dX8_isBetween_21 : decode cX8_isBetween 21 = .ok (.if_icmp .ge 28, 3) := by decide +kernel
theorem dX8_isBetween_24 : decode cX8_isBetween 24 = .ok (.aload_n 0, 1) := by decide +kernel
theorem dX8_isBetween_25 : decode cX8_isBetween 25 = .ok (.iload_n 1, 1) := by decide +kernel
theorem dX8_isBetween_26 : decode cX8_isBetween 26 = .ok (.iload 4, 2) := by decide +kernel
theorem dX8_isBetween_28 : decode cX8_isBetween 28 = .ok (.iadd, 1) := by decide +kernel
theorem dX8_isBetween_29 : decode cX8_isBetween 29 = .ok (.invokevirtual 23, 3) := by decide +kernel
theorem dX8_isBetween_32 : decode cX8_isBetween 32 = .ok (.aload_n 3, 1) := by decide +kernel
theorem dX8_isBetween_33 : decode cX8_isBetween 33 = .ok (.iload 4, 2) := by decide +kernel
theorem dX8_isBetween_35 : decode cX8_isBetween 35 = .ok (.invokevirtual 61, 3) := by decide +kernel
theorem dX8_isBetween_38 : decode cX8_isBetween 38 = .ok (.if_icmp .eq 5, 3) := by decide +kernel
theorem dX8_isBetween_41 : decode cX8_isBetween 41 = .ok (.iconst 0, 1) := by decide +kernel
theorem dX8_isBetween_42 : decode cX8_isBetween 42 = .ok (.ireturn, 1) := by decide +kernel
theorem dX8_isBetween_43 : decode cX8_isBetween 43 = .ok (.iinc 4 1, 3) := by decide +kernel
theorem dX8_isBetween_46 : decode cX8_isBetween 46 = .ok (.goto (-31), 3) := by decide +kernel
theorem dX8_isBetween_49 : decode cX8_isBetween 49 = .ok (.iconst 1, 1) := by decide +kernel
theorem dX8_isBetween_50 : decode cX8_isBetween 50 = .ok (.ireturn, 1) := by decide +kernel
theorem dX9_init_0 : decode cX9_init 0 = .ok (.aload_n 0, 1) := by decide +kernel
theorem dX9_init_1 : decode cX9_init 1 = .ok (.invokespecial 3, 3) := by decide +kernel
theorem dX9_init_4 : decode cX9_init 4 = .ok (.aload_n 0, 1) := by decide +kernel
theorem dX9_init_5 : decode cX9_init 5 = .ok (.bipush 80, 2) := by decide +kernel
theorem dX9_init_7 : decode cX9_init 7 = .ok (.newarray .byte, 2) := by decide +kernel
theorem dX9_init_9 : decode cX9_init 9 = .ok (.putfield 9, 3) := by decide +kernel
theorem dX9_init_12 : decode cX9_init 12 = .ok (.aload_n 0, 1) := by decide +kernel
theorem dX9_init_13 : decode cX9_init 13 = .ok (.bipush 40, 2) := by decide +kernel
theorem dX9_init_15 : decode cX9_init 15 = .ok (.newarray .int, 2) := by decide +kernel
theorem dX9_init_17 : decode cX9_init 17 = .ok (.putfield 15, 3) := by decide +kernel
theorem dX9_init_20 : decode cX9_init 20 = .ok (.aload_n 0, 1) := by decide +kernel
theorem dX9_init_21 : decode cX9_init 21 = .ok (.iconst 0, 1) := by decide +kernel
theorem dX9_init_22 : decode cX9_init 22 = .ok (.putfield 19, 3) := by decide +kernel
theorem dX9_init_25 : decode cX9_init 25 = .ok (.aload_n 0, 1) := by decide +kernel
theorem dX9_init_26 : decode cX9_init 26 = .ok (.iconst 0, 1) := by decide +kernel
theorem dX9_init_27 : decode cX9_init 27 = .ok (.putfield 23, 3) := by decide +kernel
theorem dX9_init_30 : decode cX9_init 30 = .ok (.aload_n 0, 1) := by decide +kernel
theorem dX9_init_31 : decode cX9_init 31 = .ok (.iconst 0, 1) := by decide +kernel
theorem dX9_init_32 : decode cX9_init 32 = .ok (.putfield 26, 3) := by decide +kernel
theorem dX9_init_35 : decode cX9_init 35 = .ok (.return_, 1) := by decide +kernel
theorem dX9_add_0 : decode cX9_add 0 = .ok (.iload_n 2, 1) := by decide +kernel
theorem dX9_add_1 : decode cX9_add 1 = .ok (.ifCond .eq 26, 3) := by decide +kernel
theorem dX9_add_4 : decode cX9_add 4 = .ok (.aload_n 0, 1) := by decide +kernel
theorem dX9_add_5 : decode cX9_add 5 = .ok (.getfield 23, 3) := by decide +kernel
theorem dX9_add_8 : decode cX9_add 8 = .ok (.ifCond .le 9, 3) := by decide +kernel
theorem dX9_add_11 : decode cX9_add 11 = .ok (.aload_n 0, 1) := by decide +kernel
theorem dX9_add_12 : decode cX9_add 12 = .ok (.bipush 32, 2) := by decide +kernel
theorem dX9_add_14 : decode cX9_add 14 = .ok (.invokevirtual 29, 3) := by decide +kernel
theorem dX9_add_17 : decode cX9_add 17 = .ok (.aload_n 0, 1) := by decide +kernel
theorem dX9_add_18 : decode cX9_add 18 = .ok (.dup, 1) := by decide +kernel
theorem dX9_add_19 : decode cX9_add 19 = .ok (.getfield 23, 3) := by decide +kernel
theorem dX9_add_22 : decode cX9_add 22 = .ok (.iconst 1, 1) := by decide +kernel
theorem dX9_add_23 : decode cX9_add 23 = .ok (.iadd, 1) := by decide +kernel
theorem dX9_add_24 : decode cX9_add 24 = .ok (.putfield 23, 3) := by decide +kernel
theorem dX9_add_27 : decode cX9_add 27 = .ok (.aload_n 0, 1) := by decide +kernel
theorem dX9_add_28 : decode cX9_add 28 = .ok (.iload_n 1, 1) := by decide +kernel
theorem dX9_add_29 : decode cX9_add 29 = .ok (.invokevirtual 29, 3) := by decide +kernel
theorem dX9_add_32 : decode cX9_add 32 = .ok (.aload_n 0, 1) := by decide +kernel
theorem dX9_add_33 : decode cX9_add 33 = .ok (.dup, 1) := by decide +kernel
theorem dX9_add_34 : decode cX9_add 34 = .ok (.getfield 26, 3) := by decide +kernel
theorem dX9_add_37 : decode cX9_add 37 = .ok (.iconst 1, 1) := by decide +kernel
theorem dX9_add_38 : decode cX9_add 38 = .ok (.iadd, 1) := by decide +kernel
theorem dX9_add_39 : decode cX9_add 39 = .ok (.putfield 26, 3) := by decide +kernel
theorem dX9_add_42 : decode cX9_add 42 = .ok (.aload_n 0, 1) := by decide +kernel
theorem dX9_add_43 : decode cX9_add 43 = .ok (.getfield 23, 3) := by decide +kernel
theorem dX9_add_46 : decode cX9_add 46 = .ok (.ifCond .le 30, 3) := by decide +kernel
theorem dX9_add_49 : decode cX9_add 49 = .ok (.aload_n 0, 1) := by decide +kernel
theorem dX9_add_50 : decode cX9_add 50 = .ok (.getfield 23, 3) := by decide +kernel
theorem dX9_add_53 : decode cX9_add 53 = .ok (.aload_n 0, 1) := by decide +kernel
theorem dX9_add_54 : decode cX9_add 54 = .ok (.getfield 15, 3) := by decide +kernel
theorem dX9_add_57 : decode cX9_add 57 = .ok (.arraylength, 1) := by decide +kernel
theorem dX9_add_58 : decode cX9_add 58 = .ok (.if_icmp .gt 18, 3) := by decide +kernel
theorem dX9_add_61 : decode cX9_add 61 = .ok (.aload_n 0, 1) := by decide +kernel
theorem dX9_add_62 : decode cX9_add 62 = .ok (.getfield 15, 3) := by decide +kernel
theorem dX9_add_65 : decode cX9_add 65 = .ok (.aload_n 0, 1) := by decide +kernel
theorem dX9_add_66 : decode cX9_add 66 = .ok (.getfield 23, 3) := by decide +kernel
theorem dX9_add_69 : decode cX9_add 69 = .ok (.iconst 1, 1) := by decide +kernel
theorem dX9_add_70 : decode cX9_add 70 = .ok (.isub, 1) := by decide +kernel
theorem dX9_add_71 : decode cX9_add 71 = .ok (.dup2, 1) := by decide +kernel
theorem dX9_add_72 : decode cX9_add 72 = .ok (.iaload, 1) := by decide +kernel
theorem dX9_add_73 : decode cX9_add 73 = .ok (.iconst 1, 1) := by decide +kernel
theorem dX9_add_74 : decode cX9_add 74 = .ok (.iadd, 1) := by decide +kernel
theorem dX9_add_75 : decode cX9_add 75 = .ok (.iastore, 1) := by decide +kernel
theorem dX9_add_76 : decode cX9_add 76 = .ok (.return_, 1) := by decide +kernel
theorem dX9_byteAt_0 : decode cX9_byteAt 0 = .ok (.iload_n 1, 1) := by decide +kernel
theorem dX9_byteAt_1 : decode cX9_byteAt 1 = .ok (.ifCond .lt 20, 3) := by decide +kernel
theorem dX9_byteAt_4 : decode cX9_byteAt 4 = .ok (.iload_n 1, 1) := by decide +kernel
theorem dX9_byteAt_5 : decode cX9_byteAt 5 = .ok (.aload_n 0, 1) := by decide +kernel
theorem dX9_byteAt_6 : decode cX9_byteAt 6 = .ok (.getfield 19, 3) := by decide +kernel
theorem dX9_byteAt_9 : decode cX9_byteAt 9 = .ok (.if_icmp .ge 12, 3) := by decide +kernel
theorem dX9_byteAt_12 : decode cX9_byteAt 12 = .ok (.iload_n 1, 1) := by decide +kernel
theorem dX9_byteAt_13 : decode cX9_byteAt 13 = .ok (.aload_n 0, 1) := by decide +kernel
theorem dX9_byteAt_14 : decode cX9_byteAt 14 = .ok (.getfield 9, 3) := by decide +kernel
theorem dX9_byteAt_17 : decode cX9_byteAt 17 = .ok (.arraylength, 1) := by decide +kernel
theorem dX9_byteAt_18 : decode cX9_byteAt 18 = .ok (.if_icmp .lt 7, 3) := by decide +kernel
theorem dX9_byteAt_21 : decode cX9_byteAt 21 = .ok (.iconst (-1), 1) := by decide +kernel
theorem dX9_byteAt_22 : decode cX9_byteAt 22 = .ok (.goto 9, 3) := by decide +kernel
theorem dX9_byteAt_25 : decode cX9_byteAt 25 = .ok (.aload_n 0, 1) := by decide +kernel
theorem dX9_byteAt_26 : decode cX9_byteAt 26 = .ok (.getfield 9, 3) := by decide +kernel
theorem dX9_byteAt_29 : decode cX9_byteAt 29 = .ok (.iload_n 1, 1) := by decide +kernel
theorem dX9_byteAt_30 : decode cX9_byteAt 30 = .ok (.baload, 1) := by decide +kernel
theorem dX9_byteAt_31 : decode cX9_byteAt 31 = .ok (.ireturn, 1) := by decide +kernel
theorem dX9_lengthOf_0 : decode cX9_lengthOf 0 = .ok (.aload_n 0, 1) := by decide +kernel
theorem dX9_lengthOf_1 : decode cX9_lengthOf 1 = .ok (.getfield 15, 3) := by decide +kernel
theorem dX9_lengthOf_4 : decode cX9_lengthOf 4 = .ok (.iload_n 1, 1) := by decide +kernel
theorem dX9_lengthOf_5 : decode cX9_lengthOf 5 = .ok (.invokestatic 33, 3) := by decide +kernel
theorem dX9_lengthOf_8 : decode cX9_lengthOf 8 = .ok (.ireturn, 1) := by decide +kernel
theorem dX9_append_0 : decode cX9_append 0 = .ok (.aload_n 0, 1) := by decide +kernel
theorem dX9_append_1 : decode cX9_append 1 = .ok (.getfield 19, 3) := by decide +kernel
theorem dX9_append_4 : decode cX9_append 4 = .ok (.ifCond .lt 36, 3) := by decide +kernel
theorem dX9_append_7 : decode cX9_append 7 = .ok (.aload_n 0, 1) := by decide +kernel
theorem dX9_append_8 : decode cX9_append 8 = .ok (.getfield 19, 3) := by decide +kernel
theorem dX9_append_11 : decode cX9_append 11 = .ok (.aload_n 0, 1) := by decide +kernel
theorem dX9_append_12 : decode cX9_append 12 = .ok (.getfield 9, 3) := by decide +kernel
theorem dX9_append_15 : decode cX9_append 15 = .ok (.arraylength, 1) := by decide +kernel
theorem dX9_append_16 : decode cX9_append 16 = .ok (.if_icmp .ge 24, 3) := by decide +kernel
theorem dX9_append_19 : decode cX9_append 19 = .ok (.aload_n 0, 1) := by decide +kernel
theorem dX9_append_20 : decode cX9_append 20 = .ok (.getfield 9, 3) := by decide +kernel
theorem dX9_append_23 : decode cX9_append 23 = .ok (.aload_n 0, 1) := by decide +kernel
theorem dX9_append_24 : decode cX9_append 24 = .ok (.getfield 19, 3) := by decide +kernel
theorem dX9_append_27 : decode cX9_append 27 = .ok (.iload_n 1, 1) := by decide +kernel
theorem dX9_append_28 : decode cX9_append 28 = .ok (.i2b, 1) := by decide +kernel
theorem dX9_append_29 : decode cX9_append 29 = .ok (.bastore, 1) := by decide +kernel
theorem dX9_append_30 : decode cX9_append 30 = .ok (.aload_n 0, 1) := by decide +kernel
theorem dX9_append_31 : decode cX9_append 31 = .ok (.dup, 1) := by decide +kernel
theorem dX9_append_32 : decode cX9_append 32 = .ok (.getfield 19, 3) := by decide +kernel
theorem dX9_append_35 : decode cX9_append 35 = .ok (.iconst 1, 1) := by decide +kernel
theorem dX9_append_36 : decode cX9_append 36 = .ok (.iadd, 1) := by decide +kernel
theorem dX9_append_37 : decode cX9_append 37 = .ok (.putfield 19, 3) := by decide +kernel
theorem dX9_append_40 : decode cX9_append 40 = .ok (.return_, 1) := by decide +kernel
theorem dX10_init_0 : decode cX10_init 0 = .ok (.aload_n 0, 1) := by decide +kernel
theorem dX10_init_1 : decode cX10_init 1 = .ok (.invokespecial 3, 3) := by decide +kernel
theorem dX10_init_4 : decode cX10_init 4 = .ok (.aload_n 0, 1) := by decide +kernel
theorem dX10_init_5 : decode cX10_init 5 = .ok (.new 9, 3) := by decide +kernel
theorem dX10_init_8 : decode cX10_init 8 = .ok (.dup, 1) := by decide +kernel
theorem dX10_init_9 : decode cX10_init 9 = .ok (.invokespecial 11, 3) := by decide +kernel
theorem dX10_init_12 : decode cX10_init 12 = .ok (.putfield 12, 3) := by decide +kernel
theorem dX10_init_15 : decode cX10_init 15 = .ok (.aload_n 0, 1) := by decide +kernel
theorem dX10_init_16 : decode cX10_init 16 = .ok (.new 16, 3) := by decide +kernel
theorem dX10_init_19 : decode cX10_init 19 = .ok (.dup, 1) := by decide +kernel
theorem dX10_init_20 : decode cX10_init 20 = .ok (.invokespecial 18, 3) := by decide +kernel
theorem dX10_init_23 : decode cX10_init 23 = .ok (.putfield 19, 3) := by decide +kernel
theorem dX10_init_26 : decode cX10_init 26 = .ok (.aload_n 0, 1) := by decide +kernel
theorem dX10_init_27 : decode cX10_init 27 = .ok (.new 23, 3) := by decide +kernel
theorem dX10_init_30 : decode cX10_init 30 = .ok (.dup, 1) := by decide +kernel
theorem dX10_init_31 : decode cX10_init 31 = .ok (.invokespecial 25, 3) := by decide +kernel
theorem dX10_init_34 : decode cX10_init 34 = .ok (.putfield 26, 3) := by decide +kernel
theorem dX10_init_37 : decode cX10_init 37 = .ok (.aload_n 0, 1) := by decide +kernel
theorem dX10_init_38 : decode cX10_init 38 = .ok (.new 30, 3) := by decide +kernel
theorem dX10_init_41 : decode cX10_init 41 = .ok (.dup, 1) := by decide +kernel
theorem dX10_init_42 : decode cX10_init 42 = .ok (.invokespecial 32, 3) := by decide +kernel
theorem dX10_init_45 : decode cX10_init 45 = .ok (.putfield 33, 3) := by decide +kernel
theorem dX10_init_48 : decode cX10_init 48 = .ok (.aload_n 0, 1) := by decide +kernel
theorem dX10_init_49 : decode cX10_init 49 = .ok (.new 30, 3) := by decide +kernel
theorem dX10_init_52 : decode cX10_init 52 = .ok (.dup, 1) := by decide +kernel
theorem dX10_init_53 : decode cX10_init 53 = .ok (.invokespecial 32, 3) := by decide +kernel
theorem dX10_init_56 : decode cX10_init 56 = .ok (.putfield 37, 3) := by decide +kernel
theorem dX10_init_59 : decode cX10_init 59 = .ok (.return_, 1) := by decide +kernel
theorem dX10_type_0 : decode cX10_type 0 = .ok (.iload_n 1, 1) := by decide +kernel
theorem dX10_type_1 : decode cX10_type 1 = .ok (.ifCond .lt 9, 3) := by decide +kernel
theorem dX10_type_4 : decode cX10_type 4 = .ok (.iload_n 1, 1) := by decide +kernel
theorem dX10_type_5 : decode cX10_type 5 = .ok (.bipush 127, 2) := by decide +kernel
theorem dX10_type_7 : decode cX10_type 7 = .ok (.if_icmp .le 6, 3) := by decide +kernel
theorem dX10_type_10 : decode cX10_type 10 = .ok (.bipush (-2), 2) := by decide +kernel
theorem dX10_type_12 : decode cX10_type 12 = .ok (.ireturn, 1) := by decide +kernel
theorem dX10_type_13 : decode cX10_type 13 = .ok (.aload_n 0, 1) := by decide +kernel
theorem dX10_type_14 : decode cX10_type 14 = .ok (.getfield 12, 3) := by decide +kernel
theorem dX10_type_17 : decode cX10_type 17 = .ok (.getfield 40, 3) := by decide +kernel
theorem dX10_type_20 : decode cX10_type 20 = .ok (.bipush 80, 2) := by decide +kernel
theorem dX10_type_22 : decode cX10_type 22 = .ok (.if_icmp .lt 6, 3) := by decide +kernel
theorem dX10_type_25 : decode cX10_type 25 = .ok (.bipush (-4), 2) := by decide +kernel
theorem dX10_type_27 : decode cX10_type 27 = .ok (.ireturn, 1) := by decide +kernel
theorem dX10_type_28 : decode cX10_type 28 = .ok (.aload_n 0, 1) := by decide +kernel
theorem dX10_type_29 : decode cX10_type 29 = .ok (.getfield 12, 3) := by decide +kernel
theorem dX10_type_32 : decode cX10_type 32 = .ok (.iload_n 1, 1) := by decide +kernel
theorem dX10_type_33 : decode cX10_type 33 = .ok (.invokevirtual 44, 3) := by decide +kernel
theorem dX10_type_36 : decode cX10_type 36 = .ok (.aload_n 0, 1) := by decide +kernel
theorem dX10_type_37 : decode cX10_type 37 = .ok (.getfield 12, 3) := by decide +kernel
theorem dX10_type_40 : decode cX10_type 40 = .ok (.getfield 40, 3) := by decide +kernel
theorem dX10_type_43 : decode cX10_type 43 = .ok (.ireturn, 1) := by decide +kernel
theorem dX10_clear_0 : decode cX10_clear 0 = .ok (.aload_n 0, 1) := by decide +kernel
theorem dX10_clear_1 : decode cX10_clear 1 = .ok (.getfield 12, 3) := by decide +kernel
theorem dX10_clear_4 : decode cX10_clear 4 = .ok (.getfield 40, 3) := by decide +kernel
theorem dX10_clear_7 : decode cX10_clear 7 = .ok (.istore_n 1, 1) := by decide +kernel
theorem dX10_clear_8 : decode cX10_clear 8 = .ok (.aload_n 0, 1) := by decide +kernel
theorem dX10_clear_9 : decode cX10_clear 9 = .ok (.getfield 12, 3) := by decide +kernel
theorem dX10_clear_12 : decode cX10_clear 12 = .ok (.iconst 0, 1) := by decide +kernel
theorem dX10_clear_13 : decode cX10_clear 13 = .ok (.putfield 40, 3) := by decide +kernel
theorem dX10_clear_16 : decode cX10_clear 16 = .ok (.iload_n 1, 1) := by decide +kernel
theorem dX10_clear_17 : decode cX10_clear 17 = .ok (.ireturn, 1) := by decide +kernel
theorem dX10_fault_0 : decode cX10_fault 0 = .ok (.iload_n 1, 1) := by decide +kernel
theorem dX10_fault_1 : decode cX10_fault 1 = .ok (.ifCond .eq 13, 3) := by decide +kernel
theorem dX10_fault_4 : decode cX10_fault 4 = .ok (.aload_n 0, 1) := by decide +kernel
theorem dX10_fault_5 : decode cX10_fault 5 = .ok (.getfield 12, 3) := by decide +kernel
theorem dX10_fault_8 : decode cX10_fault 8 = .ok (.invokevirtual 48, 3) := by decide +kernel
theorem dX10_fault_11 : decode cX10_fault 11 = .ok (.goto 10, 3) := by decide +kernel
theorem dX10_fault_14 : decode cX10_fault 14 = .ok (.aload_n 0, 1) := by decide +kernel
theorem dX10_fault_15 : decode cX10_fault 15 = .ok (.getfield 12, 3) := by decide +kernel
theorem dX10_fault_18 : decode cX10_fault 18 = .ok (.invokevirtual 52, 3) := by decide +kernel
theorem dX10_fault_21 : decode cX10_fault 21 = .ok (.ireturn, 1) := by decide +kernel
theorem dX10_insert_0 : decode cX10_insert 0 = .ok (.iload_n 1, 1) := by decide +kernel
theorem dX10_insert_1 : decode cX10_insert 1 = .ok (.ifCond .lt 14, 3) := by decide +kernel
theorem dX10_insert_4 : decode cX10_insert 4 = .ok (.iload_n 1, 1) := by decide +kernel
theorem dX10_insert_5 : decode cX10_insert 5 = .ok (.aload_n 0, 1) := by decide +kernel
theorem dX10_insert_6 : decode cX10_insert 6 = .ok (.getfield 19, 3) := by decide +kernel
theorem dX10_insert_9 : decode cX10_insert 9 = .ok (.getfield 55, 3) := by decide +kernel
theorem dX10_insert_12 : decode cX10_insert 12 = .ok (.if_icmp .le 6, 3) := by decide +kernel
theorem dX10_insert_15 : decode cX10_insert 15 = .ok (.bipush (-2), 2) := by decide +kernel
theorem dX10_insert_17 : decode cX10_insert 17 = .ok (.ireturn, 1) := by decide +kernel
theorem dX10_insert_18 : decode cX10_insert 18 = .ok (.aload_n 0, 1) := by decide +kernel
theorem dX10_insert_19 : decode cX10_insert 19 = .ok (.getfield 12, 3) := by decide +kernel
theorem dX10_insert_22 : decode cX10_insert 22 = .ok (.invokevirtual 52, 3) := by decide +kernel
theorem dX10_insert_25 : decode cX10_insert 25 = .ok (.istore_n 2, 1) := by decide +kernel
theorem dX10_insert_26 : decode cX10_insert 26 = .ok (.iload_n 2, 1) := by decide +kernel
theorem dX10_insert_27 : decode cX10_insert 27 = .ok (.iconst (-1), 1) := by decide +kernel
theorem dX10_insert_28 : decode cX10_insert 28 = .ok (.if_icmp .eq 9, 3) := by decide +kernel
theorem dX10_insert_31 : decode cX10_insert 31 = .ok (.sipush (-2000), 3) := by decide +kernel
theorem dX10_insert_34 : decode cX10_insert 34 = .ok (.iload_n 2, 1) := by decide +kernel
theorem dX10_insert_35 : decode cX10_insert 35 = .ok (.isub, 1) := by decide +kernel
theorem dX10_insert_36 : decode cX10_insert 36 = .ok (.ireturn, 1) := by decide +kernel
theorem dX10_insert_37 : decode cX10_insert 37 = .ok (.aload_n 0, 1) := by decide +kernel
theorem dX10_insert_38 : decode cX10_insert 38 = .ok (.getfield 19, 3) := by decide +kernel
theorem dX10_insert_41 : decode cX10_insert 41 = .ok (.getfield 55, 3) := by decide +kernel
theorem dX10_insert_44 : decode cX10_insert 44 = .ok (.bipush 24, 2) := by decide +kernel
theorem dX10_insert_46 : decode cX10_insert 46 = .ok (.if_icmp .lt 6, 3) := by decide +kernel
theorem dX10_insert_49 : decode cX10_insert 49 = .ok (.bipush (-4), 2) := by decide +kernel
theorem dX10_insert_51 : decode cX10_insert 51 = .ok (.ireturn, 1) := by decide +kernel
theorem dX10_insert_52 : decode cX10_insert 52 = .ok (.aload_n 0, 1) := by decide +kernel
theorem dX10_insert_53 : decode cX10_insert 53 = .ok (.getfield 26, 3) := by decide +kernel
theorem dX10_insert_56 : decode cX10_insert 56 = .ok (.aload_n 0, 1) := by decide +kernel
theorem dX10_insert_57 : decode cX10_insert 57 = .ok (.getfield 19, 3) := by decide +kernel
theorem dX10_insert_60 : decode cX10_insert 60 = .ok (.invokevirtual 58, 3) := by decide +kernel
theorem dX10_insert_63 : decode cX10_insert 63 = .ok (.aload_n 0, 1) := by decide +kernel
theorem dX10_insert_64 : decode cX10_insert 64 = .ok (.getfield 19, 3) := by decide +kernel
theorem dX10_insert_67 : decode cX10_insert 67 = .ok (.iload_n 1, 1) := by decide +kernel
theorem dX10_insert_68 : decode cX10_insert 68 = .ok (.aload_n 0, 1) := by decide +kernel
theorem dX10_insert_69 : decode cX10_insert 69 = .ok (.getfield 12, 3) := by decide +kernel
theorem dX10_insert_72 : decode cX10_insert 72 = .ok (.invokevirtual 62, 3) := by decide +kernel
theorem dX10_insert_75 : decode cX10_insert 75 = .ok (.invokevirtual 66, 3) := by decide +kernel
theorem dX10_insert_78 : decode cX10_insert 78 = .ok (.aload_n 0, 1) := by decide +kernel
theorem dX10_insert_79 : decode cX10_insert 79 = .ok (.invokevirtual 70, 3) := by decide +kernel
theorem dX10_insert_82 : decode cX10_insert 82 = .ok (.aload_n 0, 1) := by decide +kernel
theorem dX10_insert_83 : decode cX10_insert 83 = .ok (.getfield 19, 3) := by decide +kernel
theorem dX10_insert_86 : decode cX10_insert 86 = .ok (.getfield 55, 3) := by decide +kernel
theorem dX10_insert_89 : decode cX10_insert 89 = .ok (.ireturn, 1) := by decide +kernel
theorem dX10_replace_0 : decode cX10_replace 0 = .ok (.aload_n 0, 1) := by decide +kernel
theorem dX10_replace_1 : decode cX10_replace 1 = .ok (.getfield 19, 3) := by decide +kernel
theorem dX10_replace_4 : decode cX10_replace 4 = .ok (.iload_n 1, 1) := by decide +kernel
theorem dX10_replace_5 : decode cX10_replace 5 = .ok (.invokevirtual 73, 3) := by decide +kernel
theorem dX10_replace_8 : decode cX10_replace 8 = .ok (.astore_n 2, 1) := by decide +kernel
theorem dX10_replace_9 : decode cX10_replace 9 = .ok (.aload_n 2, 1) := by decide +kernel
theorem dX10_replace_10 : decode cX10_replace 10 = .ok (.ifnonnull 6, 3) := by decide +kernel
theorem dX10_replace_13 : decode cX10_replace 13 = .ok (.bipush (-2), 2) := by decide +kernel
theorem dX10_replace_15 : decode cX10_replace 15 = .ok (.ireturn, 1) := by decide +kernel
theorem dX10_replace_16 : decode cX10_replace 16 = .ok (.aload_n 0, 1) := by decide +kernel
theorem dX10_replace_17 : decode cX10_replace 17 = .ok (.getfield 12, 3) := by decide +kernel
theorem dX10_replace_20 : decode cX10_replace 20 = .ok (.invokevirtual 52, 3) := by decide +kernel
theorem dX10_replace_23 : decode cX10_replace 23 = .ok (.istore_n 3, 1) := by decide +kernel
theorem dX10_replace_24 : decode cX10_replace 24 = .ok (.iload_n 3, 1) := by decide +kernel
theorem dX10_replace_25 : decode cX10_replace 25 = .ok (.iconst (-1), 1) := by decide +kernel
theorem dX10_replace_26 : decode cX10_replace 26 = .ok (.if_icmp .eq 9, 3) := by decide +kernel
theorem dX10_replace_29 : decode cX10_replace 29 = .ok (.sipush (-2000), 3) := by decide +kernel
theorem dX10_replace_32 : decode cX10_replace 32 = .ok (.iload_n 3, 1) := by decide +kernel
theorem dX10_replace_33 : decode cX10_replace 33 = .ok (.isub, 1) := by decide +kernel
theorem dX10_replace_34 : decode cX10_replace 34 = .ok (.ireturn, 1) := by decide +kernel
theorem dX10_replace_35 : decode cX10_replace 35 = .ok (.aload_n 0, 1) := by decide +kernel
theorem dX10_replace_36 : decode cX10_replace 36 = .ok (.getfield 26, 3) := by decide +kernel
theorem dX10_replace_39 : decode cX10_replace 39 = .ok (.aload_n 0, 1) := by decide +kernel
theorem dX10_replace_40 : decode cX10_replace 40 = .ok (.getfield 19, 3) := by decide +kernel
theorem dX10_replace_43 : decode cX10_replace 43 = .ok (.invokevirtual 58, 3) := by decide +kernel
theorem dX10_replace_46 : decode cX10_replace 46 = .ok (.aload_n 0, 1) := by decide +kernel
theorem dX10_replace_47 : decode cX10_replace 47 = .ok (.getfield 19, 3) := by decide +kernel
theorem dX10_replace_50 : decode cX10_replace 50 = .ok (.iload_n 1, 1) := by decide +kernel
theorem dX10_replace_51 : decode cX10_replace 51 = .ok (.aload_n 0, 1) := by decide +kernel
theorem dX10_replace_52 : decode cX10_replace 52 = .ok (.getfield 12, 3) := by decide +kernel
theorem dX10_replace_55 : decode cX10_replace 55 = .ok (.invokevirtual 62, 3) := by decide +kernel
theorem dX10_replace_58 : decode cX10_replace 58 = .ok (.invokevirtual 77, 3) := by decide +kernel
theorem dX10_replace_61 : decode cX10_replace 61 = .ok (.aload_n 0, 1) := by decide +kernel
theorem dX10_replace_62 : decode cX10_replace 62 = .ok (.invokevirtual 70, 3) := by decide +kernel
theorem dX10_replace_65 : decode cX10_replace 65 = .ok (.aload_n 2, 1) := by decide +kernel
theorem dX10_replace_66 : decode cX10_replace 66 = .ok (.getfield 80, 3) := by decide +kernel
theorem dX10_replace_69 : decode cX10_replace 69 = .ok (.getfield 86, 3) := by decide +kernel
theorem dX10_replace_72 : decode cX10_replace 72 = .ok (.ireturn, 1) := by decide +kernel
theorem dX10_remove_0 : decode cX10_remove 0 = .ok (.aload_n 0, 1) := by decide +kernel
theorem dX10_remove_1 : decode cX10_remove 1 = .ok (.getfield 19, 3) := by decide +kernel
theorem dX10_remove_4 : decode cX10_remove 4 = .ok (.iload_n 1, 1) := by decide +kernel
theorem dX10_remove_5 : decode cX10_remove 5 = .ok (.invokevirtual 73, 3) := by decide +kernel
theorem dX10_remove_8 : decode cX10_remove 8 = .ok (.ifnonnull 6, 3) := by decide +kernel
theorem dX10_remove_11 : decode cX10_remove 11 = .ok (.bipush (-2), 2) := by decide +kernel
theorem dX10_remove_13 : decode cX10_remove 13 = .ok (.ireturn, 1) := by decide +kernel
theorem dX10_remove_14 : decode cX10_remove 14 = .ok (.aload_n 0, 1) := by decide +kernel
theorem dX10_remove_15 : decode cX10_remove 15 = .ok (.getfield 26, 3) := by decide +kernel
theorem dX10_remove_18 : decode cX10_remove 18 = .ok (.aload_n 0, 1) := by decide +kernel
theorem dX10_remove_19 : decode cX10_remove 19 = .ok (.getfield 19, 3) := by decide +kernel
theorem dX10_remove_22 : decode cX10_remove 22 = .ok (.invokevirtual 58, 3) := by decide +kernel
theorem dX10_remove_25 : decode cX10_remove 25 = .ok (.aload_n 0, 1) := by decide +kernel
theorem dX10_remove_26 : decode cX10_remove 26 = .ok (.getfield 19, 3) := by decide +kernel
theorem dX10_remove_29 : decode cX10_remove 29 = .ok (.iload_n 1, 1) := by decide +kernel
theorem dX10_remove_30 : decode cX10_remove 30 = .ok (.invokevirtual 89, 3) := by decide +kernel
theorem dX10_remove_33 : decode cX10_remove 33 = .ok (.aload_n 0, 1) := by decide +kernel
theorem dX10_remove_34 : decode cX10_remove 34 = .ok (.invokevirtual 70, 3) := by decide +kernel
theorem dX10_remove_37 : decode cX10_remove 37 = .ok (.aload_n 0, 1) := by decide +kernel
theorem dX10_remove_38 : decode cX10_remove 38 = .ok (.getfield 19, 3) := by decide +kernel
theorem dX10_remove_41 : decode cX10_remove 41 = .ok (.getfield 55, 3) := by decide +kernel
theorem dX10_remove_44 : decode cX10_remove 44 = .ok (.ireturn, 1) := by decide +kernel
theorem dX10_toggle_0 : decode cX10_toggle 0 = .ok (.aload_n 0, 1) := by decide +kernel
theorem dX10_toggle_1 : decode cX10_toggle 1 = .ok (.getfield 19, 3) := by decide +kernel
theorem dX10_toggle_4 : decode cX10_toggle 4 = .ok (.iload_n 1, 1) := by decide +kernel
theorem dX10_toggle_5 : decode cX10_toggle 5 = .ok (.invokevirtual 73, 3) := by decide +kernel
theorem dX10_toggle_8 : decode cX10_toggle 8 = .ok (.astore_n 3, 1) := by decide +kernel
theorem dX10_toggle_9 : decode cX10_toggle 9 = .ok (.aload_n 3, 1) := by decide +kernel
theorem dX10_toggle_10 : decode cX10_toggle 10 = .ok (.ifnonnull 6, 3) := by decide +kernel
theorem dX10_toggle_13 : decode cX10_toggle 13 = .ok (.bipush (-2), 2) := by decide +kernel
theorem dX10_toggle_15 : decode cX10_toggle 15 = .ok (.ireturn, 1) := by decide +kernel
theorem dX10_toggle_16 : decode cX10_toggle 16 = .ok (.aload_n 0, 1) := by decide +kernel
theorem dX10_toggle_17 : decode cX10_toggle 17 = .ok (.getfield 26, 3) := by decide +kernel
theorem dX10_toggle_20 : decode cX10_toggle 20 = .ok (.aload_n 0, 1) := by decide +kernel
theorem dX10_toggle_21 : decode cX10_toggle 21 = .ok (.getfield 19, 3) := by decide +kernel
theorem dX10_toggle_24 : decode cX10_toggle 24 = .ok (.invokevirtual 58, 3) := by decide +kernel
theorem dX10_toggle_27 : decode cX10_toggle 27 = .ok (.iload_n 2, 1) := by decide +kernel
theorem dX10_toggle_28 : decode cX10_toggle 28 = .ok (.ifCond .eq 18, 3) := by decide +kernel
theorem dX10_toggle_31 : decode cX10_toggle 31 = .ok (.aload_n 3, 1) := by decide +kernel
theorem dX10_toggle_32 : decode cX10_toggle 32 = .ok (.getfield 99, 3) := by decide +kernel
theorem dX10_toggle_35 : decode cX10_toggle 35 = .ok (.ifCond .ne 7, 3) := by decide +kernel
theorem dX10_toggle_38 : decode cX10_toggle 38 = .ok (.iconst 1, 1) := by decide +kernel
theorem dX10_toggle_39 : decode cX10_toggle 39 = .ok (.goto 11, 3) := by decide +kernel
theorem dX10_toggle_42 : decode cX10_toggle 42 = .ok (.iconst 0, 1) := by decide +kernel
theorem dX10_toggle_43 : decode cX10_toggle 43 = .ok (.goto 7, 3) := by decide +kernel
theorem dX10_toggle_46 : decode cX10_toggle 46 = .ok (.aload_n 3, 1) := by decide +kernel
theorem dX10_toggle_47 : decode cX10_toggle 47 = .ok (.getfield 99, 3) := by decide +kernel
theorem dX10_toggle_50 : decode cX10_toggle 50 = .ok (.istore 4, 2) := by decide +kernel
theorem dX10_toggle_52 : decode cX10_toggle 52 = .ok (.iload_n 2, 1) := by decide +kernel
theorem dX10_toggle_53 : decode cX10_toggle 53 = .ok (.ifCond .eq 10, 3) := by decide +kernel
theorem dX10_toggle_56 : decode cX10_toggle 56 = .ok (.aload_n 3, 1) := by decide +kernel
theorem dX10_toggle_57 : decode cX10_toggle 57 = .ok (.getfield 103, 3) := by decide +kernel
theorem dX10_toggle_60 : decode cX10_toggle 60 = .ok (.goto 15, 3) := by decide +kernel
theorem dX10_toggle_63 : decode cX10_toggle 63 = .ok (.aload_n 3, 1) := by decide +kernel
theorem dX10_toggle_64 : decode cX10_toggle 64 = .ok (.getfield 103, 3) := by decide +kernel
theorem dX10_toggle_67 : decode cX10_toggle 67 = .ok (.ifCond .ne 7, 3) := by decide +kernel
theorem dX10_toggle_70 : decode cX10_toggle 70 = .ok (.iconst 1, 1) := by decide +kernel
theorem dX10_toggle_71 : decode cX10_toggle 71 = .ok (.goto 4, 3) := by decide +kernel
theorem dX10_toggle_74 : decode cX10_toggle 74 = .ok (.iconst 0, 1) := by decide +kernel
theorem dX10_toggle_75 : decode cX10_toggle 75 = .ok (.istore 5, 2) := by decide +kernel
theorem dX10_toggle_77 : decode cX10_toggle 77 = .ok (.aload_n 0, 1) := by decide +kernel
theorem dX10_toggle_78 : decode cX10_toggle 78 = .ok (.getfield 19, 3) := by decide +kernel
theorem dX10_toggle_81 : decode cX10_toggle 81 = .ok (.iload_n 1, 1) := by decide +kernel
theorem dX10_toggle_82 : decode cX10_toggle 82 = .ok (.new 81, 3) := by decide +kernel
theorem dX10_toggle_85 : decode cX10_toggle 85 = .ok (.dup, 1) := by decide +kernel
theorem dX10_toggle_86 : decode cX10_toggle 86 = .ok (.aload_n 3, 1) := by decide +kernel
theorem dX10_toggle_87 : decode cX10_toggle 87 = .ok (.getfield 80, 3) := by decide +kernel
theorem dX10_toggle_90 : decode cX10_toggle 90 = .ok (.aload_n 3, 1) := by decide +kernel
theorem dX10_toggle_91 : decode cX10_toggle 91 = .ok (.getfield 106, 3) := by decide +kernel
theorem dX10_toggle_94 : decode cX10_toggle 94 = .ok (.iload 4, 2) := by decide +kernel
theorem dX10_toggle_96 : decode cX10_toggle 96 = .ok (.iload 5, 2) := by decide +kernel
theorem dX10_toggle_98 : decode cX10_toggle 98 = .ok (.invokespecial 109, 3) := by decide +kernel
theorem dX10_toggle_101 : decode cX10_toggle 101 = .ok (.invokevirtual 77, 3) := by decide +kernel
theorem dX10_toggle_104 : decode cX10_toggle 104 = .ok (.aload_n 0, 1) := by decide +kernel
theorem dX10_toggle_105 : decode cX10_toggle 105 = .ok (.invokevirtual 70, 3) := by decide +kernel
theorem dX10_toggle_108 : decode cX10_toggle 108 = .ok (.iload_n 2, 1) := by decide +kernel
theorem dX10_toggle_109 : decode cX10_toggle 109 = .ok (.ifCond .eq 8, 3) := by decide +kernel
theorem dX10_toggle_112 : decode cX10_toggle 112 = .ok (.iload 4, 2) := by decide +kernel
theorem dX10_toggle_114 : decode cX10_toggle 114 = .ok (.goto 5, 3) := by decide +kernel
theorem dX10_toggle_117 : decode cX10_toggle 117 = .ok (.iload 5, 2) := by decide +kernel
theorem dX10_toggle_119 : decode cX10_toggle 119 = .ok (.invokestatic 112, 3) := by decide +kernel
theorem dX10_toggle_122 : decode cX10_toggle 122 = .ok (.ireturn, 1) := by decide +kernel
theorem dX10_line_0 : decode cX10_line 0 = .ok (.aload_n 0, 1) := by decide +kernel
theorem dX10_line_1 : decode cX10_line 1 = .ok (.getfield 19, 3) := by decide +kernel
theorem dX10_line_4 : decode cX10_line 4 = .ok (.iload_n 1, 1) := by decide +kernel
theorem dX10_line_5 : decode cX10_line 5 = .ok (.invokevirtual 73, 3) := by decide +kernel
theorem dX10_line_8 : decode cX10_line 8 = .ok (.astore_n 3, 1) := by decide +kernel
theorem dX10_line_9 : decode cX10_line 9 = .ok (.aload_n 0, 1) := by decide +kernel
theorem dX10_line_10 : decode cX10_line 10 = .ok (.getfield 33, 3) := by decide +kernel
theorem dX10_line_13 : decode cX10_line 13 = .ok (.iload_n 1, 1) := by decide +kernel
theorem dX10_line_14 : decode cX10_line 14 = .ok (.invokevirtual 116, 3) := by decide +kernel
theorem dX10_line_17 : decode cX10_line 17 = .ok (.astore 4, 2) := by decide +kernel
theorem dX10_line_19 : decode cX10_line 19 = .ok (.aload_n 3, 1) := by decide +kernel
theorem dX10_line_20 : decode cX10_line 20 = .ok (.ifnull 8, 3) := by decide +kernel
theorem dX10_line_23 : decode cX10_line 23 = .ok (.aload 4, 2) := by decide +kernel
theorem dX10_line_25 : decode cX10_line 25 = .ok (.ifnonnull 6, 3) := by decide +kernel
theorem dX10_line_28 : decode cX10_line 28 = .ok (.bipush (-2), 2) := by decide +kernel
theorem dX10_line_30 : decode cX10_line 30 = .ok (.ireturn, 1) := by decide +kernel
theorem dX10_line_31 : decode cX10_line 31 = .ok (.iload_n 2, 1) := by decide +kernel
theorem dX10_line_32 : decode cX10_line 32 = .ok (.tableswitch 126 0 9 #[56, 64, 72, 77, 85, 94, 102, 108, 114, 120], 56) := by decide +kernel
theorem dX10_line_88 : decode cX10_line 88 = .ok (.aload_n 3, 1) := by decide +kernel
theorem dX10_line_89 : decode cX10_line 89 = .ok (.getfield 80, 3) := by decide +kernel
theorem dX10_line_92 : decode cX10_line 92 = .ok (.getfield 120, 3) := by decide +kernel
theorem dX10_line_95 : decode cX10_line 95 = .ok (.ireturn, 1) := by decide +kernel
theorem dX10_line_96 : decode cX10_line 96 = .ok (.aload_n 3, 1) := by decide +kernel
theorem dX10_line_97 : decode cX10_line 97 = .ok (.getfield 80, 3) := by decide +kernel
theorem dX10_line_100 : decode cX10_line 100 = .ok (.getfield 86, 3) := by decide +kernel
theorem dX10_line_103 : decode cX10_line 103 = .ok (.ireturn, 1) := by decide +kernel
theorem dX10_line_104 : decode cX10_line 104 = .ok (.aload_n 3, 1) := by decide +kernel
theorem dX10_line_105 : decode cX10_line 105 = .ok (.getfield 106, 3) := by decide +kernel
theorem dX10_line_108 : decode cX10_line 108 = .ok (.ireturn, 1) := by decide +kernel
theorem dX10_line_109 : decode cX10_line 109 = .ok (.aload_n 3, 1) := by decide +kernel
theorem dX10_line_110 : decode cX10_line 110 = .ok (.getfield 99, 3) := by decide +kernel
theorem dX10_line_113 : decode cX10_line 113 = .ok (.invokestatic 112, 3) := by decide +kernel
theorem dX10_line_116 : decode cX10_line 116 = .ok (.ireturn, 1) := by decide +kernel
theorem dX10_line_117 : decode cX10_line 117 = .ok (.aload 4, 2) := by decide +kernel
theorem dX10_line_119 : decode cX10_line 119 = .ok (.getfield 123, 3) := by decide +kernel
theorem dX10_line_122 : decode cX10_line 122 = .ok (.invokestatic 112, 3) := by decide +kernel
theorem dX10_line_125 : decode cX10_line 125 = .ok (.ireturn, 1) := by decide +kernel
theorem dX10_line_126 : decode cX10_line 126 = .ok (.aload_n 3, 1) := by decide +kernel
theorem dX10_line_127 : decode cX10_line 127 = .ok (.getfield 103, 3) := by decide +kernel
theorem dX10_line_130 : decode cX10_line 130 = .ok (.invokestatic 112, 3) := by decide +kernel
theorem dX10_line_133 : decode cX10_line 133 = .ok (.ireturn, 1) := by decide +kernel
theorem dX10_line_134 : decode cX10_line 134 = .ok (.aload 4, 2) := by decide +kernel
theorem dX10_line_136 : decode cX10_line 136 = .ok (.getfield 128, 3) := by decide +kernel
theorem dX10_line_139 : decode cX10_line 139 = .ok (.ireturn, 1) := by decide +kernel
theorem dX10_line_140 : decode cX10_line 140 = .ok (.aload 4, 2) := by decide +kernel
theorem dX10_line_142 : decode cX10_line 142 = .ok (.getfield 131, 3) := by decide +kernel
theorem dX10_line_145 : decode cX10_line 145 = .ok (.ireturn, 1) := by decide +kernel
theorem dX10_line_146 : decode cX10_line 146 = .ok (.aload 4, 2) := by decide +kernel
theorem dX10_line_148 : decode cX10_line 148 = .ok (.getfield 134, 3) := by decide +kernel
theorem dX10_line_151 : decode cX10_line 151 = .ok (.ireturn, 1) := by decide +kernel
theorem dX10_line_152 : decode cX10_line 152 = .ok (.aload 4, 2) := by decide +kernel
theorem dX10_line_154 : decode cX10_line 154 = .ok (.getfield 137, 3) := by decide +kernel
theorem dX10_line_157 : decode cX10_line 157 = .ok (.ireturn, 1) := by decide +kernel
theorem dX10_line_158 : decode cX10_line 158 = .ok (.bipush (-2), 2) := by decide +kernel
theorem dX10_line_160 : decode cX10_line 160 = .ok (.ireturn, 1) := by decide +kernel
theorem dX10_letter_0 : decode cX10_letter 0 = .ok (.aload_n 0, 1) := by decide +kernel
theorem dX10_letter_1 : decode cX10_letter 1 = .ok (.getfield 19, 3) := by decide +kernel
theorem dX10_letter_4 : decode cX10_letter 4 = .ok (.iload_n 1, 1) := by decide +kernel
theorem dX10_letter_5 : decode cX10_letter 5 = .ok (.invokevirtual 73, 3) := by decide +kernel
theorem dX10_letter_8 : decode cX10_letter 8 = .ok (.astore_n 3, 1) := by decide +kernel
theorem dX10_letter_9 : decode cX10_letter 9 = .ok (.aload_n 3, 1) := by decide +kernel
theorem dX10_letter_10 : decode cX10_letter 10 = .ok (.ifnull 7, 3) := by decide +kernel
theorem dX10_letter_13 : decode cX10_letter 13 = .ok (.iload_n 2, 1) := by decide +kernel
theorem dX10_letter_14 : decode cX10_letter 14 = .ok (.ifCond .ge 6, 3) := by decide +kernel
theorem dX10_letter_17 : decode cX10_letter 17 = .ok (.bipush (-2), 2) := by decide +kernel
theorem dX10_letter_19 : decode cX10_letter 19 = .ok (.ireturn, 1) := by decide +kernel
theorem dX10_letter_20 : decode cX10_letter 20 = .ok (.aload_n 3, 1) := by decide +kernel
theorem dX10_letter_21 : decode cX10_letter 21 = .ok (.getfield 80, 3) := by decide +kernel
theorem dX10_letter_24 : decode cX10_letter 24 = .ok (.iload_n 2, 1) := by decide +kernel
theorem dX10_letter_25 : decode cX10_letter 25 = .ok (.invokevirtual 140, 3) := by decide +kernel
theorem dX10_letter_28 : decode cX10_letter 28 = .ok (.ireturn, 1) := by decide +kernel
theorem dX10_set_0 : decode cX10_set 0 = .ok (.iload_n 1, 1) := by decide +kernel
theorem dX10_set_1 : decode cX10_set 1 = .ok (.ifCond .lt 30, 3) := by decide +kernel
theorem dX10_set_4 : decode cX10_set 4 = .ok (.iload_n 1, 1) := by decide +kernel
theorem dX10_set_5 : decode cX10_set 5 = .ok (.iconst 5, 1) := by decide +kernel
theorem dX10_set_6 : decode cX10_set 6 = .ok (.if_icmp .ge 25, 3) := by decide +kernel
theorem dX10_set_9 : decode cX10_set 9 = .ok (.iload_n 2, 1) := by decide +kernel
theorem dX10_set_10 : decode cX10_set 10 = .ok (.getstatic 144, 3) := by decide +kernel
theorem dX10_set_13 : decode cX10_set 13 = .ok (.iload_n 1, 1) := by decide +kernel
theorem dX10_set_14 : decode cX10_set 14 = .ok (.invokestatic 148, 3) := by decide +kernel
theorem dX10_set_17 : decode cX10_set 17 = .ok (.if_icmp .lt 14, 3) := by decide +kernel
theorem dX10_set_20 : decode cX10_set 20 = .ok (.iload_n 2, 1) := by decide +kernel
theorem dX10_set_21 : decode cX10_set 21 = .ok (.getstatic 152, 3) := by decide +kernel
theorem dX10_set_24 : decode cX10_set 24 = .ok (.iload_n 1, 1) := by decide +kernel
theorem dX10_set_25 : decode cX10_set 25 = .ok (.invokestatic 148, 3) := by decide +kernel
theorem dX10_set_28 : decode cX10_set 28 = .ok (.if_icmp .le 6, 3) := by decide +kernel
theorem dX10_set_31 : decode cX10_set 31 = .ok (.bipush (-2), 2) := by decide +kernel
theorem dX10_set_33 : decode cX10_set 33 = .ok (.ireturn, 1) := by decide +kernel
theorem dX10_set_34 : decode cX10_set 34 = .ok (.aload_n 0, 1) := by decide +kernel
theorem dX10_set_35 : decode cX10_set 35 = .ok (.getfield 19, 3) := by decide +kernel
theorem dX10_set_38 : decode cX10_set 38 = .ok (.iload_n 1, 1) := by decide +kernel
theorem dX10_set_39 : decode cX10_set 39 = .ok (.invokevirtual 155, 3) := by decide +kernel
theorem dX10_set_42 : decode cX10_set 42 = .ok (.istore_n 3, 1) := by decide +kernel
theorem dX10_set_43 : decode cX10_set 43 = .ok (.aload_n 0, 1) := by decide +kernel
theorem dX10_set_44 : decode cX10_set 44 = .ok (.getfield 26, 3) := by decide +kernel
theorem dX10_set_47 : decode cX10_set 47 = .ok (.aload_n 0, 1) := by decide +kernel
theorem dX10_set_48 : decode cX10_set 48 = .ok (.getfield 19, 3) := by decide +kernel
theorem dX10_set_51 : decode cX10_set 51 = .ok (.invokevirtual 58, 3) := by decide +kernel
theorem dX10_set_54 : decode cX10_set 54 = .ok (.aload_n 0, 1) := by decide +kernel
theorem dX10_set_55 : decode cX10_set 55 = .ok (.getfield 19, 3) := by decide +kernel
theorem dX10_set_58 : decode cX10_set 58 = .ok (.iload_n 1, 1) := by decide +kernel
theorem dX10_set_59 : decode cX10_set 59 = .ok (.iload_n 2, 1) := by decide +kernel
theorem dX10_set_60 : decode cX10_set 60 = .ok (.invokevirtual 158, 3) := by decide +kernel
theorem dX10_set_63 : decode cX10_set 63 = .ok (.aload_n 0, 1) := by decide +kernel
theorem dX10_set_64 : decode cX10_set 64 = .ok (.invokevirtual 70, 3) := by decide +kernel
theorem dX10_set_67 : decode cX10_set 67 = .ok (.iload_n 3, 1) := by decide +kernel
theorem dX10_set_68 : decode cX10_set 68 = .ok (.ireturn, 1) := by decide +kernel
theorem dX10_row_0 : decode cX10_row 0 = .ok (.iload_n 1, 1) := by decide +kernel
theorem dX10_row_1 : decode cX10_row 1 = .ok (.ifCond .lt 13, 3) := by decide +kernel
theorem dX10_row_4 : decode cX10_row 4 = .ok (.iload_n 2, 1) := by decide +kernel
theorem dX10_row_5 : decode cX10_row 5 = .ok (.ifCond .lt 9, 3) := by decide +kernel
theorem dX10_row_8 : decode cX10_row 8 = .ok (.iload_n 2, 1) := by decide +kernel
theorem dX10_row_9 : decode cX10_row 9 = .ok (.bipush 9, 2) := by decide +kernel
theorem dX10_row_11 : decode cX10_row 11 = .ok (.if_icmp .lt 6, 3) := by decide +kernel
theorem dX10_row_14 : decode cX10_row 14 = .ok (.bipush (-2), 2) := by decide +kernel
theorem dX10_row_16 : decode cX10_row 16 = .ok (.ireturn, 1) := by decide +kernel
theorem dX10_row_17 : decode cX10_row 17 = .ok (.aload_n 0, 1) := by decide +kernel
theorem dX10_row_18 : decode cX10_row 18 = .ok (.getfield 33, 3) := by decide +kernel
theorem dX10_row_21 : decode cX10_row 21 = .ok (.iload_n 1, 1) := by decide +kernel
theorem dX10_row_22 : decode cX10_row 22 = .ok (.invokevirtual 166, 3) := by decide +kernel
theorem dX10_row_25 : decode cX10_row 25 = .ok (.astore_n 3, 1) := by decide +kernel
theorem dX10_row_26 : decode cX10_row 26 = .ok (.aload_n 3, 1) := by decide +kernel
theorem dX10_row_27 : decode cX10_row 27 = .ok (.ifnonnull 5, 3) := by decide +kernel
theorem dX10_row_30 : decode cX10_row 30 = .ok (.iconst (-1), 1) := by decide +kernel
theorem dX10_row_31 : decode cX10_row 31 = .ok (.ireturn, 1) := by decide +kernel
theorem dX10_row_32 : decode cX10_row 32 = .ok (.iload_n 2, 1) := by decide +kernel
theorem dX10_row_33 : decode cX10_row 33 = .ok (.tableswitch 90 0 7 #[47, 52, 57, 62, 67, 72, 77, 82], 47) := by decide +kernel
theorem dX10_row_80 : decode cX10_row 80 = .ok (.aload_n 3, 1) := by decide +kernel
theorem dX10_row_81 : decode cX10_row 81 = .ok (.getfield 170, 3) := by decide +kernel
theorem dX10_row_84 : decode cX10_row 84 = .ok (.ireturn, 1) := by decide +kernel
theorem dX10_row_85 : decode cX10_row 85 = .ok (.aload_n 3, 1) := by decide +kernel
theorem dX10_row_86 : decode cX10_row 86 = .ok (.getfield 175, 3) := by decide +kernel
theorem dX10_row_89 : decode cX10_row 89 = .ok (.ireturn, 1) := by decide +kernel
theorem dX10_row_90 : decode cX10_row 90 = .ok (.aload_n 3, 1) := by decide +kernel
theorem dX10_row_91 : decode cX10_row 91 = .ok (.getfield 178, 3) := by decide +kernel
theorem dX10_row_94 : decode cX10_row 94 = .ok (.ireturn, 1) := by decide +kernel
theorem dX10_row_95 : decode cX10_row 95 = .ok (.aload_n 3, 1) := by decide +kernel
theorem dX10_row_96 : decode cX10_row 96 = .ok (.getfield 181, 3) := by decide +kernel
theorem dX10_row_99 : decode cX10_row 99 = .ok (.ireturn, 1) := by decide +kernel
theorem dX10_row_100 : decode cX10_row 100 = .ok (.aload_n 3, 1) := by decide +kernel
theorem dX10_row_101 : decode cX10_row 101 = .ok (.getfield 184, 3) := by decide +kernel
theorem dX10_row_104 : decode cX10_row 104 = .ok (.ireturn, 1) := by decide +kernel
theorem dX10_row_105 : decode cX10_row 105 = .ok (.aload_n 3, 1) := by decide +kernel
theorem dX10_row_106 : decode cX10_row 106 = .ok (.getfield 187, 3) := by decide +kernel
theorem dX10_row_109 : decode cX10_row 109 = .ok (.ireturn, 1) := by decide +kernel
theorem dX10_row_110 : decode cX10_row 110 = .ok (.aload_n 3, 1) := by decide +kernel
theorem dX10_row_111 : decode cX10_row 111 = .ok (.getfield 188, 3) := by decide +kernel
theorem dX10_row_114 : decode cX10_row 114 = .ok (.ireturn, 1) := by decide +kernel
theorem dX10_row_115 : decode cX10_row 115 = .ok (.aload_n 3, 1) := by decide +kernel
theorem dX10_row_116 : decode cX10_row 116 = .ok (.getfield 191, 3) := by decide +kernel
theorem dX10_row_119 : decode cX10_row 119 = .ok (.invokestatic 112, 3) := by decide +kernel
theorem dX10_row_122 : decode cX10_row 122 = .ok (.ireturn, 1) := by decide +kernel
theorem dX10_row_123 : decode cX10_row 123 = .ok (.aload_n 3, 1) := by decide +kernel
theorem dX10_row_124 : decode cX10_row 124 = .ok (.invokevirtual 194, 3) := by decide +kernel
theorem dX10_row_127 : decode cX10_row 127 = .ok (.ireturn, 1) := by decide +kernel
theorem dX10_at_0 : decode cX10_at 0 = .ok (.aload_n 0, 1) := by decide +kernel
theorem dX10_at_1 : decode cX10_at 1 = .ok (.getfield 33, 3) := by decide +kernel
theorem dX10_at_4 : decode cX10_at 4 = .ok (.iload_n 1, 1) := by decide +kernel
theorem dX10_at_5 : decode cX10_at 5 = .ok (.invokevirtual 197, 3) := by decide +kernel
theorem dX10_at_8 : decode cX10_at 8 = .ok (.astore 4, 2) := by decide +kernel
theorem dX10_at_10 : decode cX10_at 10 = .ok (.aload 4, 2) := by decide +kernel
theorem dX10_at_12 : decode cX10_at 12 = .ok (.ifnull 19, 3) := by decide +kernel
theorem dX10_at_15 : decode cX10_at 15 = .ok (.iload_n 2, 1) := by decide +kernel
theorem dX10_at_16 : decode cX10_at 16 = .ok (.ifCond .lt 15, 3) := by decide +kernel
theorem dX10_at_19 : decode cX10_at 19 = .ok (.iload_n 2, 1) := by decide +kernel
theorem dX10_at_20 : decode cX10_at 20 = .ok (.aload_n 0, 1) := by decide +kernel
theorem dX10_at_21 : decode cX10_at 21 = .ok (.getfield 19, 3) := by decide +kernel
theorem dX10_at_24 : decode cX10_at 24 = .ok (.iconst 1, 1) := by decide +kernel
theorem dX10_at_25 : decode cX10_at 25 = .ok (.invokevirtual 155, 3) := by decide +kernel
theorem dX10_at_28 : decode cX10_at 28 = .ok (.if_icmp .lt 6, 3) := by decide +kernel
theorem dX10_at_31 : decode cX10_at 31 = .ok (.bipush (-2), 2) := by decide +kernel
theorem dX10_at_33 : decode cX10_at 33 = .ok (.ireturn, 1) := by decide +kernel
theorem dX10_at_34 : decode cX10_at 34 = .ok (.iload_n 3, 1) := by decide +kernel
theorem dX10_at_35 : decode cX10_at 35 = .ok (.ifCond .lt 15, 3) := by decide +kernel
theorem dX10_at_38 : decode cX10_at 38 = .ok (.iload_n 3, 1) := by decide +kernel
theorem dX10_at_39 : decode cX10_at 39 = .ok (.aload_n 0, 1) := by decide +kernel
theorem dX10_at_40 : decode cX10_at 40 = .ok (.getfield 19, 3) := by decide +kernel
theorem dX10_at_43 : decode cX10_at 43 = .ok (.iconst 0, 1) := by decide +kernel
theorem dX10_at_44 : decode cX10_at 44 = .ok (.invokevirtual 155, 3) := by decide +kernel
theorem dX10_at_47 : decode cX10_at 47 = .ok (.if_icmp .lt 6, 3) := by decide +kernel
theorem dX10_at_50 : decode cX10_at 50 = .ok (.bipush (-2), 2) := by decide +kernel
theorem dX10_at_52 : decode cX10_at 52 = .ok (.ireturn, 1) := by decide +kernel
theorem dX10_at_53 : decode cX10_at 53 = .ok (.aload_n 0, 1) := by decide +kernel
theorem dX10_at_54 : decode cX10_at 54 = .ok (.aload_n 0, 1) := by decide +kernel
theorem dX10_at_55 : decode cX10_at 55 = .ok (.getfield 33, 3) := by decide +kernel
theorem dX10_at_58 : decode cX10_at 58 = .ok (.aload 4, 2) := by decide +kernel
theorem dX10_at_60 : decode cX10_at 60 = .ok (.iload_n 2, 1) := by decide +kernel
theorem dX10_at_61 : decode cX10_at 61 = .ok (.invokevirtual 201, 3) := by decide +kernel
theorem dX10_at_64 : decode cX10_at 64 = .ok (.iload_n 3, 1) := by decide +kernel
theorem dX10_at_65 : decode cX10_at 65 = .ok (.invokevirtual 205, 3) := by decide +kernel
theorem dX10_at_68 : decode cX10_at 68 = .ok (.ireturn, 1) := by decide +kernel
theorem dX10_count_0 : decode cX10_count 0 = .ok (.iload_n 1, 1) := by decide +kernel
theorem dX10_count_1 : decode cX10_count 1 = .ok (.tableswitch 155 0 10 #[59, 67, 75, 83, 91, 99, 107, 115, 123, 139, 147], 59) := by decide +kernel
theorem dX10_count_60 : decode cX10_count 60 = .ok (.aload_n 0, 1) := by decide +kernel
theorem dX10_count_61 : decode cX10_count 61 = .ok (.getfield 19, 3) := by decide +kernel
theorem dX10_count_64 : decode cX10_count 64 = .ok (.getfield 55, 3) := by decide +kernel
theorem dX10_count_67 : decode cX10_count 67 = .ok (.ireturn, 1) := by decide +kernel
theorem dX10_count_68 : decode cX10_count 68 = .ok (.aload_n 0, 1) := by decide +kernel
theorem dX10_count_69 : decode cX10_count 69 = .ok (.getfield 33, 3) := by decide +kernel
theorem dX10_count_72 : decode cX10_count 72 = .ok (.getfield 96, 3) := by decide +kernel
theorem dX10_count_75 : decode cX10_count 75 = .ok (.ireturn, 1) := by decide +kernel
theorem dX10_count_76 : decode cX10_count 76 = .ok (.aload_n 0, 1) := by decide +kernel
theorem dX10_count_77 : decode cX10_count 77 = .ok (.getfield 33, 3) := by decide +kernel
theorem dX10_count_80 : decode cX10_count 80 = .ok (.getfield 247, 3) := by decide +kernel
theorem dX10_count_83 : decode cX10_count 83 = .ok (.ireturn, 1) := by decide +kernel
theorem dX10_count_84 : decode cX10_count 84 = .ok (.aload_n 0, 1) := by decide +kernel
theorem dX10_count_85 : decode cX10_count 85 = .ok (.getfield 33, 3) := by decide +kernel
theorem dX10_count_88 : decode cX10_count 88 = .ok (.getfield 244, 3) := by decide +kernel
theorem dX10_count_91 : decode cX10_count 91 = .ok (.ireturn, 1) := by decide +kernel
theorem dX10_count_92 : decode cX10_count 92 = .ok (.aload_n 0, 1) := by decide +kernel
theorem dX10_count_93 : decode cX10_count 93 = .ok (.getfield 33, 3) := by decide +kernel
theorem dX10_count_96 : decode cX10_count 96 = .ok (.invokevirtual 250, 3) := by decide +kernel
theorem dX10_count_99 : decode cX10_count 99 = .ok (.ireturn, 1) := by decide +kernel
theorem dX10_count_100 : decode cX10_count 100 = .ok (.aload_n 0, 1) := by decide +kernel
theorem dX10_count_101 : decode cX10_count 101 = .ok (.getfield 33, 3) := by decide +kernel
theorem dX10_count_104 : decode cX10_count 104 = .ok (.invokevirtual 253, 3) := by decide +kernel
theorem dX10_count_107 : decode cX10_count 107 = .ok (.ireturn, 1) := by decide +kernel
theorem dX10_count_108 : decode cX10_count 108 = .ok (.aload_n 0, 1) := by decide +kernel
theorem dX10_count_109 : decode cX10_count 109 = .ok (.getfield 33, 3) := by decide +kernel
theorem dX10_count_112 : decode cX10_count 112 = .ok (.invokevirtual 256, 3) := by decide +kernel
theorem dX10_count_115 : decode cX10_count 115 = .ok (.ireturn, 1) := by decide +kernel
theorem dX10_count_116 : decode cX10_count 116 = .ok (.aload_n 0, 1) := by decide +kernel
theorem dX10_count_117 : decode cX10_count 117 = .ok (.getfield 33, 3) := by decide +kernel
theorem dX10_count_120 : decode cX10_count 120 = .ok (.invokevirtual 259, 3) := by decide +kernel
theorem dX10_count_123 : decode cX10_count 123 = .ok (.ireturn, 1) := by decide +kernel
theorem dX10_count_124 : decode cX10_count 124 = .ok (.aload_n 0, 1) := by decide +kernel
theorem dX10_count_125 : decode cX10_count 125 = .ok (.getfield 33, 3) := by decide +kernel
theorem dX10_count_128 : decode cX10_count 128 = .ok (.iconst 0, 1) := by decide +kernel
theorem dX10_count_129 : decode cX10_count 129 = .ok (.aload_n 0, 1) := by decide +kernel
theorem dX10_count_130 : decode cX10_count 130 = .ok (.getfield 33, 3) := by decide +kernel
theorem dX10_count_133 : decode cX10_count 133 = .ok (.getfield 247, 3) := by decide +kernel
theorem dX10_count_136 : decode cX10_count 136 = .ok (.invokevirtual 262, 3) := by decide +kernel
theorem dX10_count_139 : decode cX10_count 139 = .ok (.ireturn, 1) := by decide +kernel
theorem dX10_count_140 : decode cX10_count 140 = .ok (.aload_n 0, 1) := by decide +kernel
theorem dX10_count_141 : decode cX10_count 141 = .ok (.getfield 26, 3) := by decide +kernel
theorem dX10_count_144 : decode cX10_count 144 = .ok (.getfield 162, 3) := by decide +kernel
theorem dX10_count_147 : decode cX10_count 147 = .ok (.ireturn, 1) := by decide +kernel
theorem dX10_count_148 : decode cX10_count 148 = .ok (.aload_n 0, 1) := by decide +kernel
theorem dX10_count_149 : decode cX10_count 149 = .ok (.getfield 12, 3) := by decide +kernel
theorem dX10_count_152 : decode cX10_count 152 = .ok (.getfield 40, 3) := by decide +kernel
theorem dX10_count_155 : decode cX10_count 155 = .ok (.ireturn, 1) := by decide +kernel
theorem dX10_count_156 : decode cX10_count 156 = .ok (.aload_n 0, 1) := by decide +kernel
theorem dX10_count_157 : decode cX10_count 157 = .ok (.iload_n 1, 1) := by decide +kernel
theorem dX10_count_158 : decode cX10_count 158 = .ok (.bipush 11, 2) := by decide +kernel
theorem dX10_count_160 : decode cX10_count 160 = .ok (.isub, 1) := by decide +kernel
theorem dX10_count_161 : decode cX10_count 161 = .ok (.iload_n 1, 1) := by decide +kernel
theorem dX10_count_162 : decode cX10_count 162 = .ok (.invokevirtual 265, 3) := by decide +kernel
theorem dX10_count_165 : decode cX10_count 165 = .ok (.ireturn, 1) := by decide +kernel
theorem dX10_layOut_0 : decode cX10_layOut 0 = .ok (.aload_n 0, 1) := by decide +kernel
theorem dX10_layOut_1 : decode cX10_layOut 1 = .ok (.getfield 33, 3) := by decide +kernel
theorem dX10_layOut_4 : decode cX10_layOut 4 = .ok (.aload_n 0, 1) := by decide +kernel
theorem dX10_layOut_5 : decode cX10_layOut 5 = .ok (.getfield 19, 3) := by decide +kernel
theorem dX10_layOut_8 : decode cX10_layOut 8 = .ok (.aload_n 0, 1) := by decide +kernel
theorem dX10_layOut_9 : decode cX10_layOut 9 = .ok (.getfield 19, 3) := by decide +kernel
theorem dX10_layOut_12 : decode cX10_layOut 12 = .ok (.iconst 0, 1) := by decide +kernel
theorem dX10_layOut_13 : decode cX10_layOut 13 = .ok (.invokevirtual 155, 3) := by decide +kernel
theorem dX10_layOut_16 : decode cX10_layOut 16 = .ok (.invokevirtual 237, 3) := by decide +kernel
theorem dX10_layOut_19 : decode cX10_layOut 19 = .ok (.aload_n 0, 1) := by decide +kernel
theorem dX10_layOut_20 : decode cX10_layOut 20 = .ok (.getfield 33, 3) := by decide +kernel
theorem dX10_layOut_23 : decode cX10_layOut 23 = .ok (.aload_n 0, 1) := by decide +kernel
theorem dX10_layOut_24 : decode cX10_layOut 24 = .ok (.getfield 19, 3) := by decide +kernel
theorem dX10_layOut_27 : decode cX10_layOut 27 = .ok (.iconst 1, 1) := by decide +kernel
theorem dX10_layOut_28 : decode cX10_layOut 28 = .ok (.invokevirtual 155, 3) := by decide +kernel
theorem dX10_layOut_31 : decode cX10_layOut 31 = .ok (.aload_n 0, 1) := by decide +kernel
theorem dX10_layOut_32 : decode cX10_layOut 32 = .ok (.getfield 19, 3) := by decide +kernel
theorem dX10_layOut_35 : decode cX10_layOut 35 = .ok (.iconst 4, 1) := by decide +kernel
theorem dX10_layOut_36 : decode cX10_layOut 36 = .ok (.invokevirtual 155, 3) := by decide +kernel
theorem dX10_layOut_39 : decode cX10_layOut 39 = .ok (.invokevirtual 241, 3) := by decide +kernel
theorem dX10_layOut_42 : decode cX10_layOut 42 = .ok (.return_, 1) := by decide +kernel
theorem dX10_countedSetting_0 : decode cX10_countedSetting 0 = .ok (.iload_n 2, 1) := by decide +kernel
theorem dX10_countedSetting_1 : decode cX10_countedSetting 1 = .ok (.bipush 11, 2) := by decide +kernel
theorem dX10_countedSetting_3 : decode cX10_countedSetting 3 = .ok (.if_icmp .lt 9, 3) := by decide +kernel
theorem dX10_countedSetting_6 : decode cX10_countedSetting 6 = .ok (.iload_n 2, 1) := by decide +kernel
theorem dX10_countedSetting_7 : decode cX10_countedSetting 7 = .ok (.bipush 16, 2) := by decide +kernel
theorem dX10_countedSetting_9 : decode cX10_countedSetting 9 = .ok (.if_icmp .lt 8, 3) := by decide +kernel
theorem dX10_countedSetting_12 : decode cX10_countedSetting 12 = .ok (.bipush (-2), 2) := by decide +kernel
theorem dX10_countedSetting_14 : decode cX10_countedSetting 14 = .ok (.goto 11, 3) := by decide +kernel
theorem dX10_countedSetting_17 : decode cX10_countedSetting 17 = .ok (.aload_n 0, 1) := by decide +kernel
theorem dX10_countedSetting_18 : decode cX10_countedSetting 18 = .ok (.getfield 19, 3) := by decide +kernel
theorem dX10_countedSetting_21 : decode cX10_countedSetting 21 = .ok (.iload_n 1, 1) := by decide +kernel
theorem dX10_countedSetting_22 : decode cX10_countedSetting 22 = .ok (.invokevirtual 155, 3) := by decide +kernel
theorem dX10_countedSetting_25 : decode cX10_countedSetting 25 = .ok (.ireturn, 1) := by decide +kernel
theorem dX10_byteInRow_0 : decode cX10_byteInRow 0 = .ok (.aload_n 1, 1) := by decide +kernel
theorem dX10_byteInRow_1 : decode cX10_byteInRow 1 = .ok (.ifnull 19, 3) := by decide +kernel
theorem dX10_byteInRow_4 : decode cX10_byteInRow 4 = .ok (.iload_n 2, 1) := by decide +kernel
theorem dX10_byteInRow_5 : decode cX10_byteInRow 5 = .ok (.aload_n 1, 1) := by decide +kernel
theorem dX10_byteInRow_6 : decode cX10_byteInRow 6 = .ok (.getfield 184, 3) := by decide +kernel
theorem dX10_byteInRow_9 : decode cX10_byteInRow 9 = .ok (.if_icmp .lt 11, 3) := by decide +kernel
theorem dX10_byteInRow_12 : decode cX10_byteInRow 12 = .ok (.iload_n 2, 1) := by decide +kernel
theorem dX10_byteInRow_13 : decode cX10_byteInRow 13 = .ok (.aload_n 1, 1) := by decide +kernel
theorem dX10_byteInRow_14 : decode cX10_byteInRow 14 = .ok (.invokevirtual 194, 3) := by decide +kernel
theorem dX10_byteInRow_17 : decode cX10_byteInRow 17 = .ok (.if_icmp .lt 6, 3) := by decide +kernel
theorem dX10_byteInRow_20 : decode cX10_byteInRow 20 = .ok (.bipush 32, 2) := by decide +kernel
theorem dX10_byteInRow_22 : decode cX10_byteInRow 22 = .ok (.ireturn, 1) := by decide +kernel
theorem dX10_byteInRow_23 : decode cX10_byteInRow 23 = .ok (.aload_n 0, 1) := by decide +kernel
theorem dX10_byteInRow_24 : decode cX10_byteInRow 24 = .ok (.getfield 19, 3) := by decide +kernel
theorem dX10_byteInRow_27 : decode cX10_byteInRow 27 = .ok (.aload_n 1, 1) := by decide +kernel
theorem dX10_byteInRow_28 : decode cX10_byteInRow 28 = .ok (.getfield 170, 3) := by decide +kernel
theorem dX10_byteInRow_31 : decode cX10_byteInRow 31 = .ok (.invokevirtual 73, 3) := by decide +kernel
theorem dX10_byteInRow_34 : decode cX10_byteInRow 34 = .ok (.astore_n 3, 1) := by decide +kernel
theorem dX10_byteInRow_35 : decode cX10_byteInRow 35 = .ok (.aload_n 3, 1) := by decide +kernel
theorem dX10_byteInRow_36 : decode cX10_byteInRow 36 = .ok (.ifnonnull 8, 3) := by decide +kernel
theorem dX10_byteInRow_39 : decode cX10_byteInRow 39 = .ok (.bipush 32, 2) := by decide +kernel
theorem dX10_byteInRow_41 : decode cX10_byteInRow 41 = .ok (.goto 21, 3) := by decide +kernel
theorem dX10_byteInRow_44 : decode cX10_byteInRow 44 = .ok (.aload_n 3, 1) := by decide +kernel
theorem dX10_byteInRow_45 : decode cX10_byteInRow 45 = .ok (.getfield 80, 3) := by decide +kernel
theorem dX10_byteInRow_48 : decode cX10_byteInRow 48 = .ok (.aload_n 1, 1) := by decide +kernel
theorem dX10_byteInRow_49 : decode cX10_byteInRow 49 = .ok (.getfield 293, 3) := by decide +kernel
theorem dX10_byteInRow_52 : decode cX10_byteInRow 52 = .ok (.iload_n 2, 1) := by decide +kernel
theorem dX10_byteInRow_53 : decode cX10_byteInRow 53 = .ok (.iadd, 1) := by decide +kernel
theorem dX10_byteInRow_54 : decode cX10_byteInRow 54 = .ok (.aload_n 1, 1) := by decide +kernel
theorem dX10_byteInRow_55 : decode cX10_byteInRow 55 = .ok (.getfield 184, 3) := by decide +kernel
theorem dX10_byteInRow_58 : decode cX10_byteInRow 58 = .ok (.isub, 1) := by decide +kernel
theorem dX10_byteInRow_59 : decode cX10_byteInRow 59 = .ok (.invokevirtual 140, 3) := by decide +kernel
theorem dX10_byteInRow_62 : decode cX10_byteInRow 62 = .ok (.ireturn, 1) := by decide +kernel
theorem dX10_oneIf_0 : decode cX10_oneIf 0 = .ok (.iload_n 0, 1) := by decide +kernel
theorem dX10_oneIf_1 : decode cX10_oneIf 1 = .ok (.ifCond .eq 7, 3) := by decide +kernel
theorem dX10_oneIf_4 : decode cX10_oneIf 4 = .ok (.iconst 1, 1) := by decide +kernel
theorem dX10_oneIf_5 : decode cX10_oneIf 5 = .ok (.goto 4, 3) := by decide +kernel
theorem dX10_oneIf_8 : decode cX10_oneIf 8 = .ok (.iconst 0, 1) := by decide +kernel
theorem dX10_oneIf_9 : decode cX10_oneIf 9 = .ok (.ireturn, 1) := by decide +kernel
theorem dX10_element_0 : decode cX10_element 0 = .ok (.aload_n 0, 1) := by decide +kernel
theorem dX10_element_1 : decode cX10_element 1 = .ok (.ifnull 13, 3) := by decide +kernel
theorem dX10_element_4 : decode cX10_element 4 = .ok (.iload_n 1, 1) := by decide +kernel
theorem dX10_element_5 : decode cX10_element 5 = .ok (.ifCond .lt 9, 3) := by decide +kernel
theorem dX10_element_8 : decode cX10_element 8 = .ok (.iload_n 1, 1) := by decide +kernel
theorem dX10_element_9 : decode cX10_element 9 = .ok (.aload_n 0, 1) := by decide +kernel
theorem dX10_element_10 : decode cX10_element 10 = .ok (.arraylength, 1) := by decide +kernel
theorem dX10_element_11 : decode cX10_element 11 = .ok (.if_icmp .lt 7, 3) := by decide +kernel
theorem dX10_element_14 : decode cX10_element 14 = .ok (.iconst 0, 1) := by decide +kernel
theorem dX10_element_15 : decode cX10_element 15 = .ok (.goto 6, 3) := by decide +kernel
theorem dX10_element_18 : decode cX10_element 18 = .ok (.aload_n 0, 1) := by decide +kernel
theorem dX10_element_19 : decode cX10_element 19 = .ok (.iload_n 1, 1) := by decide +kernel
theorem dX10_element_20 : decode cX10_element 20 = .ok (.iaload, 1) := by decide +kernel
theorem dX10_element_21 : decode cX10_element 21 = .ok (.ireturn, 1) := by decide +kernel
theorem dX10_isLetter_0 : decode cX10_isLetter 0 = .ok (.iload_n 0, 1) := by decide +kernel
theorem dX10_isLetter_1 : decode cX10_isLetter 1 = .ok (.bipush 97, 2) := by decide +kernel
theorem dX10_isLetter_3 : decode cX10_isLetter 3 = .ok (.if_icmp .lt 13, 3) := by decide +kernel
theorem dX10_isLetter_6 : decode cX10_isLetter 6 = .ok (.iload_n 0, 1) := by decide +kernel
theorem dX10_isLetter_7 : decode cX10_isLetter 7 = .ok (.bipush 122, 2) := by decide +kernel
theorem dX10_isLetter_9 : decode cX10_isLetter 9 = .ok (.if_icmp .gt 7, 3) := by decide +kernel
theorem dX10_isLetter_12 : decode cX10_isLetter 12 = .ok (.iconst 1, 1) := by decide +kernel
theorem dX10_isLetter_13 : decode cX10_isLetter 13 = .ok (.goto 4, 3) := by decide +kernel
theorem dX10_isLetter_16 : decode cX10_isLetter 16 = .ok (.iconst 0, 1) := by decide +kernel
theorem dX10_isLetter_17 : decode cX10_isLetter 17 = .ok (.ireturn, 1) := by decide +kernel
theorem dX10_shapeName_0 : decode cX10_shapeName 0 = .ok (.iload_n 0, 1) := by decide +kernel
theorem dX10_shapeName_1 : decode cX10_shapeName 1 = .ok (.tableswitch 47 0 3 #[31, 35, 39, 43], 31) := by decide +kernel
theorem dX10_shapeName_32 : decode cX10_shapeName 32 = .ok (.ldc_w 305, 3) := by decide +kernel
theorem dX10_shapeName_35 : decode cX10_shapeName 35 = .ok (.areturn, 1) := by decide +kernel
theorem dX10_shapeName_36 : decode cX10_shapeName 36 = .ok (.ldc_w 307, 3) := by decide +kernel
theorem dX10_shapeName_39 : decode cX10_shapeName 39 = .ok (.areturn, 1) := by decide +kernel
theorem dX10_shapeName_40 : decode cX10_shapeName 40 = .ok (.ldc_w 309, 3) := by decide +kernel
theorem dX10_shapeName_43 : decode cX10_shapeName 43 = .ok (.areturn, 1) := by decide +kernel
theorem dX10_shapeName_44 : decode cX10_shapeName 44 = .ok (.ldc_w 311, 3) := by decide +kernel
theorem dX10_shapeName_47 : decode cX10_shapeName 47 = .ok (.areturn, 1) := by decide +kernel
theorem dX10_shapeName_48 : decode cX10_shapeName 48 = .ok (.ldc_w 313, 3) := by decide +kernel
theorem dX10_shapeName_51 : decode cX10_shapeName 51 = .ok (.areturn, 1) := by decide +kernel
theorem dJ9_max_7cf53_0 : decode cJ9_max_7cf53 0 = .ok (.iload_n 0, 1) := by decide +kernel
theorem dJ9_max_7cf53_1 : decode cJ9_max_7cf53 1 = .ok (.iload_n 1, 1) := by decide +kernel
theorem dJ9_max_7cf53_2 : decode cJ9_max_7cf53 2 = .ok (.if_icmp .lt 7, 3) := by decide +kernel
theorem dJ9_max_7cf53_5 : decode cJ9_max_7cf53 5 = .ok (.iload_n 0, 1) := by decide +kernel
theorem dJ9_max_7cf53_6 : decode cJ9_max_7cf53 6 = .ok (.goto 4, 3) := by decide +kernel
theorem dJ9_max_7cf53_9 : decode cJ9_max_7cf53 9 = .ok (.iload_n 1, 1) := by decide +kernel
theorem dJ9_max_7cf53_10 : decode cJ9_max_7cf53 10 = .ok (.ireturn, 1) := by decide +kernel
theorem dJ9_min_7cf53_0 : decode cJ9_min_7cf53 0 = .ok (.iload_n 0, 1) := by decide +kernel
theorem dJ9_min_7cf53_1 : decode cJ9_min_7cf53 1 = .ok (.iload_n 1, 1) := by decide +kernel
theorem dJ9_min_7cf53_2 : decode cJ9_min_7cf53 2 = .ok (.if_icmp .gt 7, 3) := by decide +kernel
theorem dJ9_min_7cf53_5 : decode cJ9_min_7cf53 5 = .ok (.iload_n 0, 1) := by decide +kernel
theorem dJ9_min_7cf53_6 : decode cJ9_min_7cf53 6 = .ok (.goto 4, 3) := by decide +kernel
theorem dJ9_min_7cf53_9 : decode cJ9_min_7cf53 9 = .ok (.iload_n 1, 1) := by decide +kernel
theorem dJ9_min_7cf53_10 : decode cJ9_min_7cf53 10 = .ok (.ireturn, 1) := by decide +kernel
theorem dJ0_length_8abf5_0 : decode cJ0_length_8abf5 0 = .ok (.aload_n 0, 1) := by decide +kernel
theorem dJ0_length_8abf5_1 : decode cJ0_length_8abf5 1 = .ok (.getfield 9, 3) := by decide +kernel
theorem dJ0_length_8abf5_4 : decode cJ0_length_8abf5 4 = .ok (.arraylength, 1) := by decide +kernel
theorem dJ0_length_8abf5_5 : decode cJ0_length_8abf5 5 = .ok (.aload_n 0, 1) := by decide +kernel
theorem dJ0_length_8abf5_6 : decode cJ0_length_8abf5 6 = .ok (.invokevirtual 335, 3) := by decide +kernel
theorem dJ0_length_8abf5_9 : decode cJ0_length_8abf5 9 = .ok (.ishr, 1) := by decide +kernel
theorem dJ0_length_8abf5_10 : decode cJ0_length_8abf5 10 = .ok (.ireturn, 1) := by decide +kernel
theorem dJ0_charAt_5068e_0 : decode cJ0_charAt_5068e 0 = .ok (.aload_n 0, 1) := by decide +kernel
theorem dJ0_charAt_5068e_1 : decode cJ0_charAt_5068e 1 = .ok (.invokevirtual 492, 3) := by decide +kernel
theorem dJ0_charAt_5068e_4 : decode cJ0_charAt_5068e 4 = .ok (.ifCond .eq 12, 3) := by decide +kernel
theorem dJ0_charAt_5068e_7 : decode cJ0_charAt_5068e 7 = .ok (.aload_n 0, 1) := by decide +kernel
theorem dJ0_charAt_5068e_8 : decode cJ0_charAt_5068e 8 = .ok (.getfield 9, 3) := by decide +kernel
theorem dJ0_charAt_5068e_11 : decode cJ0_charAt_5068e 11 = .ok (.iload_n 1, 1) := by decide +kernel
theorem dJ0_charAt_5068e_12 : decode cJ0_charAt_5068e 12 = .ok (.invokestatic 495, 3) := by decide +kernel
theorem dJ0_charAt_5068e_15 : decode cJ0_charAt_5068e 15 = .ok (.ireturn, 1) := by decide +kernel
theorem dJ0_charAt_5068e_16 : decode cJ0_charAt_5068e 16 = .ok (.aload_n 0, 1) := by decide +kernel
theorem dJ0_charAt_5068e_17 : decode cJ0_charAt_5068e 17 = .ok (.getfield 9, 3) := by decide +kernel
theorem dJ0_charAt_5068e_20 : decode cJ0_charAt_5068e 20 = .ok (.iload_n 1, 1) := by decide +kernel
theorem dJ0_charAt_5068e_21 : decode cJ0_charAt_5068e 21 = .ok (.invokestatic 498, 3) := by decide +kernel
theorem dJ0_charAt_5068e_24 : decode cJ0_charAt_5068e 24 = .ok (.ireturn, 1) := by decide +kernel
theorem dJ0_coder_7d493_0 : decode cJ0_coder_7d493 0 = .ok (.getstatic 38, 3) := by decide +kernel
theorem dJ0_coder_7d493_3 : decode cJ0_coder_7d493 3 = .ok (.ifCond .eq 10, 3) := by decide +kernel
theorem dJ0_coder_7d493_6 : decode cJ0_coder_7d493 6 = .ok (.aload_n 0, 1) := by decide +kernel
theorem dJ0_coder_7d493_7 : decode cJ0_coder_7d493 7 = .ok (.getfield 15, 3) := by decide +kernel
theorem dJ0_coder_7d493_10 : decode cJ0_coder_7d493 10 = .ok (.goto 4, 3) := by decide +kernel
theorem dJ0_coder_7d493_13 : decode cJ0_coder_7d493 13 = .ok (.iconst 1, 1) := by decide +kernel
theorem dJ0_coder_7d493_14 : decode cJ0_coder_7d493 14 = .ok (.ireturn, 1) := by decide +kernel
theorem dJ0_isLatin1_aae02_0 : decode cJ0_isLatin1_aae02 0 = .ok (.getstatic 38, 3) := by decide +kernel
theorem dJ0_isLatin1_aae02_3 : decode cJ0_isLatin1_aae02 3 = .ok (.ifCond .eq 14, 3) := by decide +kernel
theorem dJ0_isLatin1_aae02_6 : decode cJ0_isLatin1_aae02 6 = .ok (.aload_n 0, 1) := by decide +kernel
theorem dJ0_isLatin1_aae02_7 : decode cJ0_isLatin1_aae02 7 = .ok (.getfield 15, 3) := by decide +kernel
theorem dJ0_isLatin1_aae02_10 : decode cJ0_isLatin1_aae02 10 = .ok (.ifCond .ne 7, 3) := by decide +kernel
theorem dJ0_isLatin1_aae02_13 : decode cJ0_isLatin1_aae02 13 = .ok (.iconst 1, 1) := by decide +kernel
theorem dJ0_isLatin1_aae02_14 : decode cJ0_isLatin1_aae02 14 = .ok (.goto 4, 3) := by decide +kernel
theorem dJ0_isLatin1_aae02_17 : decode cJ0_isLatin1_aae02 17 = .ok (.iconst 0, 1) := by decide +kernel
theorem dJ0_isLatin1_aae02_18 : decode cJ0_isLatin1_aae02 18 = .ok (.ireturn, 1) := by decide +kernel
theorem dJ0_checkIndex_df160_0 : decode cJ0_checkIndex_df160 0 = .ok (.iload_n 0, 1) := by decide +kernel
theorem dJ0_checkIndex_df160_1 : decode cJ0_checkIndex_df160 1 = .ok (.iload_n 1, 1) := by decide +kernel
theorem dJ0_checkIndex_df160_2 : decode cJ0_checkIndex_df160 2 = .ok (.getstatic 1053, 3) := by decide +kernel
theorem dJ0_checkIndex_df160_5 : decode cJ0_checkIndex_df160 5 = .ok (.invokestatic 1059, 3) := by decide +kernel
theorem dJ0_checkIndex_df160_8 : decode cJ0_checkIndex_df160 8 = .ok (.pop, 1) := by decide +kernel
theorem dJ0_checkIndex_df160_9 : decode cJ0_checkIndex_df160 9 = .ok (.return_, 1) := by decide +kernel
theorem dJ1_charAt_3b067_0 : decode cJ1_charAt_3b067 0 = .ok (.iload_n 1, 1) := by decide +kernel
theorem dJ1_charAt_3b067_1 : decode cJ1_charAt_3b067 1 = .ok (.aload_n 0, 1) := by decide +kernel
theorem dJ1_charAt_3b067_2 : decode cJ1_charAt_3b067 2 = .ok (.arraylength, 1) := by decide +kernel
theorem dJ1_charAt_3b067_3 : decode cJ1_charAt_3b067 3 = .ok (.invokestatic 9, 3) := by decide +kernel
theorem dJ1_charAt_3b067_6 : decode cJ1_charAt_3b067 6 = .ok (.aload_n 0, 1) := by decide +kernel
theorem dJ1_charAt_3b067_7 : decode cJ1_charAt_3b067 7 = .ok (.iload_n 1, 1) := by decide +kernel
theorem dJ1_charAt_3b067_8 : decode cJ1_charAt_3b067 8 = .ok (.baload, 1) := by decide +kernel
theorem dJ1_charAt_3b067_9 : decode cJ1_charAt_3b067 9 = .ok (.sipush 255, 3) := by decide +kernel
theorem dJ1_charAt_3b067_12 : decode cJ1_charAt_3b067 12 = .ok (.iand, 1) := by decide +kernel
theorem dJ1_charAt_3b067_13 : decode cJ1_charAt_3b067 13 = .ok (.i2c, 1) := by decide +kernel
theorem dJ1_charAt_3b067_14 : decode cJ1_charAt_3b067 14 = .ok (.ireturn, 1) := by decide +kernel
theorem dJ2_getChar_3b067_0 : decode cJ2_getChar_3b067 0 = .ok (.getstatic 44, 3) := by decide +kernel
theorem dJ2_getChar_3b067_3 : decode cJ2_getChar_3b067 3 = .ok (.ifCond .ne 25, 3) := by decide +kernel
theorem dJ2_getChar_3b067_6 : decode cJ2_getChar_3b067 6 = .ok (.iload_n 1, 1) := by decide +kernel
theorem dJ2_getChar_3b067_7 : decode cJ2_getChar_3b067 7 = .ok (.ifCond .lt 11, 3) := by decide +kernel
theorem dJ2_getChar_3b067_10 : decode cJ2_getChar_3b067 10 = .ok (.iload_n 1, 1) := by decide +kernel
theorem dJ2_getChar_3b067_11 : decode cJ2_getChar_3b067 11 = .ok (.aload_n 0, 1) := by decide +kernel
theorem dJ2_getChar_3b067_12 : decode cJ2_getChar_3b067 12 = .ok (.invokestatic 48, 3) := by decide +kernel
theorem dJ2_getChar_3b067_15 : decode cJ2_getChar_3b067 15 = .ok (.if_icmp .lt 13, 3) := by decide +kernel
theorem dJ2_getChar_3b067_18 : decode cJ2_getChar_3b067 18 = .ok (.new 52, 3) := by decide +kernel
theorem dJ2_getChar_3b067_21 : decode cJ2_getChar_3b067 21 = .ok (.dup, 1) := by decide +kernel
theorem dJ2_getChar_3b067_22 : decode cJ2_getChar_3b067 22 = .ok (.ldc 54, 2) := by decide +kernel
theorem dJ2_getChar_3b067_24 : decode cJ2_getChar_3b067 24 = .ok (.invokespecial 56, 3) := by decide +kernel
theorem dJ2_getChar_3b067_27 : decode cJ2_getChar_3b067 27 = .ok (.athrow, 1) := by decide +kernel
theorem dJ2_getChar_3b067_28 : decode cJ2_getChar_3b067 28 = .ok (.iload_n 1, 1) := by decide +kernel
theorem dJ2_getChar_3b067_29 : decode cJ2_getChar_3b067 29 = .ok (.iconst 1, 1) := by decide +kernel
theorem dJ2_getChar_3b067_30 : decode cJ2_getChar_3b067 30 = .ok (.ishl, 1) := by decide +kernel
theorem dJ2_getChar_3b067_31 : decode cJ2_getChar_3b067 31 = .ok (.istore_n 1, 1) := by decide +kernel
theorem dJ2_getChar_3b067_32 : decode cJ2_getChar_3b067 32 = .ok (.aload_n 0, 1) := by decide +kernel
theorem dJ2_getChar_3b067_33 : decode cJ2_getChar_3b067 33 = .ok (.iload_n 1, 1) := by decide +kernel
theorem dJ2_getChar_3b067_34 : decode cJ2_getChar_3b067 34 = .ok (.iinc 1 1, 3) := by decide +kernel
theorem dJ2_getChar_3b067_37 : decode cJ2_getChar_3b067 37 = .ok (.baload, 1) := by decide +kernel
theorem dJ2_getChar_3b067_38 : decode cJ2_getChar_3b067 38 = .ok (.sipush 255, 3) := by decide +kernel
theorem dJ2_getChar_3b067_41 : decode cJ2_getChar_3b067 41 = .ok (.iand, 1) := by decide +kernel
theorem dJ2_getChar_3b067_42 : decode cJ2_getChar_3b067 42 = .ok (.getstatic 59, 3) := by decide +kernel
theorem dJ2_getChar_3b067_45 : decode cJ2_getChar_3b067 45 = .ok (.ishl, 1) := by decide +kernel
theorem dJ2_getChar_3b067_46 : decode cJ2_getChar_3b067 46 = .ok (.aload_n 0, 1) := by decide +kernel
theorem dJ2_getChar_3b067_47 : decode cJ2_getChar_3b067 47 = .ok (.iload_n 1, 1) := by decide +kernel
theorem dJ2_getChar_3b067_48 : decode cJ2_getChar_3b067 48 = .ok (.baload, 1) := by decide +kernel
theorem dJ2_getChar_3b067_49 : decode cJ2_getChar_3b067 49 = .ok (.sipush 255, 3) := by decide +kernel
theorem dJ2_getChar_3b067_52 : decode cJ2_getChar_3b067 52 = .ok (.iand, 1) := by decide +kernel
theorem dJ2_getChar_3b067_53 : decode cJ2_getChar_3b067 53 = .ok (.getstatic 63, 3) := by decide +kernel
theorem dJ2_getChar_3b067_56 : decode cJ2_getChar_3b067 56 = .ok (.ishl, 1) := by decide +kernel
theorem dJ2_getChar_3b067_57 : decode cJ2_getChar_3b067 57 = .ok (.ior, 1) := by decide +kernel
theorem dJ2_getChar_3b067_58 : decode cJ2_getChar_3b067 58 = .ok (.i2c, 1) := by decide +kernel
theorem dJ2_getChar_3b067_59 : decode cJ2_getChar_3b067 59 = .ok (.ireturn, 1) := by decide +kernel
theorem dJ2_length_9d52b_0 : decode cJ2_length_9d52b 0 = .ok (.aload_n 0, 1) := by decide +kernel
theorem dJ2_length_9d52b_1 : decode cJ2_length_9d52b 1 = .ok (.arraylength, 1) := by decide +kernel
theorem dJ2_length_9d52b_2 : decode cJ2_length_9d52b 2 = .ok (.iconst 1, 1) := by decide +kernel
theorem dJ2_length_9d52b_3 : decode cJ2_length_9d52b 3 = .ok (.ishr, 1) := by decide +kernel
theorem dJ2_length_9d52b_4 : decode cJ2_length_9d52b 4 = .ok (.ireturn, 1) := by decide +kernel
theorem dJ2_charAt_3b067_0 : decode cJ2_charAt_3b067 0 = .ok (.iload_n 1, 1) := by decide +kernel
theorem dJ2_charAt_3b067_1 : decode cJ2_charAt_3b067 1 = .ok (.aload_n 0, 1) := by decide +kernel
theorem dJ2_charAt_3b067_2 : decode cJ2_charAt_3b067 2 = .ok (.invokestatic 67, 3) := by decide +kernel
theorem dJ2_charAt_3b067_5 : decode cJ2_charAt_3b067 5 = .ok (.aload_n 0, 1) := by decide +kernel
theorem dJ2_charAt_3b067_6 : decode cJ2_charAt_3b067 6 = .ok (.iload_n 1, 1) := by decide +kernel
theorem dJ2_charAt_3b067_7 : decode cJ2_charAt_3b067 7 = .ok (.invokestatic 71, 3) := by decide +kernel
theorem dJ2_charAt_3b067_10 : decode cJ2_charAt_3b067 10 = .ok (.ireturn, 1) := by decide +kernel
theorem dJ2_checkIndex_2214a_0 : decode cJ2_checkIndex_2214a 0 = .ok (.iload_n 0, 1) := by decide +kernel
theorem dJ2_checkIndex_2214a_1 : decode cJ2_checkIndex_2214a 1 = .ok (.aload_n 1, 1) := by decide +kernel
theorem dJ2_checkIndex_2214a_2 : decode cJ2_checkIndex_2214a 2 = .ok (.invokestatic 48, 3) := by decide +kernel
theorem dJ2_checkIndex_2214a_5 : decode cJ2_checkIndex_2214a 5 = .ok (.invokestatic 414, 3) := by decide +kernel
theorem dJ2_checkIndex_2214a_8 : decode cJ2_checkIndex_2214a 8 = .ok (.return_, 1) := by decide +kernel
theorem dJ3_checkIndex_8e157_0 : decode cJ3_checkIndex_8e157 0 = .ok (.iload_n 0, 1) := by decide +kernel
theorem dJ3_checkIndex_8e157_1 : decode cJ3_checkIndex_8e157 1 = .ok (.ifCond .lt 8, 3) := by decide +kernel
theorem dJ3_checkIndex_8e157_4 : decode cJ3_checkIndex_8e157 4 = .ok (.iload_n 0, 1) := by decide +kernel
theorem dJ3_checkIndex_8e157_5 : decode cJ3_checkIndex_8e157 5 = .ok (.iload_n 1, 1) := by decide +kernel
theorem dJ3_checkIndex_8e157_6 : decode cJ3_checkIndex_8e157 6 = .ok (.if_icmp .lt 10, 3) := by decide +kernel
theorem dJ3_checkIndex_8e157_9 : decode cJ3_checkIndex_8e157 9 = .ok (.aload_n 2, 1) := by decide +kernel
theorem dJ3_checkIndex_8e157_10 : decode cJ3_checkIndex_8e157 10 = .ok (.iload_n 0, 1) := by decide +kernel
theorem dJ3_checkIndex_8e157_11 : decode cJ3_checkIndex_8e157 11 = .ok (.iload_n 1, 1) := by decide +kernel
theorem dJ3_checkIndex_8e157_12 : decode cJ3_checkIndex_8e157 12 = .ok (.invokestatic 95, 3) := by decide +kernel
theorem dJ3_checkIndex_8e157_15 : decode cJ3_checkIndex_8e157 15 = .ok (.athrow, 1) := by decide +kernel
theorem dJ3_checkIndex_8e157_16 : decode cJ3_checkIndex_8e157 16 = .ok (.iload_n 0, 1) := by decide +kernel
theorem dJ3_checkIndex_8e157_17 : decode cJ3_checkIndex_8e157 17 = .ok (.ireturn, 1) := by decide +kernel
theorem dL_cell_0 : decode cL_cell 0 = .ok (.iload_n 1, 1) := by decide +kernel
theorem dL_cell_1 : decode cL_cell 1 = .ok (.aload_n 0, 1) := by decide +kernel
theorem dL_cell_2 : decode cL_cell 2 = .ok (.arraylength, 1) := by decide +kernel
theorem dL_cell_3 : decode cL_cell 3 = .ok (.if_icmp .ge 9, 3) := by decide +kernel
theorem dL_cell_6 : decode cL_cell 6 = .ok (.aload_n 0, 1) := by decide +kernel
theorem dL_cell_7 : decode cL_cell 7 = .ok (.iload_n 1, 1) := by decide +kernel
theorem dL_cell_8 : decode cL_cell 8 = .ok (.iaload, 1) := by decide +kernel
theorem dL_cell_9 : decode cL_cell 9 = .ok (.goto 9, 3) := by decide +kernel
theorem dL_cell_12 : decode cL_cell 12 = .ok (.ldc 7, 2) := by decide +kernel
theorem dL_cell_14 : decode cL_cell 14 = .ok (.iload_n 1, 1) := by decide +kernel
theorem dL_cell_15 : decode cL_cell 15 = .ok (.iconst 1, 1) := by decide +kernel
theorem dL_cell_16 : decode cL_cell 16 = .ok (.iadd, 1) := by decide +kernel
theorem dL_cell_17 : decode cL_cell 17 = .ok (.imul, 1) := by decide +kernel
theorem dL_cell_18 : decode cL_cell 18 = .ok (.ireturn, 1) := by decide +kernel
theorem dL_low_0 : decode cL_low 0 = .ok (.iload_n 0, 1) := by decide +kernel
theorem dL_low_1 : decode cL_low 1 = .ok (.ldc 8, 2) := by decide +kernel
theorem dL_low_3 : decode cL_low 3 = .ok (.iand, 1) := by decide +kernel
theorem dL_low_4 : decode cL_low 4 = .ok (.iload_n 1, 1) := by decide +kernel
theorem dL_low_5 : decode cL_low 5 = .ok (.irem, 1) := by decide +kernel
theorem dL_low_6 : decode cL_low 6 = .ok (.ireturn, 1) := by decide +kernel
theorem dL_begins_0 : decode cL_begins 0 = .ok (.aload_n 0, 1) := by decide +kernel
theorem dL_begins_1 : decode cL_begins 1 = .ok (.iconst 0, 1) := by decide +kernel
theorem dL_begins_2 : decode cL_begins 2 = .ok (.bipush 30, 2) := by decide +kernel
theorem dL_begins_4 : decode cL_begins 4 = .ok (.iastore, 1) := by decide +kernel
theorem dL_begins_5 : decode cL_begins 5 = .ok (.aload_n 0, 1) := by decide +kernel
theorem dL_begins_6 : decode cL_begins 6 = .ok (.iconst 1, 1) := by decide +kernel
theorem dL_begins_7 : decode cL_begins 7 = .ok (.bipush 12, 2) := by decide +kernel
theorem dL_begins_9 : decode cL_begins 9 = .ok (.iastore, 1) := by decide +kernel
theorem dL_begins_10 : decode cL_begins 10 = .ok (.aload_n 0, 1) := by decide +kernel
theorem dL_begins_11 : decode cL_begins 11 = .ok (.iconst 2, 1) := by decide +kernel
theorem dL_begins_12 : decode cL_begins 12 = .ok (.iconst 2, 1) := by decide +kernel
theorem dL_begins_13 : decode cL_begins 13 = .ok (.iastore, 1) := by decide +kernel
theorem dL_begins_14 : decode cL_begins 14 = .ok (.aload_n 0, 1) := by decide +kernel
theorem dL_begins_15 : decode cL_begins 15 = .ok (.iconst 3, 1) := by decide +kernel
theorem dL_begins_16 : decode cL_begins 16 = .ok (.iconst 4, 1) := by decide +kernel
theorem dL_begins_17 : decode cL_begins 17 = .ok (.iastore, 1) := by decide +kernel
theorem dL_begins_18 : decode cL_begins 18 = .ok (.aload_n 0, 1) := by decide +kernel
theorem dL_begins_19 : decode cL_begins 19 = .ok (.iconst 4, 1) := by decide +kernel
theorem dL_begins_20 : decode cL_begins 20 = .ok (.bipush 6, 2) := by decide +kernel
theorem dL_begins_22 : decode cL_begins 22 = .ok (.iastore, 1) := by decide +kernel
theorem dL_begins_23 : decode cL_begins 23 = .ok (.return_, 1) := by decide +kernel
theorem dL_types_0 : decode cL_types 0 = .ok (.aload_n 0, 1) := by decide +kernel
theorem dL_types_1 : decode cL_types 1 = .ok (.invokevirtual 9, 3) := by decide +kernel
theorem dL_types_4 : decode cL_types 4 = .ok (.ifCond .lt 7, 3) := by decide +kernel
theorem dL_types_7 : decode cL_types 7 = .ok (.iconst 1, 1) := by decide +kernel
theorem dL_types_8 : decode cL_types 8 = .ok (.goto 4, 3) := by decide +kernel
theorem dL_types_11 : decode cL_types 11 = .ok (.iconst 0, 1) := by decide +kernel
theorem dL_types_12 : decode cL_types 12 = .ok (.istore 5, 2) := by decide +kernel
theorem dL_types_14 : decode cL_types 14 = .ok (.aload_n 1, 1) := by decide +kernel
theorem dL_types_15 : decode cL_types 15 = .ok (.bipush 10, 2) := by decide +kernel
theorem dL_types_17 : decode cL_types 17 = .ok (.iload_n 2, 1) := by decide +kernel
theorem dL_types_18 : decode cL_types 18 = .ok (.imul, 1) := by decide +kernel
theorem dL_types_19 : decode cL_types 19 = .ok (.bipush 6, 2) := by decide +kernel
theorem dL_types_21 : decode cL_types 21 = .ok (.iadd, 1) := by decide +kernel
theorem dL_types_22 : decode cL_types 22 = .ok (.iload_n 3, 1) := by decide +kernel
theorem dL_types_23 : decode cL_types 23 = .ok (.iconst 3, 1) := by decide +kernel
theorem dL_types_24 : decode cL_types 24 = .ok (.invokestatic 15, 3) := by decide +kernel
theorem dL_types_27 : decode cL_types 27 = .ok (.ifCond .ne 7, 3) := by decide +kernel
theorem dL_types_30 : decode cL_types 30 = .ok (.iconst 1, 1) := by decide +kernel
theorem dL_types_31 : decode cL_types 31 = .ok (.goto 4, 3) := by decide +kernel
theorem dL_types_34 : decode cL_types 34 = .ok (.iconst 0, 1) := by decide +kernel
theorem dL_types_35 : decode cL_types 35 = .ok (.iastore, 1) := by decide +kernel
theorem dL_types_36 : decode cL_types 36 = .ok (.aload_n 1, 1) := by decide +kernel
theorem dL_types_37 : decode cL_types 37 = .ok (.bipush 10, 2) := by decide +kernel
theorem dL_types_39 : decode cL_types 39 = .ok (.iload_n 2, 1) := by decide +kernel
theorem dL_types_40 : decode cL_types 40 = .ok (.imul, 1) := by decide +kernel
theorem dL_types_41 : decode cL_types 41 = .ok (.iconst 5, 1) := by decide +kernel
theorem dL_types_42 : decode cL_types 42 = .ok (.iadd, 1) := by decide +kernel
theorem dL_types_43 : decode cL_types 43 = .ok (.iload_n 3, 1) := by decide +kernel
theorem dL_types_44 : decode cL_types 44 = .ok (.iconst 2, 1) := by decide +kernel
theorem dL_types_45 : decode cL_types 45 = .ok (.ishr, 1) := by decide +kernel
theorem dL_types_46 : decode cL_types 46 = .ok (.iconst 4, 1) := by decide +kernel
theorem dL_types_47 : decode cL_types 47 = .ok (.invokestatic 15, 3) := by decide +kernel
theorem dL_types_50 : decode cL_types 50 = .ok (.ifCond .ne 14, 3) := by decide +kernel
theorem dL_types_53 : decode cL_types 53 = .ok (.iload_n 3, 1) := by decide +kernel
theorem dL_types_54 : decode cL_types 54 = .ok (.iconst 4, 1) := by decide +kernel
theorem dL_types_55 : decode cL_types 55 = .ok (.ishr, 1) := by decide +kernel
theorem dL_types_56 : decode cL_types 56 = .ok (.bipush 6, 2) := by decide +kernel
theorem dL_types_58 : decode cL_types 58 = .ok (.invokestatic 15, 3) := by decide +kernel
theorem dL_types_61 : decode cL_types 61 = .ok (.goto 4, 3) := by decide +kernel
theorem dL_types_64 : decode cL_types 64 = .ok (.iconst 0, 1) := by decide +kernel
theorem dL_types_65 : decode cL_types 65 = .ok (.iastore, 1) := by decide +kernel
theorem dL_types_66 : decode cL_types 66 = .ok (.aload_n 1, 1) := by decide +kernel
theorem dL_types_67 : decode cL_types 67 = .ok (.bipush 10, 2) := by decide +kernel
theorem dL_types_69 : decode cL_types 69 = .ok (.iload_n 2, 1) := by decide +kernel
theorem dL_types_70 : decode cL_types 70 = .ok (.imul, 1) := by decide +kernel
theorem dL_types_71 : decode cL_types 71 = .ok (.iconst 1, 1) := by decide +kernel
theorem dL_types_72 : decode cL_types 72 = .ok (.iload_n 3, 1) := by decide +kernel
theorem dL_types_73 : decode cL_types 73 = .ok (.bipush 7, 2) := by decide +kernel
theorem dL_types_75 : decode cL_types 75 = .ok (.ishr, 1) := by decide +kernel
theorem dL_types_76 : decode cL_types 76 = .ok (.iconst 3, 1) := by decide +kernel
theorem dL_types_77 : decode cL_types 77 = .ok (.invokestatic 15, 3) := by decide +kernel
theorem dL_types_80 : decode cL_types 80 = .ok (.iadd, 1) := by decide +kernel
theorem dL_types_81 : decode cL_types 81 = .ok (.iastore, 1) := by decide +kernel
theorem dL_types_82 : decode cL_types 82 = .ok (.aload_n 1, 1) := by decide +kernel
theorem dL_types_83 : decode cL_types 83 = .ok (.bipush 10, 2) := by decide +kernel
theorem dL_types_85 : decode cL_types 85 = .ok (.iload_n 2, 1) := by decide +kernel
theorem dL_types_86 : decode cL_types 86 = .ok (.imul, 1) := by decide +kernel
theorem dL_types_87 : decode cL_types 87 = .ok (.iconst 4, 1) := by decide +kernel
theorem dL_types_88 : decode cL_types 88 = .ok (.iadd, 1) := by decide +kernel
theorem dL_types_89 : decode cL_types 89 = .ok (.iload_n 3, 1) := by decide +kernel
theorem dL_types_90 : decode cL_types 90 = .ok (.bipush 9, 2) := by decide +kernel
theorem dL_types_92 : decode cL_types 92 = .ok (.ishr, 1) := by decide +kernel
theorem dL_types_93 : decode cL_types 93 = .ok (.bipush 20, 2) := by decide +kernel
theorem dL_types_95 : decode cL_types 95 = .ok (.invokestatic 15, 3) := by decide +kernel
theorem dL_types_98 : decode cL_types 98 = .ok (.iastore, 1) := by decide +kernel
theorem dL_types_99 : decode cL_types 99 = .ok (.aload_n 1, 1) := by decide +kernel
theorem dL_types_100 : decode cL_types 100 = .ok (.bipush 10, 2) := by decide +kernel
theorem dL_types_102 : decode cL_types 102 = .ok (.iload_n 2, 1) := by decide +kernel
theorem dL_types_103 : decode cL_types 103 = .ok (.imul, 1) := by decide +kernel
theorem dL_types_104 : decode cL_types 104 = .ok (.bipush 7, 2) := by decide +kernel
theorem dL_types_106 : decode cL_types 106 = .ok (.iadd, 1) := by decide +kernel
theorem dL_types_107 : decode cL_types 107 = .ok (.iload_n 3, 1) := by decide +kernel
theorem dL_types_108 : decode cL_types 108 = .ok (.bipush 14, 2) := by decide +kernel
theorem dL_types_110 : decode cL_types 110 = .ok (.ishr, 1) := by decide +kernel
theorem dL_types_111 : decode cL_types 111 = .ok (.iconst 3, 1) := by decide +kernel
theorem dL_types_112 : decode cL_types 112 = .ok (.invokestatic 15, 3) := by decide +kernel
theorem dL_types_115 : decode cL_types 115 = .ok (.ifCond .ne 7, 3) := by decide +kernel
theorem dL_types_118 : decode cL_types 118 = .ok (.iconst 1, 1) := by decide +kernel
theorem dL_types_119 : decode cL_types 119 = .ok (.goto 4, 3) := by decide +kernel
theorem dL_types_122 : decode cL_types 122 = .ok (.iconst 0, 1) := by decide +kernel
theorem dL_types_123 : decode cL_types 123 = .ok (.iastore, 1) := by decide +kernel
theorem dL_types_124 : decode cL_types 124 = .ok (.iload 5, 2) := by decide +kernel
theorem dL_types_126 : decode cL_types 126 = .ok (.ifCond .eq 28, 3) := by decide +kernel
theorem dL_types_129 : decode cL_types 129 = .ok (.aload_n 1, 1) := by decide +kernel
theorem dL_types_130 : decode cL_types 130 = .ok (.bipush 10, 2) := by decide +kernel
theorem dL_types_132 : decode cL_types 132 = .ok (.iload_n 2, 1) := by decide +kernel
theorem dL_types_133 : decode cL_types 133 = .ok (.imul, 1) := by decide +kernel
theorem dL_types_134 : decode cL_types 134 = .ok (.bipush 6, 2) := by decide +kernel
theorem dL_types_136 : decode cL_types 136 = .ok (.iadd, 1) := by decide +kernel
theorem dL_types_137 : decode cL_types 137 = .ok (.iaload, 1) := by decide +kernel
theorem dL_types_138 : decode cL_types 138 = .ok (.ifCond .eq 12, 3) := by decide +kernel
theorem dL_types_141 : decode cL_types 141 = .ok (.aload_n 0, 1) := by decide +kernel
theorem dL_types_142 : decode cL_types 142 = .ok (.bipush 126, 2) := by decide +kernel
theorem dL_types_144 : decode cL_types 144 = .ok (.invokevirtual 21, 3) := by decide +kernel
theorem dL_types_147 : decode cL_types 147 = .ok (.ifCond .le 7, 3) := by decide +kernel
theorem dL_types_150 : decode cL_types 150 = .ok (.iconst 1, 1) := by decide +kernel
theorem dL_types_151 : decode cL_types 151 = .ok (.goto 4, 3) := by decide +kernel
theorem dL_types_154 : decode cL_types 154 = .ok (.iconst 0, 1) := by decide +kernel
theorem dL_types_155 : decode cL_types 155 = .ok (.istore 5, 2) := by decide +kernel
theorem dL_types_157 : decode cL_types 157 = .ok (.iconst 0, 1) := by decide +kernel
theorem dL_types_158 : decode cL_types 158 = .ok (.istore 6, 2) := by decide +kernel
theorem dL_types_160 : decode cL_types 160 = .ok (.iload 6, 2) := by decide +kernel
theorem dL_types_162 : decode cL_types 162 = .ok (.aload_n 1, 1) := by decide +kernel
theorem dL_types_163 : decode cL_types 163 = .ok (.bipush 10, 2) := by decide +kernel
theorem dL_types_165 : decode cL_types 165 = .ok (.iload_n 2, 1) := by decide +kernel
theorem dL_types_166 : decode cL_types 166 = .ok (.imul, 1) := by decide +kernel
theorem dL_types_167 : decode cL_types 167 = .ok (.iconst 5, 1) := by decide +kernel
theorem dL_types_168 : decode cL_types 168 = .ok (.iadd, 1) := by decide +kernel
theorem dL_types_169 : decode cL_types 169 = .ok (.iaload, 1) := by decide +kernel
theorem dL_types_170 : decode cL_types 170 = .ok (.if_icmp .ge 49, 3) := by decide +kernel
theorem dL_types_173 : decode cL_types 173 = .ok (.iload 5, 2) := by decide +kernel
theorem dL_types_175 : decode cL_types 175 = .ok (.ifCond .eq 35, 3) := by decide +kernel
theorem dL_types_178 : decode cL_types 178 = .ok (.aload_n 0, 1) := by decide +kernel
theorem dL_types_179 : decode cL_types 179 = .ok (.bipush 62, 2) := by decide +kernel
theorem dL_types_181 : decode cL_types 181 = .ok (.invokevirtual 21, 3) := by decide +kernel
theorem dL_types_184 : decode cL_types 184 = .ok (.ifCond .le 26, 3) := by decide +kernel
theorem dL_types_187 : decode cL_types 187 = .ok (.iload 4, 2) := by decide +kernel
theorem dL_types_189 : decode cL_types 189 = .ok (.iload 6, 2) := by decide +kernel
theorem dL_types_191 : decode cL_types 191 = .ok (.ishr, 1) := by decide +kernel
theorem dL_types_192 : decode cL_types 192 = .ok (.iconst 1, 1) := by decide +kernel
theorem dL_types_193 : decode cL_types 193 = .ok (.iand, 1) := by decide +kernel
theorem dL_types_194 : decode cL_types 194 = .ok (.ifCond .eq 12, 3) := by decide +kernel
theorem dL_types_197 : decode cL_types 197 = .ok (.aload_n 0, 1) := by decide +kernel
theorem dL_types_198 : decode cL_types 198 = .ok (.bipush 32, 2) := by decide +kernel
theorem dL_types_200 : decode cL_types 200 = .ok (.invokevirtual 21, 3) := by decide +kernel
theorem dL_types_203 : decode cL_types 203 = .ok (.ifCond .le 7, 3) := by decide +kernel
theorem dL_types_206 : decode cL_types 206 = .ok (.iconst 1, 1) := by decide +kernel
theorem dL_types_207 : decode cL_types 207 = .ok (.goto 4, 3) := by decide +kernel
theorem dL_types_210 : decode cL_types 210 = .ok (.iconst 0, 1) := by decide +kernel
theorem dL_types_211 : decode cL_types 211 = .ok (.istore 5, 2) := by decide +kernel
theorem dL_types_213 : decode cL_types 213 = .ok (.iinc 6 1, 3) := by decide +kernel
theorem dL_types_216 : decode cL_types 216 = .ok (.goto (-56), 3) := by decide +kernel
theorem dL_types_219 : decode cL_types 219 = .ok (.iconst 0, 1) := by decide +kernel
theorem dL_types_220 : decode cL_types 220 = .ok (.istore 6, 2) := by decide +kernel
theorem dL_types_222 : decode cL_types 222 = .ok (.iload 6, 2) := by decide +kernel
theorem dL_types_224 : decode cL_types 224 = .ok (.aload_n 1, 1) := by decide +kernel
theorem dL_types_225 : decode cL_types 225 = .ok (.bipush 10, 2) := by decide +kernel
theorem dL_types_227 : decode cL_types 227 = .ok (.iload_n 2, 1) := by decide +kernel
theorem dL_types_228 : decode cL_types 228 = .ok (.imul, 1) := by decide +kernel
theorem dL_types_229 : decode cL_types 229 = .ok (.iaload, 1) := by decide +kernel
theorem dL_types_230 : decode cL_types 230 = .ok (.if_icmp .ge 147, 3) := by decide +kernel
theorem dL_types_233 : decode cL_types 233 = .ok (.iconst 1, 1) := by decide +kernel
theorem dL_types_234 : decode cL_types 234 = .ok (.iload 4, 2) := by decide +kernel
theorem dL_types_236 : decode cL_types 236 = .ok (.iconst 5, 1) := by decide +kernel
theorem dL_types_237 : decode cL_types 237 = .ok (.iload 6, 2) := by decide +kernel
theorem dL_types_239 : decode cL_types 239 = .ok (.imul, 1) := by decide +kernel
theorem dL_types_240 : decode cL_types 240 = .ok (.ishr, 1) := by decide +kernel
theorem dL_types_241 : decode cL_types 241 = .ok (.iload_n 3, 1) := by decide +kernel
theorem dL_types_242 : decode cL_types 242 = .ok (.bipush 17, 2) := by decide +kernel
theorem dL_types_244 : decode cL_types 244 = .ok (.ishr, 1) := by decide +kernel
theorem dL_types_245 : decode cL_types 245 = .ok (.iconst 3, 1) := by decide +kernel
theorem dL_types_246 : decode cL_types 246 = .ok (.invokestatic 15, 3) := by decide +kernel
theorem dL_types_249 : decode cL_types 249 = .ok (.ifCond .ne 8, 3) := by decide +kernel
theorem dL_types_252 : decode cL_types 252 = .ok (.bipush 16, 2) := by decide +kernel
theorem dL_types_254 : decode cL_types 254 = .ok (.goto 5, 3) := by decide +kernel
theorem dL_types_257 : decode cL_types 257 = .ok (.bipush 9, 2) := by decide +kernel
theorem dL_types_259 : decode cL_types 259 = .ok (.invokestatic 15, 3) := by decide +kernel
theorem dL_types_262 : decode cL_types 262 = .ok (.iadd, 1) := by decide +kernel
theorem dL_types_263 : decode cL_types 263 = .ok (.istore 7, 2) := by decide +kernel
theorem dL_types_265 : decode cL_types 265 = .ok (.aload_n 1, 1) := by decide +kernel
theorem dL_types_266 : decode cL_types 266 = .ok (.bipush 10, 2) := by decide +kernel
theorem dL_types_268 : decode cL_types 268 = .ok (.iload_n 2, 1) := by decide +kernel
theorem dL_types_269 : decode cL_types 269 = .ok (.imul, 1) := by decide +kernel
theorem dL_types_270 : decode cL_types 270 = .ok (.iconst 1, 1) := by decide +kernel
theorem dL_types_271 : decode cL_types 271 = .ok (.iadd, 1) := by decide +kernel
theorem dL_types_272 : decode cL_types 272 = .ok (.iload 6, 2) := by decide +kernel
theorem dL_types_274 : decode cL_types 274 = .ok (.iadd, 1) := by decide +kernel
theorem dL_types_275 : decode cL_types 275 = .ok (.iload 7, 2) := by decide +kernel
theorem dL_types_277 : decode cL_types 277 = .ok (.iastore, 1) := by decide +kernel
theorem dL_types_278 : decode cL_types 278 = .ok (.iload 5, 2) := by decide +kernel
theorem dL_types_280 : decode cL_types 280 = .ok (.ifCond .eq 39, 3) := by decide +kernel
theorem dL_types_283 : decode cL_types 283 = .ok (.aload_n 0, 1) := by decide +kernel
theorem dL_types_284 : decode cL_types 284 = .ok (.bipush 32, 2) := by decide +kernel
theorem dL_types_286 : decode cL_types 286 = .ok (.invokevirtual 21, 3) := by decide +kernel
theorem dL_types_289 : decode cL_types 289 = .ok (.ifCond .le 30, 3) := by decide +kernel
theorem dL_types_292 : decode cL_types 292 = .ok (.aload_n 0, 1) := by decide +kernel
theorem dL_types_293 : decode cL_types 293 = .ok (.iconst 0, 1) := by decide +kernel
theorem dL_types_294 : decode cL_types 294 = .ok (.invokevirtual 25, 3) := by decide +kernel
theorem dL_types_297 : decode cL_types 297 = .ok (.iload 6, 2) := by decide +kernel
theorem dL_types_299 : decode cL_types 299 = .ok (.ifCond .ne 12, 3) := by decide +kernel
theorem dL_types_302 : decode cL_types 302 = .ok (.aload_n 0, 1) := by decide +kernel
theorem dL_types_303 : decode cL_types 303 = .ok (.bipush 10, 2) := by decide +kernel
theorem dL_types_305 : decode cL_types 305 = .ok (.invokevirtual 29, 3) := by decide +kernel
theorem dL_types_308 : decode cL_types 308 = .ok (.goto 4, 3) := by decide +kernel
theorem dL_types_311 : decode cL_types 311 = .ok (.iconst (-1), 1) := by decide +kernel
theorem dL_types_312 : decode cL_types 312 = .ok (.if_icmp .ne 7, 3) := by decide +kernel
theorem dL_types_315 : decode cL_types 315 = .ok (.iconst 1, 1) := by decide +kernel
theorem dL_types_316 : decode cL_types 316 = .ok (.goto 4, 3) := by decide +kernel
theorem dL_types_319 : decode cL_types 319 = .ok (.iconst 0, 1) := by decide +kernel
theorem dL_types_320 : decode cL_types 320 = .ok (.istore 5, 2) := by decide +kernel
theorem dL_types_322 : decode cL_types 322 = .ok (.iconst 0, 1) := by decide +kernel
theorem dL_types_323 : decode cL_types 323 = .ok (.istore 8, 2) := by decide +kernel
theorem dL_types_325 : decode cL_types 325 = .ok (.iload 8, 2) := by decide +kernel
theorem dL_types_327 : decode cL_types 327 = .ok (.iload 7, 2) := by decide +kernel
theorem dL_types_329 : decode cL_types 329 = .ok (.if_icmp .ge 42, 3) := by decide +kernel
theorem dL_types_332 : decode cL_types 332 = .ok (.iload 5, 2) := by decide +kernel
theorem dL_types_334 : decode cL_types 334 = .ok (.ifCond .eq 28, 3) := by decide +kernel
theorem dL_types_337 : decode cL_types 337 = .ok (.aload_n 0, 1) := by decide +kernel
theorem dL_types_338 : decode cL_types 338 = .ok (.bipush 97, 2) := by decide +kernel
theorem dL_types_340 : decode cL_types 340 = .ok (.aload_n 1, 1) := by decide +kernel
theorem dL_types_341 : decode cL_types 341 = .ok (.bipush 10, 2) := by decide +kernel
theorem dL_types_343 : decode cL_types 343 = .ok (.iload_n 2, 1) := by decide +kernel
theorem dL_types_344 : decode cL_types 344 = .ok (.imul, 1) := by decide +kernel
theorem dL_types_345 : decode cL_types 345 = .ok (.iconst 4, 1) := by decide +kernel
theorem dL_types_346 : decode cL_types 346 = .ok (.iadd, 1) := by decide +kernel
theorem dL_types_347 : decode cL_types 347 = .ok (.iaload, 1) := by decide +kernel
theorem dL_types_348 : decode cL_types 348 = .ok (.iadd, 1) := by decide +kernel
theorem dL_types_349 : decode cL_types 349 = .ok (.iload 6, 2) := by decide +kernel
theorem dL_types_351 : decode cL_types 351 = .ok (.iadd, 1) := by decide +kernel
theorem dL_types_352 : decode cL_types 352 = .ok (.invokevirtual 21, 3) := by decide +kernel
theorem dL_types_355 : decode cL_types 355 = .ok (.ifCond .le 7, 3) := by decide +kernel
theorem dL_types_358 : decode cL_types 358 = .ok (.iconst 1, 1) := by decide +kernel
theorem dL_types_359 : decode cL_types 359 = .ok (.goto 4, 3) := by decide +kernel
theorem dL_types_362 : decode cL_types 362 = .ok (.iconst 0, 1) := by decide +kernel
theorem dL_types_363 : decode cL_types 363 = .ok (.istore 5, 2) := by decide +kernel
theorem dL_types_365 : decode cL_types 365 = .ok (.iinc 8 1, 3) := by decide +kernel
theorem dL_types_368 : decode cL_types 368 = .ok (.goto (-43), 3) := by decide +kernel
theorem dL_types_371 : decode cL_types 371 = .ok (.iinc 6 1, 3) := by decide +kernel
theorem dL_types_374 : decode cL_types 374 = .ok (.goto (-152), 3) := by decide +kernel
theorem dL_types_377 : decode cL_types 377 = .ok (.iload 5, 2) := by decide +kernel
theorem dL_types_379 : decode cL_types 379 = .ok (.ifCond .eq 37, 3) := by decide +kernel
theorem dL_types_382 : decode cL_types 382 = .ok (.aload_n 1, 1) := by decide +kernel
theorem dL_types_383 : decode cL_types 383 = .ok (.bipush 10, 2) := by decide +kernel
theorem dL_types_385 : decode cL_types 385 = .ok (.iload_n 2, 1) := by decide +kernel
theorem dL_types_386 : decode cL_types 386 = .ok (.imul, 1) := by decide +kernel
theorem dL_types_387 : decode cL_types 387 = .ok (.bipush 7, 2) := by decide +kernel
theorem dL_types_389 : decode cL_types 389 = .ok (.iadd, 1) := by decide +kernel
theorem dL_types_390 : decode cL_types 390 = .ok (.iaload, 1) := by decide +kernel
theorem dL_types_391 : decode cL_types 391 = .ok (.ifCond .eq 12, 3) := by decide +kernel
theorem dL_types_394 : decode cL_types 394 = .ok (.aload_n 0, 1) := by decide +kernel
theorem dL_types_395 : decode cL_types 395 = .ok (.bipush 47, 2) := by decide +kernel
theorem dL_types_397 : decode cL_types 397 = .ok (.invokevirtual 21, 3) := by decide +kernel
theorem dL_types_400 : decode cL_types 400 = .ok (.ifCond .le 16, 3) := by decide +kernel
theorem dL_types_403 : decode cL_types 403 = .ok (.aload_n 0, 1) := by decide +kernel
theorem dL_types_404 : decode cL_types 404 = .ok (.iconst 0, 1) := by decide +kernel
theorem dL_types_405 : decode cL_types 405 = .ok (.invokevirtual 25, 3) := by decide +kernel
theorem dL_types_408 : decode cL_types 408 = .ok (.iconst (-1), 1) := by decide +kernel
theorem dL_types_409 : decode cL_types 409 = .ok (.if_icmp .ne 7, 3) := by decide +kernel
theorem dL_types_412 : decode cL_types 412 = .ok (.iconst 1, 1) := by decide +kernel
theorem dL_types_413 : decode cL_types 413 = .ok (.goto 4, 3) := by decide +kernel
theorem dL_types_416 : decode cL_types 416 = .ok (.iconst 0, 1) := by decide +kernel
theorem dL_types_417 : decode cL_types 417 = .ok (.ireturn, 1) := by decide +kernel
theorem dL_inserts_0 : decode cL_inserts 0 = .ok (.aload_n 1, 1) := by decide +kernel
theorem dL_inserts_1 : decode cL_inserts 1 = .ok (.bipush 60, 2) := by decide +kernel
theorem dL_inserts_3 : decode cL_inserts 3 = .ok (.iaload, 1) := by decide +kernel
theorem dL_inserts_4 : decode cL_inserts 4 = .ok (.bipush 6, 2) := by decide +kernel
theorem dL_inserts_6 : decode cL_inserts 6 = .ok (.if_icmp .ne 20, 3) := by decide +kernel
theorem dL_inserts_9 : decode cL_inserts 9 = .ok (.aload_n 0, 1) := by decide +kernel
theorem dL_inserts_10 : decode cL_inserts 10 = .ok (.bipush 7, 2) := by decide +kernel
theorem dL_inserts_12 : decode cL_inserts 12 = .ok (.invokevirtual 32, 3) := by decide +kernel
theorem dL_inserts_15 : decode cL_inserts 15 = .ok (.bipush (-2), 2) := by decide +kernel
theorem dL_inserts_17 : decode cL_inserts 17 = .ok (.if_icmp .ne 7, 3) := by decide +kernel
theorem dL_inserts_20 : decode cL_inserts 20 = .ok (.iconst 1, 1) := by decide +kernel
theorem dL_inserts_21 : decode cL_inserts 21 = .ok (.goto 4, 3) := by decide +kernel
theorem dL_inserts_24 : decode cL_inserts 24 = .ok (.iconst 0, 1) := by decide +kernel
theorem dL_inserts_25 : decode cL_inserts 25 = .ok (.ireturn, 1) := by decide +kernel
theorem dL_inserts_26 : decode cL_inserts 26 = .ok (.bipush 10, 2) := by decide +kernel
theorem dL_inserts_28 : decode cL_inserts 28 = .ok (.aload_n 1, 1) := by decide +kernel
theorem dL_inserts_29 : decode cL_inserts 29 = .ok (.bipush 60, 2) := by decide +kernel
theorem dL_inserts_31 : decode cL_inserts 31 = .ok (.iaload, 1) := by decide +kernel
theorem dL_inserts_32 : decode cL_inserts 32 = .ok (.imul, 1) := by decide +kernel
theorem dL_inserts_33 : decode cL_inserts 33 = .ok (.iconst 1, 1) := by decide +kernel
theorem dL_inserts_34 : decode cL_inserts 34 = .ok (.isub, 1) := by decide +kernel
theorem dL_inserts_35 : decode cL_inserts 35 = .ok (.istore 5, 2) := by decide +kernel
theorem dL_inserts_37 : decode cL_inserts 37 = .ok (.iload 5, 2) := by decide +kernel
theorem dL_inserts_39 : decode cL_inserts 39 = .ok (.bipush 10, 2) := by decide +kernel
theorem dL_inserts_41 : decode cL_inserts 41 = .ok (.iload_n 2, 1) := by decide +kernel
theorem dL_inserts_42 : decode cL_inserts 42 = .ok (.imul, 1) := by decide +kernel
theorem dL_inserts_43 : decode cL_inserts 43 = .ok (.if_icmp .lt 20, 3) := by decide +kernel
theorem dL_inserts_46 : decode cL_inserts 46 = .ok (.aload_n 1, 1) := by decide +kernel
theorem dL_inserts_47 : decode cL_inserts 47 = .ok (.iload 5, 2) := by decide +kernel
theorem dL_inserts_49 : decode cL_inserts 49 = .ok (.bipush 10, 2) := by decide +kernel
theorem dL_inserts_51 : decode cL_inserts 51 = .ok (.iadd, 1) := by decide +kernel
theorem dL_inserts_52 : decode cL_inserts 52 = .ok (.aload_n 1, 1) := by decide +kernel
theorem dL_inserts_53 : decode cL_inserts 53 = .ok (.iload 5, 2) := by decide +kernel
theorem dL_inserts_55 : decode cL_inserts 55 = .ok (.iaload, 1) := by decide +kernel
theorem dL_inserts_56 : decode cL_inserts 56 = .ok (.iastore, 1) := by decide +kernel
theorem dL_inserts_57 : decode cL_inserts 57 = .ok (.iinc 5 (-1), 3) := by decide +kernel
theorem dL_inserts_60 : decode cL_inserts 60 = .ok (.goto (-23), 3) := by decide +kernel
theorem dL_inserts_63 : decode cL_inserts 63 = .ok (.aload_n 1, 1) := by decide +kernel
theorem dL_inserts_64 : decode cL_inserts 64 = .ok (.bipush 60, 2) := by decide +kernel
theorem dL_inserts_66 : decode cL_inserts 66 = .ok (.dup2, 1) := by decide +kernel
theorem dL_inserts_67 : decode cL_inserts 67 = .ok (.iaload, 1) := by decide +kernel
theorem dL_inserts_68 : decode cL_inserts 68 = .ok (.iconst 1, 1) := by decide +kernel
theorem dL_inserts_69 : decode cL_inserts 69 = .ok (.iadd, 1) := by decide +kernel
theorem dL_inserts_70 : decode cL_inserts 70 = .ok (.iastore, 1) := by decide +kernel
theorem dL_inserts_71 : decode cL_inserts 71 = .ok (.aload_n 0, 1) := by decide +kernel
theorem dL_inserts_72 : decode cL_inserts 72 = .ok (.aload_n 1, 1) := by decide +kernel
theorem dL_inserts_73 : decode cL_inserts 73 = .ok (.iload_n 2, 1) := by decide +kernel
theorem dL_inserts_74 : decode cL_inserts 74 = .ok (.iload_n 3, 1) := by decide +kernel
theorem dL_inserts_75 : decode cL_inserts 75 = .ok (.iload 4, 2) := by decide +kernel
theorem dL_inserts_77 : decode cL_inserts 77 = .ok (.invokestatic 35, 3) := by decide +kernel
theorem dL_inserts_80 : decode cL_inserts 80 = .ok (.ifCond .eq 19, 3) := by decide +kernel
theorem dL_inserts_83 : decode cL_inserts 83 = .ok (.aload_n 0, 1) := by decide +kernel
theorem dL_inserts_84 : decode cL_inserts 84 = .ok (.iload_n 2, 1) := by decide +kernel
theorem dL_inserts_85 : decode cL_inserts 85 = .ok (.invokevirtual 32, 3) := by decide +kernel
theorem dL_inserts_88 : decode cL_inserts 88 = .ok (.aload_n 1, 1) := by decide +kernel
theorem dL_inserts_89 : decode cL_inserts 89 = .ok (.bipush 60, 2) := by decide +kernel
theorem dL_inserts_91 : decode cL_inserts 91 = .ok (.iaload, 1) := by decide +kernel
theorem dL_inserts_92 : decode cL_inserts 92 = .ok (.if_icmp .ne 7, 3) := by decide +kernel
theorem dL_inserts_95 : decode cL_inserts 95 = .ok (.iconst 1, 1) := by decide +kernel
theorem dL_inserts_96 : decode cL_inserts 96 = .ok (.goto 4, 3) := by decide +kernel
theorem dL_inserts_99 : decode cL_inserts 99 = .ok (.iconst 0, 1) := by decide +kernel
theorem dL_inserts_100 : decode cL_inserts 100 = .ok (.ireturn, 1) := by decide +kernel
theorem dL_sets_0 : decode cL_sets 0 = .ok (.iload_n 2, 1) := by decide +kernel
theorem dL_sets_1 : decode cL_sets 1 = .ok (.iconst 5, 1) := by decide +kernel
theorem dL_sets_2 : decode cL_sets 2 = .ok (.invokestatic 15, 3) := by decide +kernel
theorem dL_sets_5 : decode cL_sets 5 = .ok (.istore_n 3, 1) := by decide +kernel
theorem dL_sets_6 : decode cL_sets 6 = .ok (.iload_n 3, 1) := by decide +kernel
theorem dL_sets_7 : decode cL_sets 7 = .ok (.ifCond .ne 8, 3) := by decide +kernel
theorem dL_sets_10 : decode cL_sets 10 = .ok (.bipush 12, 2) := by decide +kernel
theorem dL_sets_12 : decode cL_sets 12 = .ok (.goto 13, 3) := by decide +kernel
theorem dL_sets_15 : decode cL_sets 15 = .ok (.iload_n 3, 1) := by decide +kernel
theorem dL_sets_16 : decode cL_sets 16 = .ok (.iconst 1, 1) := by decide +kernel
theorem dL_sets_17 : decode cL_sets 17 = .ok (.if_icmp .ne 7, 3) := by decide +kernel
theorem dL_sets_20 : decode cL_sets 20 = .ok (.iconst 4, 1) := by decide +kernel
theorem dL_sets_21 : decode cL_sets 21 = .ok (.goto 4, 3) := by decide +kernel
theorem dL_sets_24 : decode cL_sets 24 = .ok (.iconst 0, 1) := by decide +kernel
theorem dL_sets_25 : decode cL_sets 25 = .ok (.istore 4, 2) := by decide +kernel
theorem dL_sets_27 : decode cL_sets 27 = .ok (.iload_n 3, 1) := by decide +kernel
theorem dL_sets_28 : decode cL_sets 28 = .ok (.ifCond .ne 8, 3) := by decide +kernel
theorem dL_sets_31 : decode cL_sets 31 = .ok (.bipush 60, 2) := by decide +kernel
theorem dL_sets_33 : decode cL_sets 33 = .ok (.goto 25, 3) := by decide +kernel
theorem dL_sets_36 : decode cL_sets 36 = .ok (.iload_n 3, 1) := by decide +kernel
theorem dL_sets_37 : decode cL_sets 37 = .ok (.iconst 2, 1) := by decide +kernel
theorem dL_sets_38 : decode cL_sets 38 = .ok (.if_icmp .ne 8, 3) := by decide +kernel
theorem dL_sets_41 : decode cL_sets 41 = .ok (.bipush 6, 2) := by decide +kernel
theorem dL_sets_43 : decode cL_sets 43 = .ok (.goto 15, 3) := by decide +kernel
theorem dL_sets_46 : decode cL_sets 46 = .ok (.iload_n 3, 1) := by decide +kernel
theorem dL_sets_47 : decode cL_sets 47 = .ok (.iconst 3, 1) := by decide +kernel
theorem dL_sets_48 : decode cL_sets 48 = .ok (.if_icmp .ne 8, 3) := by decide +kernel
theorem dL_sets_51 : decode cL_sets 51 = .ok (.bipush 8, 2) := by decide +kernel
theorem dL_sets_53 : decode cL_sets 53 = .ok (.goto 5, 3) := by decide +kernel
theorem dL_sets_56 : decode cL_sets 56 = .ok (.bipush 30, 2) := by decide +kernel
theorem dL_sets_58 : decode cL_sets 58 = .ok (.istore 5, 2) := by decide +kernel
theorem dL_sets_60 : decode cL_sets 60 = .ok (.aload_n 1, 1) := by decide +kernel
theorem dL_sets_61 : decode cL_sets 61 = .ok (.iload_n 3, 1) := by decide +kernel
theorem dL_sets_62 : decode cL_sets 62 = .ok (.iaload, 1) := by decide +kernel
theorem dL_sets_63 : decode cL_sets 63 = .ok (.istore 6, 2) := by decide +kernel
theorem dL_sets_65 : decode cL_sets 65 = .ok (.aload_n 1, 1) := by decide +kernel
theorem dL_sets_66 : decode cL_sets 66 = .ok (.iload_n 3, 1) := by decide +kernel
theorem dL_sets_67 : decode cL_sets 67 = .ok (.iload 4, 2) := by decide +kernel
theorem dL_sets_69 : decode cL_sets 69 = .ok (.iload_n 2, 1) := by decide +kernel
theorem dL_sets_70 : decode cL_sets 70 = .ok (.iconst 3, 1) := by decide +kernel
theorem dL_sets_71 : decode cL_sets 71 = .ok (.ishr, 1) := by decide +kernel
theorem dL_sets_72 : decode cL_sets 72 = .ok (.iload 5, 2) := by decide +kernel
theorem dL_sets_74 : decode cL_sets 74 = .ok (.iload 4, 2) := by decide +kernel
theorem dL_sets_76 : decode cL_sets 76 = .ok (.isub, 1) := by decide +kernel
theorem dL_sets_77 : decode cL_sets 77 = .ok (.iconst 1, 1) := by decide +kernel
theorem dL_sets_78 : decode cL_sets 78 = .ok (.iadd, 1) := by decide +kernel
theorem dL_sets_79 : decode cL_sets 79 = .ok (.invokestatic 15, 3) := by decide +kernel
theorem dL_sets_82 : decode cL_sets 82 = .ok (.iadd, 1) := by decide +kernel
theorem dL_sets_83 : decode cL_sets 83 = .ok (.iastore, 1) := by decide +kernel
theorem dL_sets_84 : decode cL_sets 84 = .ok (.aload_n 0, 1) := by decide +kernel
theorem dL_sets_85 : decode cL_sets 85 = .ok (.iload_n 3, 1) := by decide +kernel
theorem dL_sets_86 : decode cL_sets 86 = .ok (.aload_n 1, 1) := by decide +kernel
theorem dL_sets_87 : decode cL_sets 87 = .ok (.iload_n 3, 1) := by decide +kernel
theorem dL_sets_88 : decode cL_sets 88 = .ok (.iaload, 1) := by decide +kernel
theorem dL_sets_89 : decode cL_sets 89 = .ok (.invokevirtual 39, 3) := by decide +kernel
theorem dL_sets_92 : decode cL_sets 92 = .ok (.iload 6, 2) := by decide +kernel
theorem dL_sets_94 : decode cL_sets 94 = .ok (.if_icmp .ne 47, 3) := by decide +kernel
theorem dL_sets_97 : decode cL_sets 97 = .ok (.aload_n 0, 1) := by decide +kernel
theorem dL_sets_98 : decode cL_sets 98 = .ok (.iload_n 3, 1) := by decide +kernel
theorem dL_sets_99 : decode cL_sets 99 = .ok (.iload 5, 2) := by decide +kernel
theorem dL_sets_101 : decode cL_sets 101 = .ok (.iconst 1, 1) := by decide +kernel
theorem dL_sets_102 : decode cL_sets 102 = .ok (.iadd, 1) := by decide +kernel
theorem dL_sets_103 : decode cL_sets 103 = .ok (.invokevirtual 39, 3) := by decide +kernel
theorem dL_sets_106 : decode cL_sets 106 = .ok (.bipush (-2), 2) := by decide +kernel
theorem dL_sets_108 : decode cL_sets 108 = .ok (.if_icmp .ne 33, 3) := by decide +kernel
theorem dL_sets_111 : decode cL_sets 111 = .ok (.aload_n 0, 1) := by decide +kernel
theorem dL_sets_112 : decode cL_sets 112 = .ok (.iload_n 3, 1) := by decide +kernel
theorem dL_sets_113 : decode cL_sets 113 = .ok (.iload 4, 2) := by decide +kernel
theorem dL_sets_115 : decode cL_sets 115 = .ok (.iconst 1, 1) := by decide +kernel
theorem dL_sets_116 : decode cL_sets 116 = .ok (.isub, 1) := by decide +kernel
theorem dL_sets_117 : decode cL_sets 117 = .ok (.invokevirtual 39, 3) := by decide +kernel
theorem dL_sets_120 : decode cL_sets 120 = .ok (.bipush (-2), 2) := by decide +kernel
theorem dL_sets_122 : decode cL_sets 122 = .ok (.if_icmp .ne 19, 3) := by decide +kernel
theorem dL_sets_125 : decode cL_sets 125 = .ok (.aload_n 0, 1) := by decide +kernel
theorem dL_sets_126 : decode cL_sets 126 = .ok (.iconst 5, 1) := by decide +kernel
theorem dL_sets_127 : decode cL_sets 127 = .ok (.bipush 10, 2) := by decide +kernel
theorem dL_sets_129 : decode cL_sets 129 = .ok (.invokevirtual 39, 3) := by decide +kernel
theorem dL_sets_132 : decode cL_sets 132 = .ok (.bipush (-2), 2) := by decide +kernel
theorem dL_sets_134 : decode cL_sets 134 = .ok (.if_icmp .ne 7, 3) := by decide +kernel
theorem dL_sets_137 : decode cL_sets 137 = .ok (.iconst 1, 1) := by decide +kernel
theorem dL_sets_138 : decode cL_sets 138 = .ok (.goto 4, 3) := by decide +kernel
theorem dL_sets_141 : decode cL_sets 141 = .ok (.iconst 0, 1) := by decide +kernel
theorem dL_sets_142 : decode cL_sets 142 = .ok (.ireturn, 1) := by decide +kernel
theorem dL_isFirst_0 : decode cL_isFirst 0 = .ok (.iload_n 1, 1) := by decide +kernel
theorem dL_isFirst_1 : decode cL_isFirst 1 = .ok (.ifCond .eq 15, 3) := by decide +kernel
theorem dL_isFirst_4 : decode cL_isFirst 4 = .ok (.aload_n 0, 1) := by decide +kernel
theorem dL_isFirst_5 : decode cL_isFirst 5 = .ok (.bipush 10, 2) := by decide +kernel
theorem dL_isFirst_7 : decode cL_isFirst 7 = .ok (.iload_n 1, 1) := by decide +kernel
theorem dL_isFirst_8 : decode cL_isFirst 8 = .ok (.imul, 1) := by decide +kernel
theorem dL_isFirst_9 : decode cL_isFirst 9 = .ok (.iconst 3, 1) := by decide +kernel
theorem dL_isFirst_10 : decode cL_isFirst 10 = .ok (.isub, 1) := by decide +kernel
theorem dL_isFirst_11 : decode cL_isFirst 11 = .ok (.iaload, 1) := by decide +kernel
theorem dL_isFirst_12 : decode cL_isFirst 12 = .ok (.iconst 1, 1) := by decide +kernel
theorem dL_isFirst_13 : decode cL_isFirst 13 = .ok (.if_icmp .ne 7, 3) := by decide +kernel
theorem dL_isFirst_16 : decode cL_isFirst 16 = .ok (.iconst 1, 1) := by decide +kernel
theorem dL_isFirst_17 : decode cL_isFirst 17 = .ok (.goto 4, 3) := by decide +kernel
theorem dL_isFirst_20 : decode cL_isFirst 20 = .ok (.iconst 0, 1) := by decide +kernel
theorem dL_isFirst_21 : decode cL_isFirst 21 = .ok (.ireturn, 1) := by decide +kernel
theorem dL_comes_0 : decode cL_comes 0 = .ok (.iload 4, 2) := by decide +kernel
theorem dL_comes_2 : decode cL_comes 2 = .ok (.aload_n 1, 1) := by decide +kernel
theorem dL_comes_3 : decode cL_comes 3 = .ok (.iconst 0, 1) := by decide +kernel
theorem dL_comes_4 : decode cL_comes 4 = .ok (.iaload, 1) := by decide +kernel
theorem dL_comes_5 : decode cL_comes 5 = .ok (.bipush 6, 2) := by decide +kernel
theorem dL_comes_7 : decode cL_comes 7 = .ok (.isub, 1) := by decide +kernel
theorem dL_comes_8 : decode cL_comes 8 = .ok (.if_icmp .le 12, 3) := by decide +kernel
theorem dL_comes_11 : decode cL_comes 11 = .ok (.aload_n 1, 1) := by decide +kernel
theorem dL_comes_12 : decode cL_comes 12 = .ok (.iconst 0, 1) := by decide +kernel
theorem dL_comes_13 : decode cL_comes 13 = .ok (.iaload, 1) := by decide +kernel
theorem dL_comes_14 : decode cL_comes 14 = .ok (.bipush 6, 2) := by decide +kernel
theorem dL_comes_16 : decode cL_comes 16 = .ok (.isub, 1) := by decide +kernel
theorem dL_comes_17 : decode cL_comes 17 = .ok (.goto 5, 3) := by decide +kernel
theorem dL_comes_20 : decode cL_comes 20 = .ok (.iload 4, 2) := by decide +kernel
theorem dL_comes_22 : decode cL_comes 22 = .ok (.istore 7, 2) := by decide +kernel
theorem dL_comes_24 : decode cL_comes 24 = .ok (.aload_n 0, 1) := by decide +kernel
theorem dL_comes_25 : decode cL_comes 25 = .ok (.aload_n 0, 1) := by decide +kernel
theorem dL_comes_26 : decode cL_comes 26 = .ok (.bipush 63, 2) := by decide +kernel
theorem dL_comes_28 : decode cL_comes 28 = .ok (.iaload, 1) := by decide +kernel
theorem dL_comes_29 : decode cL_comes 29 = .ok (.iload_n 2, 1) := by decide +kernel
theorem dL_comes_30 : decode cL_comes 30 = .ok (.iload_n 3, 1) := by decide +kernel
theorem dL_comes_31 : decode cL_comes 31 = .ok (.iconst 4, 1) := by decide +kernel
theorem dL_comes_32 : decode cL_comes 32 = .ok (.ishl, 1) := by decide +kernel
theorem dL_comes_33 : decode cL_comes 33 = .ok (.ior, 1) := by decide +kernel
theorem dL_comes_34 : decode cL_comes 34 = .ok (.iload 7, 2) := by decide +kernel
theorem dL_comes_36 : decode cL_comes 36 = .ok (.bipush 8, 2) := by decide +kernel
theorem dL_comes_38 : decode cL_comes 38 = .ok (.ishl, 1) := by decide +kernel
theorem dL_comes_39 : decode cL_comes 39 = .ok (.ior, 1) := by decide +kernel
theorem dL_comes_40 : decode cL_comes 40 = .ok (.iload 5, 2) := by decide +kernel
theorem dL_comes_42 : decode cL_comes 42 = .ok (.bipush 24, 2) := by decide +kernel
theorem dL_comes_44 : decode cL_comes 44 = .ok (.ishl, 1) := by decide +kernel
theorem dL_comes_45 : decode cL_comes 45 = .ok (.ior, 1) := by decide +kernel
theorem dL_comes_46 : decode cL_comes 46 = .ok (.iload 6, 2) := by decide +kernel
theorem dL_comes_48 : decode cL_comes 48 = .ok (.bipush 25, 2) := by decide +kernel
theorem dL_comes_50 : decode cL_comes 50 = .ok (.ishl, 1) := by decide +kernel
theorem dL_comes_51 : decode cL_comes 51 = .ok (.ior, 1) := by decide +kernel
theorem dL_comes_52 : decode cL_comes 52 = .ok (.iastore, 1) := by decide +kernel
theorem dL_comes_53 : decode cL_comes 53 = .ok (.aload_n 0, 1) := by decide +kernel
theorem dL_comes_54 : decode cL_comes 54 = .ok (.bipush 63, 2) := by decide +kernel
theorem dL_comes_56 : decode cL_comes 56 = .ok (.dup2, 1) := by decide +kernel
theorem dL_comes_57 : decode cL_comes 57 = .ok (.iaload, 1) := by decide +kernel
theorem dL_comes_58 : decode cL_comes 58 = .ok (.iconst 1, 1) := by decide +kernel
theorem dL_comes_59 : decode cL_comes 59 = .ok (.iadd, 1) := by decide +kernel
theorem dL_comes_60 : decode cL_comes 60 = .ok (.iastore, 1) := by decide +kernel
theorem dL_comes_61 : decode cL_comes 61 = .ok (.return_, 1) := by decide +kernel
theorem dL_first_0 : decode cL_first 0 = .ok (.iload_n 0, 1) := by decide +kernel
theorem dL_first_1 : decode cL_first 1 = .ok (.bipush 8, 2) := by decide +kernel
theorem dL_first_3 : decode cL_first 3 = .ok (.ishr, 1) := by decide +kernel
theorem dL_first_4 : decode cL_first 4 = .ok (.sipush 255, 3) := by decide +kernel
theorem dL_first_7 : decode cL_first 7 = .ok (.iand, 1) := by decide +kernel
theorem dL_first_8 : decode cL_first 8 = .ok (.ireturn, 1) := by decide +kernel
theorem dL_length_0 : decode cL_length 0 = .ok (.iload_n 0, 1) := by decide +kernel
theorem dL_length_1 : decode cL_length 1 = .ok (.bipush 16, 2) := by decide +kernel
theorem dL_length_3 : decode cL_length 3 = .ok (.ishr, 1) := by decide +kernel
theorem dL_length_4 : decode cL_length 4 = .ok (.sipush 255, 3) := by decide +kernel
theorem dL_length_7 : decode cL_length 7 = .ok (.iand, 1) := by decide +kernel
theorem dL_length_8 : decode cL_length 8 = .ok (.ireturn, 1) := by decide +kernel
theorem dL_breaks_0 : decode cL_breaks 0 = .ok (.aload_n 2, 1) := by decide +kernel
theorem dL_breaks_1 : decode cL_breaks 1 = .ok (.bipush 63, 2) := by decide +kernel
theorem dL_breaks_3 : decode cL_breaks 3 = .ok (.iconst 0, 1) := by decide +kernel
theorem dL_breaks_4 : decode cL_breaks 4 = .ok (.iastore, 1) := by decide +kernel
theorem dL_breaks_5 : decode cL_breaks 5 = .ok (.iconst 0, 1) := by decide +kernel
theorem dL_breaks_6 : decode cL_breaks 6 = .ok (.istore_n 3, 1) := by decide +kernel
theorem dL_breaks_7 : decode cL_breaks 7 = .ok (.iload_n 3, 1) := by decide +kernel
theorem dL_breaks_8 : decode cL_breaks 8 = .ok (.aload_n 0, 1) := by decide +kernel
theorem dL_breaks_9 : decode cL_breaks 9 = .ok (.bipush 60, 2) := by decide +kernel
theorem dL_breaks_11 : decode cL_breaks 11 = .ok (.iaload, 1) := by decide +kernel
theorem dL_breaks_12 : decode cL_breaks 12 = .ok (.if_icmp .ge 304, 3) := by decide +kernel
theorem dL_breaks_15 : decode cL_breaks 15 = .ok (.aload_n 0, 1) := by decide +kernel
theorem dL_breaks_16 : decode cL_breaks 16 = .ok (.bipush 10, 2) := by decide +kernel
theorem dL_breaks_18 : decode cL_breaks 18 = .ok (.iload_n 3, 1) := by decide +kernel
theorem dL_breaks_19 : decode cL_breaks 19 = .ok (.imul, 1) := by decide +kernel
theorem dL_breaks_20 : decode cL_breaks 20 = .ok (.iconst 5, 1) := by decide +kernel
theorem dL_breaks_21 : decode cL_breaks 21 = .ok (.iadd, 1) := by decide +kernel
theorem dL_breaks_22 : decode cL_breaks 22 = .ok (.iaload, 1) := by decide +kernel
theorem dL_breaks_23 : decode cL_breaks 23 = .ok (.aload_n 1, 1) := by decide +kernel
theorem dL_breaks_24 : decode cL_breaks 24 = .ok (.iconst 2, 1) := by decide +kernel
theorem dL_breaks_25 : decode cL_breaks 25 = .ok (.iaload, 1) := by decide +kernel
theorem dL_breaks_26 : decode cL_breaks 26 = .ok (.imul, 1) := by decide +kernel
theorem dL_breaks_27 : decode cL_breaks 27 = .ok (.istore 4, 2) := by decide +kernel
theorem dL_breaks_29 : decode cL_breaks 29 = .ok (.aload_n 0, 1) := by decide +kernel
theorem dL_breaks_30 : decode cL_breaks 30 = .ok (.bipush 10, 2) := by decide +kernel
theorem dL_breaks_32 : decode cL_breaks 32 = .ok (.iload_n 3, 1) := by decide +kernel
theorem dL_breaks_33 : decode cL_breaks 33 = .ok (.imul, 1) := by decide +kernel
theorem dL_breaks_34 : decode cL_breaks 34 = .ok (.bipush 6, 2) := by decide +kernel
theorem dL_breaks_36 : decode cL_breaks 36 = .ok (.iadd, 1) := by decide +kernel
theorem dL_breaks_37 : decode cL_breaks 37 = .ok (.iaload, 1) := by decide +kernel
theorem dL_breaks_38 : decode cL_breaks 38 = .ok (.iconst 1, 1) := by decide +kernel
theorem dL_breaks_39 : decode cL_breaks 39 = .ok (.if_icmp .ne 15, 3) := by decide +kernel
theorem dL_breaks_42 : decode cL_breaks 42 = .ok (.aload_n 0, 1) := by decide +kernel
theorem dL_breaks_43 : decode cL_breaks 43 = .ok (.iload_n 3, 1) := by decide +kernel
theorem dL_breaks_44 : decode cL_breaks 44 = .ok (.invokestatic 42, 3) := by decide +kernel
theorem dL_breaks_47 : decode cL_breaks 47 = .ok (.ifCond .ne 7, 3) := by decide +kernel
theorem dL_breaks_50 : decode cL_breaks 50 = .ok (.iconst 1, 1) := by decide +kernel
theorem dL_breaks_51 : decode cL_breaks 51 = .ok (.goto 4, 3) := by decide +kernel
theorem dL_breaks_54 : decode cL_breaks 54 = .ok (.iconst 0, 1) := by decide +kernel
theorem dL_breaks_55 : decode cL_breaks 55 = .ok (.istore 5, 2) := by decide +kernel
theorem dL_breaks_57 : decode cL_breaks 57 = .ok (.aload_n 2, 1) := by decide +kernel
theorem dL_breaks_58 : decode cL_breaks 58 = .ok (.bipush 63, 2) := by decide +kernel
theorem dL_breaks_60 : decode cL_breaks 60 = .ok (.iaload, 1) := by decide +kernel
theorem dL_breaks_61 : decode cL_breaks 61 = .ok (.ifCond .ne 7, 3) := by decide +kernel
theorem dL_breaks_64 : decode cL_breaks 64 = .ok (.iconst 0, 1) := by decide +kernel
theorem dL_breaks_65 : decode cL_breaks 65 = .ok (.goto 11, 3) := by decide +kernel
theorem dL_breaks_68 : decode cL_breaks 68 = .ok (.aload_n 2, 1) := by decide +kernel
theorem dL_breaks_69 : decode cL_breaks 69 = .ok (.aload_n 2, 1) := by decide +kernel
theorem dL_breaks_70 : decode cL_breaks 70 = .ok (.bipush 63, 2) := by decide +kernel
theorem dL_breaks_72 : decode cL_breaks 72 = .ok (.iaload, 1) := by decide +kernel
theorem dL_breaks_73 : decode cL_breaks 73 = .ok (.iconst 1, 1) := by decide +kernel
theorem dL_breaks_74 : decode cL_breaks 74 = .ok (.isub, 1) := by decide +kernel
theorem dL_breaks_75 : decode cL_breaks 75 = .ok (.iaload, 1) := by decide +kernel
theorem dL_breaks_76 : decode cL_breaks 76 = .ok (.istore 6, 2) := by decide +kernel
theorem dL_breaks_78 : decode cL_breaks 78 = .ok (.iconst 0, 1) := by decide +kernel
theorem dL_breaks_79 : decode cL_breaks 79 = .ok (.istore 7, 2) := by decide +kernel
theorem dL_breaks_81 : decode cL_breaks 81 = .ok (.iconst 0, 1) := by decide +kernel
theorem dL_breaks_82 : decode cL_breaks 82 = .ok (.istore 8, 2) := by decide +kernel
theorem dL_breaks_84 : decode cL_breaks 84 = .ok (.aload_n 2, 1) := by decide +kernel
theorem dL_breaks_85 : decode cL_breaks 85 = .ok (.aload_n 1, 1) := by decide +kernel
theorem dL_breaks_86 : decode cL_breaks 86 = .ok (.iload_n 3, 1) := by decide +kernel
theorem dL_breaks_87 : decode cL_breaks 87 = .ok (.iconst 0, 1) := by decide +kernel
theorem dL_breaks_88 : decode cL_breaks 88 = .ok (.iload 5, 2) := by decide +kernel
theorem dL_breaks_90 : decode cL_breaks 90 = .ok (.ifCond .eq 19, 3) := by decide +kernel
theorem dL_breaks_93 : decode cL_breaks 93 = .ok (.iload 6, 2) := by decide +kernel
theorem dL_breaks_95 : decode cL_breaks 95 = .ok (.invokestatic 46, 3) := by decide +kernel
theorem dL_breaks_98 : decode cL_breaks 98 = .ok (.iload 6, 2) := by decide +kernel
theorem dL_breaks_100 : decode cL_breaks 100 = .ok (.invokestatic 49, 3) := by decide +kernel
theorem dL_breaks_103 : decode cL_breaks 103 = .ok (.iadd, 1) := by decide +kernel
theorem dL_breaks_104 : decode cL_breaks 104 = .ok (.iconst 1, 1) := by decide +kernel
theorem dL_breaks_105 : decode cL_breaks 105 = .ok (.iadd, 1) := by decide +kernel
theorem dL_breaks_106 : decode cL_breaks 106 = .ok (.goto 5, 3) := by decide +kernel
theorem dL_breaks_109 : decode cL_breaks 109 = .ok (.iload 4, 2) := by decide +kernel
theorem dL_breaks_111 : decode cL_breaks 111 = .ok (.iconst 0, 1) := by decide +kernel
theorem dL_breaks_112 : decode cL_breaks 112 = .ok (.iconst 0, 1) := by decide +kernel
theorem dL_breaks_113 : decode cL_breaks 113 = .ok (.invokestatic 52, 3) := by decide +kernel
theorem dL_breaks_116 : decode cL_breaks 116 = .ok (.iconst 0, 1) := by decide +kernel
theorem dL_breaks_117 : decode cL_breaks 117 = .ok (.istore 9, 2) := by decide +kernel
theorem dL_breaks_119 : decode cL_breaks 119 = .ok (.iload 9, 2) := by decide +kernel
theorem dL_breaks_121 : decode cL_breaks 121 = .ok (.aload_n 0, 1) := by decide +kernel
theorem dL_breaks_122 : decode cL_breaks 122 = .ok (.bipush 10, 2) := by decide +kernel
theorem dL_breaks_124 : decode cL_breaks 124 = .ok (.iload_n 3, 1) := by decide +kernel
theorem dL_breaks_125 : decode cL_breaks 125 = .ok (.imul, 1) := by decide +kernel
theorem dL_breaks_126 : decode cL_breaks 126 = .ok (.iaload, 1) := by decide +kernel
theorem dL_breaks_127 : decode cL_breaks 127 = .ok (.if_icmp .ge 183, 3) := by decide +kernel
theorem dL_breaks_130 : decode cL_breaks 130 = .ok (.aload_n 0, 1) := by decide +kernel
theorem dL_breaks_131 : decode cL_breaks 131 = .ok (.bipush 10, 2) := by decide +kernel
theorem dL_breaks_133 : decode cL_breaks 133 = .ok (.iload_n 3, 1) := by decide +kernel
theorem dL_breaks_134 : decode cL_breaks 134 = .ok (.imul, 1) := by decide +kernel
theorem dL_breaks_135 : decode cL_breaks 135 = .ok (.iconst 1, 1) := by decide +kernel
theorem dL_breaks_136 : decode cL_breaks 136 = .ok (.iadd, 1) := by decide +kernel
theorem dL_breaks_137 : decode cL_breaks 137 = .ok (.iload 9, 2) := by decide +kernel
theorem dL_breaks_139 : decode cL_breaks 139 = .ok (.iadd, 1) := by decide +kernel
theorem dL_breaks_140 : decode cL_breaks 140 = .ok (.iaload, 1) := by decide +kernel
theorem dL_breaks_141 : decode cL_breaks 141 = .ok (.istore 10, 2) := by decide +kernel
theorem dL_breaks_143 : decode cL_breaks 143 = .ok (.aload_n 2, 1) := by decide +kernel
theorem dL_breaks_144 : decode cL_breaks 144 = .ok (.aload_n 2, 1) := by decide +kernel
theorem dL_breaks_145 : decode cL_breaks 145 = .ok (.bipush 63, 2) := by decide +kernel
theorem dL_breaks_147 : decode cL_breaks 147 = .ok (.iaload, 1) := by decide +kernel
theorem dL_breaks_148 : decode cL_breaks 148 = .ok (.iconst 1, 1) := by decide +kernel
theorem dL_breaks_149 : decode cL_breaks 149 = .ok (.isub, 1) := by decide +kernel
theorem dL_breaks_150 : decode cL_breaks 150 = .ok (.iaload, 1) := by decide +kernel
theorem dL_breaks_151 : decode cL_breaks 151 = .ok (.istore 11, 2) := by decide +kernel
theorem dL_breaks_153 : decode cL_breaks 153 = .ok (.iload 11, 2) := by decide +kernel
theorem dL_breaks_155 : decode cL_breaks 155 = .ok (.invokestatic 49, 3) := by decide +kernel
theorem dL_breaks_158 : decode cL_breaks 158 = .ok (.ifCond .le 48, 3) := by decide +kernel
theorem dL_breaks_161 : decode cL_breaks 161 = .ok (.iload 11, 2) := by decide +kernel
theorem dL_breaks_163 : decode cL_breaks 163 = .ok (.invokestatic 46, 3) := by decide +kernel
theorem dL_breaks_166 : decode cL_breaks 166 = .ok (.iload 11, 2) := by decide +kernel
theorem dL_breaks_168 : decode cL_breaks 168 = .ok (.invokestatic 49, 3) := by decide +kernel
theorem dL_breaks_171 : decode cL_breaks 171 = .ok (.iadd, 1) := by decide +kernel
theorem dL_breaks_172 : decode cL_breaks 172 = .ok (.iconst 1, 1) := by decide +kernel
theorem dL_breaks_173 : decode cL_breaks 173 = .ok (.iadd, 1) := by decide +kernel
theorem dL_breaks_174 : decode cL_breaks 174 = .ok (.iload 10, 2) := by decide +kernel
theorem dL_breaks_176 : decode cL_breaks 176 = .ok (.iadd, 1) := by decide +kernel
theorem dL_breaks_177 : decode cL_breaks 177 = .ok (.aload_n 1, 1) := by decide +kernel
theorem dL_breaks_178 : decode cL_breaks 178 = .ok (.iconst 0, 1) := by decide +kernel
theorem dL_breaks_179 : decode cL_breaks 179 = .ok (.iaload, 1) := by decide +kernel
theorem dL_breaks_180 : decode cL_breaks 180 = .ok (.if_icmp .le 26, 3) := by decide +kernel
theorem dL_breaks_183 : decode cL_breaks 183 = .ok (.iinc 7 1, 3) := by decide +kernel
theorem dL_breaks_186 : decode cL_breaks 186 = .ok (.aload_n 2, 1) := by decide +kernel
theorem dL_breaks_187 : decode cL_breaks 187 = .ok (.aload_n 1, 1) := by decide +kernel
theorem dL_breaks_188 : decode cL_breaks 188 = .ok (.iload_n 3, 1) := by decide +kernel
theorem dL_breaks_189 : decode cL_breaks 189 = .ok (.iload 7, 2) := by decide +kernel
theorem dL_breaks_191 : decode cL_breaks 191 = .ok (.iload 4, 2) := by decide +kernel
theorem dL_breaks_193 : decode cL_breaks 193 = .ok (.aload_n 1, 1) := by decide +kernel
theorem dL_breaks_194 : decode cL_breaks 194 = .ok (.iconst 3, 1) := by decide +kernel
theorem dL_breaks_195 : decode cL_breaks 195 = .ok (.iaload, 1) := by decide +kernel
theorem dL_breaks_196 : decode cL_breaks 196 = .ok (.iadd, 1) := by decide +kernel
theorem dL_breaks_197 : decode cL_breaks 197 = .ok (.iconst 0, 1) := by decide +kernel
theorem dL_breaks_198 : decode cL_breaks 198 = .ok (.iload 8, 2) := by decide +kernel
theorem dL_breaks_200 : decode cL_breaks 200 = .ok (.invokestatic 52, 3) := by decide +kernel
theorem dL_breaks_203 : decode cL_breaks 203 = .ok (.goto 24, 3) := by decide +kernel
theorem dL_breaks_206 : decode cL_breaks 206 = .ok (.iload 11, 2) := by decide +kernel
theorem dL_breaks_208 : decode cL_breaks 208 = .ok (.invokestatic 49, 3) := by decide +kernel
theorem dL_breaks_211 : decode cL_breaks 211 = .ok (.ifCond .le 16, 3) := by decide +kernel
theorem dL_breaks_214 : decode cL_breaks 214 = .ok (.aload_n 2, 1) := by decide +kernel
theorem dL_breaks_215 : decode cL_breaks 215 = .ok (.aload_n 2, 1) := by decide +kernel
theorem dL_breaks_216 : decode cL_breaks 216 = .ok (.bipush 63, 2) := by decide +kernel
theorem dL_breaks_218 : decode cL_breaks 218 = .ok (.iaload, 1) := by decide +kernel
theorem dL_breaks_219 : decode cL_breaks 219 = .ok (.iconst 1, 1) := by decide +kernel
theorem dL_breaks_220 : decode cL_breaks 220 = .ok (.isub, 1) := by decide +kernel
theorem dL_breaks_221 : decode cL_breaks 221 = .ok (.dup2, 1) := by decide +kernel
theorem dL_breaks_222 : decode cL_breaks 222 = .ok (.iaload, 1) := by decide +kernel
theorem dL_breaks_223 : decode cL_breaks 223 = .ok (.ldc 56, 2) := by decide +kernel
theorem dL_breaks_225 : decode cL_breaks 225 = .ok (.iadd, 1) := by decide +kernel
theorem dL_breaks_226 : decode cL_breaks 226 = .ok (.iastore, 1) := by decide +kernel
theorem dL_breaks_227 : decode cL_breaks 227 = .ok (.iload 10, 2) := by decide +kernel
theorem dL_breaks_229 : decode cL_breaks 229 = .ok (.ifCond .le 72, 3) := by decide +kernel
theorem dL_breaks_232 : decode cL_breaks 232 = .ok (.aload_n 2, 1) := by decide +kernel
theorem dL_breaks_233 : decode cL_breaks 233 = .ok (.aload_n 2, 1) := by decide +kernel
theorem dL_breaks_234 : decode cL_breaks 234 = .ok (.bipush 63, 2) := by decide +kernel
theorem dL_breaks_236 : decode cL_breaks 236 = .ok (.iaload, 1) := by decide +kernel
theorem dL_breaks_237 : decode cL_breaks 237 = .ok (.iconst 1, 1) := by decide +kernel
theorem dL_breaks_238 : decode cL_breaks 238 = .ok (.isub, 1) := by decide +kernel
theorem dL_breaks_239 : decode cL_breaks 239 = .ok (.iaload, 1) := by decide +kernel
theorem dL_breaks_240 : decode cL_breaks 240 = .ok (.istore 11, 2) := by decide +kernel
theorem dL_breaks_242 : decode cL_breaks 242 = .ok (.iload 11, 2) := by decide +kernel
theorem dL_breaks_244 : decode cL_breaks 244 = .ok (.invokestatic 46, 3) := by decide +kernel
theorem dL_breaks_247 : decode cL_breaks 247 = .ok (.iload 11, 2) := by decide +kernel
theorem dL_breaks_249 : decode cL_breaks 249 = .ok (.invokestatic 49, 3) := by decide +kernel
theorem dL_breaks_252 : decode cL_breaks 252 = .ok (.iadd, 1) := by decide +kernel
theorem dL_breaks_253 : decode cL_breaks 253 = .ok (.aload_n 1, 1) := by decide +kernel
theorem dL_breaks_254 : decode cL_breaks 254 = .ok (.iconst 0, 1) := by decide +kernel
theorem dL_breaks_255 : decode cL_breaks 255 = .ok (.iaload, 1) := by decide +kernel
theorem dL_breaks_256 : decode cL_breaks 256 = .ok (.if_icmp .ne 23, 3) := by decide +kernel
theorem dL_breaks_259 : decode cL_breaks 259 = .ok (.iinc 7 1, 3) := by decide +kernel
theorem dL_breaks_262 : decode cL_breaks 262 = .ok (.aload_n 2, 1) := by decide +kernel
theorem dL_breaks_263 : decode cL_breaks 263 = .ok (.aload_n 1, 1) := by decide +kernel
theorem dL_breaks_264 : decode cL_breaks 264 = .ok (.iload_n 3, 1) := by decide +kernel
theorem dL_breaks_265 : decode cL_breaks 265 = .ok (.iload 7, 2) := by decide +kernel
theorem dL_breaks_267 : decode cL_breaks 267 = .ok (.iload 4, 2) := by decide +kernel
theorem dL_breaks_269 : decode cL_breaks 269 = .ok (.aload_n 1, 1) := by decide +kernel
theorem dL_breaks_270 : decode cL_breaks 270 = .ok (.iconst 3, 1) := by decide +kernel
theorem dL_breaks_271 : decode cL_breaks 271 = .ok (.iaload, 1) := by decide +kernel
theorem dL_breaks_272 : decode cL_breaks 272 = .ok (.iadd, 1) := by decide +kernel
theorem dL_breaks_273 : decode cL_breaks 273 = .ok (.iconst 1, 1) := by decide +kernel
theorem dL_breaks_274 : decode cL_breaks 274 = .ok (.iload 8, 2) := by decide +kernel
theorem dL_breaks_276 : decode cL_breaks 276 = .ok (.invokestatic 52, 3) := by decide +kernel
theorem dL_breaks_279 : decode cL_breaks 279 = .ok (.aload_n 2, 1) := by decide +kernel
theorem dL_breaks_280 : decode cL_breaks 280 = .ok (.aload_n 2, 1) := by decide +kernel
theorem dL_breaks_281 : decode cL_breaks 281 = .ok (.bipush 63, 2) := by decide +kernel
theorem dL_breaks_283 : decode cL_breaks 283 = .ok (.iaload, 1) := by decide +kernel
theorem dL_breaks_284 : decode cL_breaks 284 = .ok (.iconst 1, 1) := by decide +kernel
theorem dL_breaks_285 : decode cL_breaks 285 = .ok (.isub, 1) := by decide +kernel
theorem dL_breaks_286 : decode cL_breaks 286 = .ok (.dup2, 1) := by decide +kernel
theorem dL_breaks_287 : decode cL_breaks 287 = .ok (.iaload, 1) := by decide +kernel
theorem dL_breaks_288 : decode cL_breaks 288 = .ok (.ldc 56, 2) := by decide +kernel
theorem dL_breaks_290 : decode cL_breaks 290 = .ok (.iadd, 1) := by decide +kernel
theorem dL_breaks_291 : decode cL_breaks 291 = .ok (.iastore, 1) := by decide +kernel
theorem dL_breaks_292 : decode cL_breaks 292 = .ok (.iinc 10 (-1), 3) := by decide +kernel
theorem dL_breaks_295 : decode cL_breaks 295 = .ok (.iinc 8 1, 3) := by decide +kernel
theorem dL_breaks_298 : decode cL_breaks 298 = .ok (.goto (-71), 3) := by decide +kernel
theorem dL_breaks_301 : decode cL_breaks 301 = .ok (.iinc 8 1, 3) := by decide +kernel
theorem dL_breaks_304 : decode cL_breaks 304 = .ok (.iinc 9 1, 3) := by decide +kernel
theorem dL_breaks_307 : decode cL_breaks 307 = .ok (.goto (-188), 3) := by decide +kernel
theorem dL_breaks_310 : decode cL_breaks 310 = .ok (.iinc 3 1, 3) := by decide +kernel
theorem dL_breaks_313 : decode cL_breaks 313 = .ok (.goto (-306), 3) := by decide +kernel
theorem dL_breaks_316 : decode cL_breaks 316 = .ok (.return_, 1) := by decide +kernel
theorem dL_areLines_0 : decode cL_areLines 0 = .ok (.iconst 0, 1) := by decide +kernel
theorem dL_areLines_1 : decode cL_areLines 1 = .ok (.istore_n 3, 1) := by decide +kernel
theorem dL_areLines_2 : decode cL_areLines 2 = .ok (.iconst (-1), 1) := by decide +kernel
theorem dL_areLines_3 : decode cL_areLines 3 = .ok (.istore 4, 2) := by decide +kernel
theorem dL_areLines_5 : decode cL_areLines 5 = .ok (.iconst 0, 1) := by decide +kernel
theorem dL_areLines_6 : decode cL_areLines 6 = .ok (.istore 5, 2) := by decide +kernel
theorem dL_areLines_8 : decode cL_areLines 8 = .ok (.iload 5, 2) := by decide +kernel
theorem dL_areLines_10 : decode cL_areLines 10 = .ok (.aload_n 1, 1) := by decide +kernel
theorem dL_areLines_11 : decode cL_areLines 11 = .ok (.bipush 60, 2) := by decide +kernel
theorem dL_areLines_13 : decode cL_areLines 13 = .ok (.iaload, 1) := by decide +kernel
theorem dL_areLines_14 : decode cL_areLines 14 = .ok (.if_icmp .ge 381, 3) := by decide +kernel
theorem dL_areLines_17 : decode cL_areLines 17 = .ok (.aload_n 1, 1) := by decide +kernel
theorem dL_areLines_18 : decode cL_areLines 18 = .ok (.bipush 10, 2) := by decide +kernel
theorem dL_areLines_20 : decode cL_areLines 20 = .ok (.iload 5, 2) := by decide +kernel
theorem dL_areLines_22 : decode cL_areLines 22 = .ok (.imul, 1) := by decide +kernel
theorem dL_areLines_23 : decode cL_areLines 23 = .ok (.bipush 6, 2) := by decide +kernel
theorem dL_areLines_25 : decode cL_areLines 25 = .ok (.iadd, 1) := by decide +kernel
theorem dL_areLines_26 : decode cL_areLines 26 = .ok (.iaload, 1) := by decide +kernel
theorem dL_areLines_27 : decode cL_areLines 27 = .ok (.iconst 1, 1) := by decide +kernel
theorem dL_areLines_28 : decode cL_areLines 28 = .ok (.if_icmp .ne 16, 3) := by decide +kernel
theorem dL_areLines_31 : decode cL_areLines 31 = .ok (.aload_n 1, 1) := by decide +kernel
theorem dL_areLines_32 : decode cL_areLines 32 = .ok (.iload 5, 2) := by decide +kernel
theorem dL_areLines_34 : decode cL_areLines 34 = .ok (.invokestatic 42, 3) := by decide +kernel
theorem dL_areLines_37 : decode cL_areLines 37 = .ok (.ifCond .ne 7, 3) := by decide +kernel
theorem dL_areLines_40 : decode cL_areLines 40 = .ok (.iconst 1, 1) := by decide +kernel
theorem dL_areLines_41 : decode cL_areLines 41 = .ok (.goto 4, 3) := by decide +kernel
theorem dL_areLines_44 : decode cL_areLines 44 = .ok (.iconst 0, 1) := by decide +kernel
theorem dL_areLines_45 : decode cL_areLines 45 = .ok (.istore 6, 2) := by decide +kernel
theorem dL_areLines_47 : decode cL_areLines 47 = .ok (.iconst 0, 1) := by decide +kernel
theorem dL_areLines_48 : decode cL_areLines 48 = .ok (.istore 7, 2) := by decide +kernel
theorem dL_areLines_50 : decode cL_areLines 50 = .ok (.iconst 0, 1) := by decide +kernel
theorem dL_areLines_51 : decode cL_areLines 51 = .ok (.istore 8, 2) := by decide +kernel
theorem dL_areLines_53 : decode cL_areLines 53 = .ok (.iconst (-1), 1) := by decide +kernel
theorem dL_areLines_54 : decode cL_areLines 54 = .ok (.istore 9, 2) := by decide +kernel
theorem dL_areLines_56 : decode cL_areLines 56 = .ok (.iload_n 3, 1) := by decide +kernel
theorem dL_areLines_57 : decode cL_areLines 57 = .ok (.iload 6, 2) := by decide +kernel
theorem dL_areLines_59 : decode cL_areLines 59 = .ok (.ifCond .eq 7, 3) := by decide +kernel
theorem dL_areLines_62 : decode cL_areLines 62 = .ok (.iconst 0, 1) := by decide +kernel
theorem dL_areLines_63 : decode cL_areLines 63 = .ok (.goto 4, 3) := by decide +kernel
theorem dL_areLines_66 : decode cL_areLines 66 = .ok (.iconst 1, 1) := by decide +kernel
theorem dL_areLines_67 : decode cL_areLines 67 = .ok (.iadd, 1) := by decide +kernel
theorem dL_areLines_68 : decode cL_areLines 68 = .ok (.istore_n 3, 1) := by decide +kernel
theorem dL_areLines_69 : decode cL_areLines 69 = .ok (.iload 4, 2) := by decide +kernel
theorem dL_areLines_71 : decode cL_areLines 71 = .ok (.aload_n 1, 1) := by decide +kernel
theorem dL_areLines_72 : decode cL_areLines 72 = .ok (.iload 5, 2) := by decide +kernel
theorem dL_areLines_74 : decode cL_areLines 74 = .ok (.invokestatic 42, 3) := by decide +kernel
theorem dL_areLines_77 : decode cL_areLines 77 = .ok (.ifCond .eq 7, 3) := by decide +kernel
theorem dL_areLines_80 : decode cL_areLines 80 = .ok (.iconst 1, 1) := by decide +kernel
theorem dL_areLines_81 : decode cL_areLines 81 = .ok (.goto 4, 3) := by decide +kernel
theorem dL_areLines_84 : decode cL_areLines 84 = .ok (.iconst 0, 1) := by decide +kernel
theorem dL_areLines_85 : decode cL_areLines 85 = .ok (.iadd, 1) := by decide +kernel
theorem dL_areLines_86 : decode cL_areLines 86 = .ok (.istore 4, 2) := by decide +kernel
theorem dL_areLines_88 : decode cL_areLines 88 = .ok (.iconst 0, 1) := by decide +kernel
theorem dL_areLines_89 : decode cL_areLines 89 = .ok (.istore 10, 2) := by decide +kernel
theorem dL_areLines_91 : decode cL_areLines 91 = .ok (.iload 10, 2) := by decide +kernel
theorem dL_areLines_93 : decode cL_areLines 93 = .ok (.aload_n 1, 1) := by decide +kernel
theorem dL_areLines_94 : decode cL_areLines 94 = .ok (.bipush 10, 2) := by decide +kernel
theorem dL_areLines_96 : decode cL_areLines 96 = .ok (.iload 5, 2) := by decide +kernel
theorem dL_areLines_98 : decode cL_areLines 98 = .ok (.imul, 1) := by decide +kernel
theorem dL_areLines_99 : decode cL_areLines 99 = .ok (.iaload, 1) := by decide +kernel
theorem dL_areLines_100 : decode cL_areLines 100 = .ok (.if_icmp .ge 26, 3) := by decide +kernel
theorem dL_areLines_103 : decode cL_areLines 103 = .ok (.iload 7, 2) := by decide +kernel
theorem dL_areLines_105 : decode cL_areLines 105 = .ok (.aload_n 1, 1) := by decide +kernel
theorem dL_areLines_106 : decode cL_areLines 106 = .ok (.bipush 10, 2) := by decide +kernel
theorem dL_areLines_108 : decode cL_areLines 108 = .ok (.iload 5, 2) := by decide +kernel
theorem dL_areLines_110 : decode cL_areLines 110 = .ok (.imul, 1) := by decide +kernel
theorem dL_areLines_111 : decode cL_areLines 111 = .ok (.iconst 1, 1) := by decide +kernel
theorem dL_areLines_112 : decode cL_areLines 112 = .ok (.iadd, 1) := by decide +kernel
theorem dL_areLines_113 : decode cL_areLines 113 = .ok (.iload 10, 2) := by decide +kernel
theorem dL_areLines_115 : decode cL_areLines 115 = .ok (.iadd, 1) := by decide +kernel
theorem dL_areLines_116 : decode cL_areLines 116 = .ok (.iaload, 1) := by decide +kernel
theorem dL_areLines_117 : decode cL_areLines 117 = .ok (.iadd, 1) := by decide +kernel
theorem dL_areLines_118 : decode cL_areLines 118 = .ok (.istore 7, 2) := by decide +kernel
theorem dL_areLines_120 : decode cL_areLines 120 = .ok (.iinc 10 1, 3) := by decide +kernel
theorem dL_areLines_123 : decode cL_areLines 123 = .ok (.goto (-32), 3) := by decide +kernel
theorem dL_areLines_126 : decode cL_areLines 126 = .ok (.iconst 0, 1) := by decide +kernel
theorem dL_areLines_127 : decode cL_areLines 127 = .ok (.istore 10, 2) := by decide +kernel
theorem dL_areLines_129 : decode cL_areLines 129 = .ok (.iload 10, 2) := by decide +kernel
theorem dL_areLines_131 : decode cL_areLines 131 = .ok (.aload_n 2, 1) := by decide +kernel
theorem dL_areLines_132 : decode cL_areLines 132 = .ok (.bipush 63, 2) := by decide +kernel
theorem dL_areLines_134 : decode cL_areLines 134 = .ok (.iaload, 1) := by decide +kernel
theorem dL_areLines_135 : decode cL_areLines 135 = .ok (.if_icmp .ge 57, 3) := by decide +kernel
theorem dL_areLines_138 : decode cL_areLines 138 = .ok (.iload 8, 2) := by decide +kernel
theorem dL_areLines_140 : decode cL_areLines 140 = .ok (.aload_n 2, 1) := by decide +kernel
theorem dL_areLines_141 : decode cL_areLines 141 = .ok (.iload 10, 2) := by decide +kernel
theorem dL_areLines_143 : decode cL_areLines 143 = .ok (.iaload, 1) := by decide +kernel
theorem dL_areLines_144 : decode cL_areLines 144 = .ok (.bipush 15, 2) := by decide +kernel
theorem dL_areLines_146 : decode cL_areLines 146 = .ok (.iand, 1) := by decide +kernel
theorem dL_areLines_147 : decode cL_areLines 147 = .ok (.iload 5, 2) := by decide +kernel
theorem dL_areLines_149 : decode cL_areLines 149 = .ok (.if_icmp .ne 7, 3) := by decide +kernel
theorem dL_areLines_152 : decode cL_areLines 152 = .ok (.iconst 1, 1) := by decide +kernel
theorem dL_areLines_153 : decode cL_areLines 153 = .ok (.goto 4, 3) := by decide +kernel
theorem dL_areLines_156 : decode cL_areLines 156 = .ok (.iconst 0, 1) := by decide +kernel
theorem dL_areLines_157 : decode cL_areLines 157 = .ok (.iadd, 1) := by decide +kernel
theorem dL_areLines_158 : decode cL_areLines 158 = .ok (.istore 8, 2) := by decide +kernel
theorem dL_areLines_160 : decode cL_areLines 160 = .ok (.iload 9, 2) := by decide +kernel
theorem dL_areLines_162 : decode cL_areLines 162 = .ok (.ifCond .ge 20, 3) := by decide +kernel
theorem dL_areLines_165 : decode cL_areLines 165 = .ok (.aload_n 2, 1) := by decide +kernel
theorem dL_areLines_166 : decode cL_areLines 166 = .ok (.iload 10, 2) := by decide +kernel
theorem dL_areLines_168 : decode cL_areLines 168 = .ok (.iaload, 1) := by decide +kernel
theorem dL_areLines_169 : decode cL_areLines 169 = .ok (.bipush 15, 2) := by decide +kernel
theorem dL_areLines_171 : decode cL_areLines 171 = .ok (.iand, 1) := by decide +kernel
theorem dL_areLines_172 : decode cL_areLines 172 = .ok (.iload 5, 2) := by decide +kernel
theorem dL_areLines_174 : decode cL_areLines 174 = .ok (.if_icmp .ne 8, 3) := by decide +kernel
theorem dL_areLines_177 : decode cL_areLines 177 = .ok (.iload 10, 2) := by decide +kernel
theorem dL_areLines_179 : decode cL_areLines 179 = .ok (.goto 5, 3) := by decide +kernel
theorem dL_areLines_182 : decode cL_areLines 182 = .ok (.iload 9, 2) := by decide +kernel
theorem dL_areLines_184 : decode cL_areLines 184 = .ok (.istore 9, 2) := by decide +kernel
theorem dL_areLines_186 : decode cL_areLines 186 = .ok (.iinc 10 1, 3) := by decide +kernel
theorem dL_areLines_189 : decode cL_areLines 189 = .ok (.goto (-60), 3) := by decide +kernel
theorem dL_areLines_192 : decode cL_areLines 192 = .ok (.aload_n 0, 1) := by decide +kernel
theorem dL_areLines_193 : decode cL_areLines 193 = .ok (.iload 5, 2) := by decide +kernel
theorem dL_areLines_195 : decode cL_areLines 195 = .ok (.iconst 0, 1) := by decide +kernel
theorem dL_areLines_196 : decode cL_areLines 196 = .ok (.invokevirtual 57, 3) := by decide +kernel
theorem dL_areLines_199 : decode cL_areLines 199 = .ok (.iload 7, 2) := by decide +kernel
theorem dL_areLines_201 : decode cL_areLines 201 = .ok (.if_icmp .ne 99, 3) := by decide +kernel
theorem dL_areLines_204 : decode cL_areLines 204 = .ok (.aload_n 0, 1) := by decide +kernel
theorem dL_areLines_205 : decode cL_areLines 205 = .ok (.iload 5, 2) := by decide +kernel
theorem dL_areLines_207 : decode cL_areLines 207 = .ok (.iconst 1, 1) := by decide +kernel
theorem dL_areLines_208 : decode cL_areLines 208 = .ok (.invokevirtual 57, 3) := by decide +kernel
theorem dL_areLines_211 : decode cL_areLines 211 = .ok (.aload_n 1, 1) := by decide +kernel
theorem dL_areLines_212 : decode cL_areLines 212 = .ok (.bipush 10, 2) := by decide +kernel
theorem dL_areLines_214 : decode cL_areLines 214 = .ok (.iload 5, 2) := by decide +kernel
theorem dL_areLines_216 : decode cL_areLines 216 = .ok (.imul, 1) := by decide +kernel
theorem dL_areLines_217 : decode cL_areLines 217 = .ok (.iaload, 1) := by decide +kernel
theorem dL_areLines_218 : decode cL_areLines 218 = .ok (.if_icmp .ne 82, 3) := by decide +kernel
theorem dL_areLines_221 : decode cL_areLines 221 = .ok (.aload_n 0, 1) := by decide +kernel
theorem dL_areLines_222 : decode cL_areLines 222 = .ok (.iload 5, 2) := by decide +kernel
theorem dL_areLines_224 : decode cL_areLines 224 = .ok (.iconst 2, 1) := by decide +kernel
theorem dL_areLines_225 : decode cL_areLines 225 = .ok (.invokevirtual 57, 3) := by decide +kernel
theorem dL_areLines_228 : decode cL_areLines 228 = .ok (.aload_n 1, 1) := by decide +kernel
theorem dL_areLines_229 : decode cL_areLines 229 = .ok (.bipush 10, 2) := by decide +kernel
theorem dL_areLines_231 : decode cL_areLines 231 = .ok (.iload 5, 2) := by decide +kernel
theorem dL_areLines_233 : decode cL_areLines 233 = .ok (.imul, 1) := by decide +kernel
theorem dL_areLines_234 : decode cL_areLines 234 = .ok (.iconst 5, 1) := by decide +kernel
theorem dL_areLines_235 : decode cL_areLines 235 = .ok (.iadd, 1) := by decide +kernel
theorem dL_areLines_236 : decode cL_areLines 236 = .ok (.iaload, 1) := by decide +kernel
theorem dL_areLines_237 : decode cL_areLines 237 = .ok (.if_icmp .ne 63, 3) := by decide +kernel
theorem dL_areLines_240 : decode cL_areLines 240 = .ok (.aload_n 0, 1) := by decide +kernel
theorem dL_areLines_241 : decode cL_areLines 241 = .ok (.iload 5, 2) := by decide +kernel
theorem dL_areLines_243 : decode cL_areLines 243 = .ok (.iconst 3, 1) := by decide +kernel
theorem dL_areLines_244 : decode cL_areLines 244 = .ok (.invokevirtual 57, 3) := by decide +kernel
theorem dL_areLines_247 : decode cL_areLines 247 = .ok (.aload_n 1, 1) := by decide +kernel
theorem dL_areLines_248 : decode cL_areLines 248 = .ok (.bipush 10, 2) := by decide +kernel
theorem dL_areLines_250 : decode cL_areLines 250 = .ok (.iload 5, 2) := by decide +kernel
theorem dL_areLines_252 : decode cL_areLines 252 = .ok (.imul, 1) := by decide +kernel
theorem dL_areLines_253 : decode cL_areLines 253 = .ok (.bipush 6, 2) := by decide +kernel
theorem dL_areLines_255 : decode cL_areLines 255 = .ok (.iadd, 1) := by decide +kernel
theorem dL_areLines_256 : decode cL_areLines 256 = .ok (.iaload, 1) := by decide +kernel
theorem dL_areLines_257 : decode cL_areLines 257 = .ok (.if_icmp .ne 43, 3) := by decide +kernel
theorem dL_areLines_260 : decode cL_areLines 260 = .ok (.aload_n 0, 1) := by decide +kernel
theorem dL_areLines_261 : decode cL_areLines 261 = .ok (.iload 5, 2) := by decide +kernel
theorem dL_areLines_263 : decode cL_areLines 263 = .ok (.iconst 4, 1) := by decide +kernel
theorem dL_areLines_264 : decode cL_areLines 264 = .ok (.invokevirtual 57, 3) := by decide +kernel
theorem dL_areLines_267 : decode cL_areLines 267 = .ok (.iload 6, 2) := by decide +kernel
theorem dL_areLines_269 : decode cL_areLines 269 = .ok (.ifCond .eq 7, 3) := by decide +kernel
theorem dL_areLines_272 : decode cL_areLines 272 = .ok (.iconst 1, 1) := by decide +kernel
theorem dL_areLines_273 : decode cL_areLines 273 = .ok (.goto 4, 3) := by decide +kernel
theorem dL_areLines_276 : decode cL_areLines 276 = .ok (.iconst 0, 1) := by decide +kernel
theorem dL_areLines_277 : decode cL_areLines 277 = .ok (.if_icmp .ne 23, 3) := by decide +kernel
theorem dL_areLines_280 : decode cL_areLines 280 = .ok (.aload_n 0, 1) := by decide +kernel
theorem dL_areLines_281 : decode cL_areLines 281 = .ok (.iload 5, 2) := by decide +kernel
theorem dL_areLines_283 : decode cL_areLines 283 = .ok (.iconst 5, 1) := by decide +kernel
theorem dL_areLines_284 : decode cL_areLines 284 = .ok (.invokevirtual 57, 3) := by decide +kernel
theorem dL_areLines_287 : decode cL_areLines 287 = .ok (.aload_n 1, 1) := by decide +kernel
theorem dL_areLines_288 : decode cL_areLines 288 = .ok (.bipush 10, 2) := by decide +kernel
theorem dL_areLines_290 : decode cL_areLines 290 = .ok (.iload 5, 2) := by decide +kernel
theorem dL_areLines_292 : decode cL_areLines 292 = .ok (.imul, 1) := by decide +kernel
theorem dL_areLines_293 : decode cL_areLines 293 = .ok (.bipush 7, 2) := by decide +kernel
theorem dL_areLines_295 : decode cL_areLines 295 = .ok (.iadd, 1) := by decide +kernel
theorem dL_areLines_296 : decode cL_areLines 296 = .ok (.iaload, 1) := by decide +kernel
theorem dL_areLines_297 : decode cL_areLines 297 = .ok (.if_icmp .eq 5, 3) := by decide +kernel
theorem dL_areLines_300 : decode cL_areLines 300 = .ok (.iconst 0, 1) := by decide +kernel
theorem dL_areLines_301 : decode cL_areLines 301 = .ok (.ireturn, 1) := by decide +kernel
theorem dL_areLines_302 : decode cL_areLines 302 = .ok (.aload_n 0, 1) := by decide +kernel
theorem dL_areLines_303 : decode cL_areLines 303 = .ok (.iload 5, 2) := by decide +kernel
theorem dL_areLines_305 : decode cL_areLines 305 = .ok (.bipush 6, 2) := by decide +kernel
theorem dL_areLines_307 : decode cL_areLines 307 = .ok (.invokevirtual 57, 3) := by decide +kernel
theorem dL_areLines_310 : decode cL_areLines 310 = .ok (.iload_n 3, 1) := by decide +kernel
theorem dL_areLines_311 : decode cL_areLines 311 = .ok (.if_icmp .ne 76, 3) := by decide +kernel
theorem dL_areLines_314 : decode cL_areLines 314 = .ok (.aload_n 0, 1) := by decide +kernel
theorem dL_areLines_315 : decode cL_areLines 315 = .ok (.iload 5, 2) := by decide +kernel
theorem dL_areLines_317 : decode cL_areLines 317 = .ok (.bipush 7, 2) := by decide +kernel
theorem dL_areLines_319 : decode cL_areLines 319 = .ok (.invokevirtual 57, 3) := by decide +kernel
theorem dL_areLines_322 : decode cL_areLines 322 = .ok (.iload 9, 2) := by decide +kernel
theorem dL_areLines_324 : decode cL_areLines 324 = .ok (.if_icmp .ne 63, 3) := by decide +kernel
theorem dL_areLines_327 : decode cL_areLines 327 = .ok (.aload_n 0, 1) := by decide +kernel
theorem dL_areLines_328 : decode cL_areLines 328 = .ok (.iload 5, 2) := by decide +kernel
theorem dL_areLines_330 : decode cL_areLines 330 = .ok (.bipush 8, 2) := by decide +kernel
theorem dL_areLines_332 : decode cL_areLines 332 = .ok (.invokevirtual 57, 3) := by decide +kernel
theorem dL_areLines_335 : decode cL_areLines 335 = .ok (.iload 8, 2) := by decide +kernel
theorem dL_areLines_337 : decode cL_areLines 337 = .ok (.if_icmp .ne 50, 3) := by decide +kernel
theorem dL_areLines_340 : decode cL_areLines 340 = .ok (.aload_n 0, 1) := by decide +kernel
theorem dL_areLines_341 : decode cL_areLines 341 = .ok (.iload 5, 2) := by decide +kernel
theorem dL_areLines_343 : decode cL_areLines 343 = .ok (.bipush 9, 2) := by decide +kernel
theorem dL_areLines_345 : decode cL_areLines 345 = .ok (.invokevirtual 57, 3) := by decide +kernel
theorem dL_areLines_348 : decode cL_areLines 348 = .ok (.iload 4, 2) := by decide +kernel
theorem dL_areLines_350 : decode cL_areLines 350 = .ok (.if_icmp .ne 37, 3) := by decide +kernel
theorem dL_areLines_353 : decode cL_areLines 353 = .ok (.aload_n 0, 1) := by decide +kernel
theorem dL_areLines_354 : decode cL_areLines 354 = .ok (.iload 5, 2) := by decide +kernel
theorem dL_areLines_356 : decode cL_areLines 356 = .ok (.iload 7, 2) := by decide +kernel
theorem dL_areLines_358 : decode cL_areLines 358 = .ok (.aload_n 1, 1) := by decide +kernel
theorem dL_areLines_359 : decode cL_areLines 359 = .ok (.bipush 10, 2) := by decide +kernel
theorem dL_areLines_361 : decode cL_areLines 361 = .ok (.iload 5, 2) := by decide +kernel
theorem dL_areLines_363 : decode cL_areLines 363 = .ok (.imul, 1) := by decide +kernel
theorem dL_areLines_364 : decode cL_areLines 364 = .ok (.iaload, 1) := by decide +kernel
theorem dL_areLines_365 : decode cL_areLines 365 = .ok (.iadd, 1) := by decide +kernel
theorem dL_areLines_366 : decode cL_areLines 366 = .ok (.iconst 1, 1) := by decide +kernel
theorem dL_areLines_367 : decode cL_areLines 367 = .ok (.isub, 1) := by decide +kernel
theorem dL_areLines_368 : decode cL_areLines 368 = .ok (.invokevirtual 60, 3) := by decide +kernel
theorem dL_areLines_371 : decode cL_areLines 371 = .ok (.iconst (-1), 1) := by decide +kernel
theorem dL_areLines_372 : decode cL_areLines 372 = .ok (.if_icmp .ne 15, 3) := by decide +kernel
theorem dL_areLines_375 : decode cL_areLines 375 = .ok (.aload_n 0, 1) := by decide +kernel
theorem dL_areLines_376 : decode cL_areLines 376 = .ok (.iload 5, 2) := by decide +kernel
theorem dL_areLines_378 : decode cL_areLines 378 = .ok (.iconst (-1), 1) := by decide +kernel
theorem dL_areLines_379 : decode cL_areLines 379 = .ok (.invokevirtual 60, 3) := by decide +kernel
theorem dL_areLines_382 : decode cL_areLines 382 = .ok (.bipush (-2), 2) := by decide +kernel
theorem dL_areLines_384 : decode cL_areLines 384 = .ok (.if_icmp .eq 5, 3) := by decide +kernel
theorem dL_areLines_387 : decode cL_areLines 387 = .ok (.iconst 0, 1) := by decide +kernel
theorem dL_areLines_388 : decode cL_areLines 388 = .ok (.ireturn, 1) := by decide +kernel
theorem dL_areLines_389 : decode cL_areLines 389 = .ok (.iinc 5 1, 3) := by decide +kernel
theorem dL_areLines_392 : decode cL_areLines 392 = .ok (.goto (-384), 3) := by decide +kernel
theorem dL_areLines_395 : decode cL_areLines 395 = .ok (.aload_n 0, 1) := by decide +kernel
theorem dL_areLines_396 : decode cL_areLines 396 = .ok (.iconst 0, 1) := by decide +kernel
theorem dL_areLines_397 : decode cL_areLines 397 = .ok (.invokevirtual 29, 3) := by decide +kernel
theorem dL_areLines_400 : decode cL_areLines 400 = .ok (.aload_n 1, 1) := by decide +kernel
theorem dL_areLines_401 : decode cL_areLines 401 = .ok (.bipush 60, 2) := by decide +kernel
theorem dL_areLines_403 : decode cL_areLines 403 = .ok (.iaload, 1) := by decide +kernel
theorem dL_areLines_404 : decode cL_areLines 404 = .ok (.if_icmp .ne 55, 3) := by decide +kernel
theorem dL_areLines_407 : decode cL_areLines 407 = .ok (.aload_n 0, 1) := by decide +kernel
theorem dL_areLines_408 : decode cL_areLines 408 = .ok (.iconst 1, 1) := by decide +kernel
theorem dL_areLines_409 : decode cL_areLines 409 = .ok (.invokevirtual 29, 3) := by decide +kernel
theorem dL_areLines_412 : decode cL_areLines 412 = .ok (.iload 4, 2) := by decide +kernel
theorem dL_areLines_414 : decode cL_areLines 414 = .ok (.iconst 1, 1) := by decide +kernel
theorem dL_areLines_415 : decode cL_areLines 415 = .ok (.iadd, 1) := by decide +kernel
theorem dL_areLines_416 : decode cL_areLines 416 = .ok (.if_icmp .ne 43, 3) := by decide +kernel
theorem dL_areLines_419 : decode cL_areLines 419 = .ok (.aload_n 0, 1) := by decide +kernel
theorem dL_areLines_420 : decode cL_areLines 420 = .ok (.bipush 7, 2) := by decide +kernel
theorem dL_areLines_422 : decode cL_areLines 422 = .ok (.invokevirtual 29, 3) := by decide +kernel
theorem dL_areLines_425 : decode cL_areLines 425 = .ok (.iload_n 3, 1) := by decide +kernel
theorem dL_areLines_426 : decode cL_areLines 426 = .ok (.if_icmp .ne 33, 3) := by decide +kernel
theorem dL_areLines_429 : decode cL_areLines 429 = .ok (.aload_n 0, 1) := by decide +kernel
theorem dL_areLines_430 : decode cL_areLines 430 = .ok (.aload_n 1, 1) := by decide +kernel
theorem dL_areLines_431 : decode cL_areLines 431 = .ok (.bipush 60, 2) := by decide +kernel
theorem dL_areLines_433 : decode cL_areLines 433 = .ok (.iaload, 1) := by decide +kernel
theorem dL_areLines_434 : decode cL_areLines 434 = .ok (.iconst 0, 1) := by decide +kernel
theorem dL_areLines_435 : decode cL_areLines 435 = .ok (.invokevirtual 57, 3) := by decide +kernel
theorem dL_areLines_438 : decode cL_areLines 438 = .ok (.bipush (-2), 2) := by decide +kernel
theorem dL_areLines_440 : decode cL_areLines 440 = .ok (.if_icmp .ne 19, 3) := by decide +kernel
theorem dL_areLines_443 : decode cL_areLines 443 = .ok (.aload_n 0, 1) := by decide +kernel
theorem dL_areLines_444 : decode cL_areLines 444 = .ok (.iconst 0, 1) := by decide +kernel
theorem dL_areLines_445 : decode cL_areLines 445 = .ok (.bipush 10, 2) := by decide +kernel
theorem dL_areLines_447 : decode cL_areLines 447 = .ok (.invokevirtual 57, 3) := by decide +kernel
theorem dL_areLines_450 : decode cL_areLines 450 = .ok (.bipush (-2), 2) := by decide +kernel
theorem dL_areLines_452 : decode cL_areLines 452 = .ok (.if_icmp .ne 7, 3) := by decide +kernel
theorem dL_areLines_455 : decode cL_areLines 455 = .ok (.iconst 1, 1) := by decide +kernel
theorem dL_areLines_456 : decode cL_areLines 456 = .ok (.goto 4, 3) := by decide +kernel
theorem dL_areLines_459 : decode cL_areLines 459 = .ok (.iconst 0, 1) := by decide +kernel
theorem dL_areLines_460 : decode cL_areLines 460 = .ok (.ireturn, 1) := by decide +kernel
theorem dL_areRows_0 : decode cL_areRows 0 = .ok (.iconst 0, 1) := by decide +kernel
theorem dL_areRows_1 : decode cL_areRows 1 = .ok (.istore 4, 2) := by decide +kernel
theorem dL_areRows_3 : decode cL_areRows 3 = .ok (.iconst 0, 1) := by decide +kernel
theorem dL_areRows_4 : decode cL_areRows 4 = .ok (.istore 5, 2) := by decide +kernel
theorem dL_areRows_6 : decode cL_areRows 6 = .ok (.iconst 0, 1) := by decide +kernel
theorem dL_areRows_7 : decode cL_areRows 7 = .ok (.istore 6, 2) := by decide +kernel
theorem dL_areRows_9 : decode cL_areRows 9 = .ok (.iconst 0, 1) := by decide +kernel
theorem dL_areRows_10 : decode cL_areRows 10 = .ok (.istore 7, 2) := by decide +kernel
theorem dL_areRows_12 : decode cL_areRows 12 = .ok (.iload 7, 2) := by decide +kernel
theorem dL_areRows_14 : decode cL_areRows 14 = .ok (.aload_n 3, 1) := by decide +kernel
theorem dL_areRows_15 : decode cL_areRows 15 = .ok (.bipush 63, 2) := by decide +kernel
theorem dL_areRows_17 : decode cL_areRows 17 = .ok (.iaload, 1) := by decide +kernel
theorem dL_areRows_18 : decode cL_areRows 18 = .ok (.if_icmp .ge 379, 3) := by decide +kernel
theorem dL_areRows_21 : decode cL_areRows 21 = .ok (.aload_n 3, 1) := by decide +kernel
theorem dL_areRows_22 : decode cL_areRows 22 = .ok (.iload 7, 2) := by decide +kernel
theorem dL_areRows_24 : decode cL_areRows 24 = .ok (.iaload, 1) := by decide +kernel
theorem dL_areRows_25 : decode cL_areRows 25 = .ok (.bipush 15, 2) := by decide +kernel
theorem dL_areRows_27 : decode cL_areRows 27 = .ok (.iand, 1) := by decide +kernel
theorem dL_areRows_28 : decode cL_areRows 28 = .ok (.istore 8, 2) := by decide +kernel
theorem dL_areRows_30 : decode cL_areRows 30 = .ok (.aload_n 3, 1) := by decide +kernel
theorem dL_areRows_31 : decode cL_areRows 31 = .ok (.iload 7, 2) := by decide +kernel
theorem dL_areRows_33 : decode cL_areRows 33 = .ok (.iaload, 1) := by decide +kernel
theorem dL_areRows_34 : decode cL_areRows 34 = .ok (.iconst 4, 1) := by decide +kernel
theorem dL_areRows_35 : decode cL_areRows 35 = .ok (.ishr, 1) := by decide +kernel
theorem dL_areRows_36 : decode cL_areRows 36 = .ok (.bipush 15, 2) := by decide +kernel
theorem dL_areRows_38 : decode cL_areRows 38 = .ok (.iand, 1) := by decide +kernel
theorem dL_areRows_39 : decode cL_areRows 39 = .ok (.istore 9, 2) := by decide +kernel
theorem dL_areRows_41 : decode cL_areRows 41 = .ok (.aload_n 3, 1) := by decide +kernel
theorem dL_areRows_42 : decode cL_areRows 42 = .ok (.iload 7, 2) := by decide +kernel
theorem dL_areRows_44 : decode cL_areRows 44 = .ok (.iaload, 1) := by decide +kernel
theorem dL_areRows_45 : decode cL_areRows 45 = .ok (.invokestatic 46, 3) := by decide +kernel
theorem dL_areRows_48 : decode cL_areRows 48 = .ok (.aload_n 3, 1) := by decide +kernel
theorem dL_areRows_49 : decode cL_areRows 49 = .ok (.iload 7, 2) := by decide +kernel
theorem dL_areRows_51 : decode cL_areRows 51 = .ok (.iaload, 1) := by decide +kernel
theorem dL_areRows_52 : decode cL_areRows 52 = .ok (.invokestatic 49, 3) := by decide +kernel
theorem dL_areRows_55 : decode cL_areRows 55 = .ok (.iadd, 1) := by decide +kernel
theorem dL_areRows_56 : decode cL_areRows 56 = .ok (.istore 10, 2) := by decide +kernel
theorem dL_areRows_58 : decode cL_areRows 58 = .ok (.aload_n 1, 1) := by decide +kernel
theorem dL_areRows_59 : decode cL_areRows 59 = .ok (.bipush 10, 2) := by decide +kernel
theorem dL_areRows_61 : decode cL_areRows 61 = .ok (.iload 8, 2) := by decide +kernel
theorem dL_areRows_63 : decode cL_areRows 63 = .ok (.imul, 1) := by decide +kernel
theorem dL_areRows_64 : decode cL_areRows 64 = .ok (.bipush 6, 2) := by decide +kernel
theorem dL_areRows_66 : decode cL_areRows 66 = .ok (.iadd, 1) := by decide +kernel
theorem dL_areRows_67 : decode cL_areRows 67 = .ok (.iaload, 1) := by decide +kernel
theorem dL_areRows_68 : decode cL_areRows 68 = .ok (.iconst 1, 1) := by decide +kernel
theorem dL_areRows_69 : decode cL_areRows 69 = .ok (.if_icmp .ne 16, 3) := by decide +kernel
theorem dL_areRows_72 : decode cL_areRows 72 = .ok (.aload_n 1, 1) := by decide +kernel
theorem dL_areRows_73 : decode cL_areRows 73 = .ok (.iload 8, 2) := by decide +kernel
theorem dL_areRows_75 : decode cL_areRows 75 = .ok (.invokestatic 42, 3) := by decide +kernel
theorem dL_areRows_78 : decode cL_areRows 78 = .ok (.ifCond .ne 7, 3) := by decide +kernel
theorem dL_areRows_81 : decode cL_areRows 81 = .ok (.iconst 1, 1) := by decide +kernel
theorem dL_areRows_82 : decode cL_areRows 82 = .ok (.goto 4, 3) := by decide +kernel
theorem dL_areRows_85 : decode cL_areRows 85 = .ok (.iconst 0, 1) := by decide +kernel
theorem dL_areRows_86 : decode cL_areRows 86 = .ok (.istore 11, 2) := by decide +kernel
theorem dL_areRows_88 : decode cL_areRows 88 = .ok (.aload_n 0, 1) := by decide +kernel
theorem dL_areRows_89 : decode cL_areRows 89 = .ok (.iload 8, 2) := by decide +kernel
theorem dL_areRows_91 : decode cL_areRows 91 = .ok (.bipush 6, 2) := by decide +kernel
theorem dL_areRows_93 : decode cL_areRows 93 = .ok (.invokevirtual 57, 3) := by decide +kernel
theorem dL_areRows_96 : decode cL_areRows 96 = .ok (.istore 12, 2) := by decide +kernel
theorem dL_areRows_98 : decode cL_areRows 98 = .ok (.iload 9, 2) := by decide +kernel
theorem dL_areRows_100 : decode cL_areRows 100 = .ok (.ifCond .ne 20, 3) := by decide +kernel
theorem dL_areRows_103 : decode cL_areRows 103 = .ok (.iload 11, 2) := by decide +kernel
theorem dL_areRows_105 : decode cL_areRows 105 = .ok (.ifCond .ne 15, 3) := by decide +kernel
theorem dL_areRows_108 : decode cL_areRows 108 = .ok (.iload 12, 2) := by decide +kernel
theorem dL_areRows_110 : decode cL_areRows 110 = .ok (.iconst 5, 1) := by decide +kernel
theorem dL_areRows_111 : decode cL_areRows 111 = .ok (.irem, 1) := by decide +kernel
theorem dL_areRows_112 : decode cL_areRows 112 = .ok (.ifCond .ne 8, 3) := by decide +kernel
theorem dL_areRows_115 : decode cL_areRows 115 = .ok (.iload 12, 2) := by decide +kernel
theorem dL_areRows_117 : decode cL_areRows 117 = .ok (.goto 4, 3) := by decide +kernel
theorem dL_areRows_120 : decode cL_areRows 120 = .ok (.iconst 0, 1) := by decide +kernel
theorem dL_areRows_121 : decode cL_areRows 121 = .ok (.istore 13, 2) := by decide +kernel
theorem dL_areRows_123 : decode cL_areRows 123 = .ok (.aload_n 0, 1) := by decide +kernel
theorem dL_areRows_124 : decode cL_areRows 124 = .ok (.iload 7, 2) := by decide +kernel
theorem dL_areRows_126 : decode cL_areRows 126 = .ok (.iconst 0, 1) := by decide +kernel
theorem dL_areRows_127 : decode cL_areRows 127 = .ok (.invokevirtual 63, 3) := by decide +kernel
theorem dL_areRows_130 : decode cL_areRows 130 = .ok (.iload 8, 2) := by decide +kernel
theorem dL_areRows_132 : decode cL_areRows 132 = .ok (.if_icmp .ne 95, 3) := by decide +kernel
theorem dL_areRows_135 : decode cL_areRows 135 = .ok (.aload_n 0, 1) := by decide +kernel
theorem dL_areRows_136 : decode cL_areRows 136 = .ok (.iload 7, 2) := by decide +kernel
theorem dL_areRows_138 : decode cL_areRows 138 = .ok (.iconst 1, 1) := by decide +kernel
theorem dL_areRows_139 : decode cL_areRows 139 = .ok (.invokevirtual 63, 3) := by decide +kernel
theorem dL_areRows_142 : decode cL_areRows 142 = .ok (.iload 9, 2) := by decide +kernel
theorem dL_areRows_144 : decode cL_areRows 144 = .ok (.if_icmp .ne 83, 3) := by decide +kernel
theorem dL_areRows_147 : decode cL_areRows 147 = .ok (.aload_n 0, 1) := by decide +kernel
theorem dL_areRows_148 : decode cL_areRows 148 = .ok (.iload 7, 2) := by decide +kernel
theorem dL_areRows_150 : decode cL_areRows 150 = .ok (.iconst 4, 1) := by decide +kernel
theorem dL_areRows_151 : decode cL_areRows 151 = .ok (.invokevirtual 63, 3) := by decide +kernel
theorem dL_areRows_154 : decode cL_areRows 154 = .ok (.aload_n 3, 1) := by decide +kernel
theorem dL_areRows_155 : decode cL_areRows 155 = .ok (.iload 7, 2) := by decide +kernel
theorem dL_areRows_157 : decode cL_areRows 157 = .ok (.iaload, 1) := by decide +kernel
theorem dL_areRows_158 : decode cL_areRows 158 = .ok (.invokestatic 46, 3) := by decide +kernel
theorem dL_areRows_161 : decode cL_areRows 161 = .ok (.if_icmp .ne 66, 3) := by decide +kernel
theorem dL_areRows_164 : decode cL_areRows 164 = .ok (.aload_n 0, 1) := by decide +kernel
theorem dL_areRows_165 : decode cL_areRows 165 = .ok (.iload 7, 2) := by decide +kernel
theorem dL_areRows_167 : decode cL_areRows 167 = .ok (.iconst 5, 1) := by decide +kernel
theorem dL_areRows_168 : decode cL_areRows 168 = .ok (.invokevirtual 63, 3) := by decide +kernel
theorem dL_areRows_171 : decode cL_areRows 171 = .ok (.aload_n 3, 1) := by decide +kernel
theorem dL_areRows_172 : decode cL_areRows 172 = .ok (.iload 7, 2) := by decide +kernel
theorem dL_areRows_174 : decode cL_areRows 174 = .ok (.iaload, 1) := by decide +kernel
theorem dL_areRows_175 : decode cL_areRows 175 = .ok (.invokestatic 49, 3) := by decide +kernel
theorem dL_areRows_178 : decode cL_areRows 178 = .ok (.if_icmp .ne 49, 3) := by decide +kernel
theorem dL_areRows_181 : decode cL_areRows 181 = .ok (.aload_n 0, 1) := by decide +kernel
theorem dL_areRows_182 : decode cL_areRows 182 = .ok (.iload 7, 2) := by decide +kernel
theorem dL_areRows_184 : decode cL_areRows 184 = .ok (.bipush 6, 2) := by decide +kernel
theorem dL_areRows_186 : decode cL_areRows 186 = .ok (.invokevirtual 63, 3) := by decide +kernel
theorem dL_areRows_189 : decode cL_areRows 189 = .ok (.iload 13, 2) := by decide +kernel
theorem dL_areRows_191 : decode cL_areRows 191 = .ok (.if_icmp .ne 36, 3) := by decide +kernel
theorem dL_areRows_194 : decode cL_areRows 194 = .ok (.aload_n 0, 1) := by decide +kernel
theorem dL_areRows_195 : decode cL_areRows 195 = .ok (.iload 7, 2) := by decide +kernel
theorem dL_areRows_197 : decode cL_areRows 197 = .ok (.bipush 7, 2) := by decide +kernel
theorem dL_areRows_199 : decode cL_areRows 199 = .ok (.invokevirtual 63, 3) := by decide +kernel
theorem dL_areRows_202 : decode cL_areRows 202 = .ok (.aload_n 3, 1) := by decide +kernel
theorem dL_areRows_203 : decode cL_areRows 203 = .ok (.iload 7, 2) := by decide +kernel
theorem dL_areRows_205 : decode cL_areRows 205 = .ok (.iaload, 1) := by decide +kernel
theorem dL_areRows_206 : decode cL_areRows 206 = .ok (.bipush 24, 2) := by decide +kernel
theorem dL_areRows_208 : decode cL_areRows 208 = .ok (.ishr, 1) := by decide +kernel
theorem dL_areRows_209 : decode cL_areRows 209 = .ok (.iconst 1, 1) := by decide +kernel
theorem dL_areRows_210 : decode cL_areRows 210 = .ok (.iand, 1) := by decide +kernel
theorem dL_areRows_211 : decode cL_areRows 211 = .ok (.if_icmp .ne 16, 3) := by decide +kernel
theorem dL_areRows_214 : decode cL_areRows 214 = .ok (.aload_n 0, 1) := by decide +kernel
theorem dL_areRows_215 : decode cL_areRows 215 = .ok (.iload 7, 2) := by decide +kernel
theorem dL_areRows_217 : decode cL_areRows 217 = .ok (.bipush 8, 2) := by decide +kernel
theorem dL_areRows_219 : decode cL_areRows 219 = .ok (.invokevirtual 63, 3) := by decide +kernel
theorem dL_areRows_222 : decode cL_areRows 222 = .ok (.iload 10, 2) := by decide +kernel
theorem dL_areRows_224 : decode cL_areRows 224 = .ok (.if_icmp .eq 5, 3) := by decide +kernel
theorem dL_areRows_227 : decode cL_areRows 227 = .ok (.iconst 0, 1) := by decide +kernel
theorem dL_areRows_228 : decode cL_areRows 228 = .ok (.ireturn, 1) := by decide +kernel
theorem dL_areRows_229 : decode cL_areRows 229 = .ok (.aload_n 0, 1) := by decide +kernel
theorem dL_areRows_230 : decode cL_areRows 230 = .ok (.iload 7, 2) := by decide +kernel
theorem dL_areRows_232 : decode cL_areRows 232 = .ok (.iconst 2, 1) := by decide +kernel
theorem dL_areRows_233 : decode cL_areRows 233 = .ok (.invokevirtual 63, 3) := by decide +kernel
theorem dL_areRows_236 : decode cL_areRows 236 = .ok (.istore 14, 2) := by decide +kernel
theorem dL_areRows_238 : decode cL_areRows 238 = .ok (.aload_n 0, 1) := by decide +kernel
theorem dL_areRows_239 : decode cL_areRows 239 = .ok (.iload 7, 2) := by decide +kernel
theorem dL_areRows_241 : decode cL_areRows 241 = .ok (.iconst 3, 1) := by decide +kernel
theorem dL_areRows_242 : decode cL_areRows 242 = .ok (.invokevirtual 63, 3) := by decide +kernel
theorem dL_areRows_245 : decode cL_areRows 245 = .ok (.istore 15, 2) := by decide +kernel
theorem dL_areRows_247 : decode cL_areRows 247 = .ok (.aload_n 3, 1) := by decide +kernel
theorem dL_areRows_248 : decode cL_areRows 248 = .ok (.iload 7, 2) := by decide +kernel
theorem dL_areRows_250 : decode cL_areRows 250 = .ok (.iaload, 1) := by decide +kernel
theorem dL_areRows_251 : decode cL_areRows 251 = .ok (.bipush 25, 2) := by decide +kernel
theorem dL_areRows_253 : decode cL_areRows 253 = .ok (.ishr, 1) := by decide +kernel
theorem dL_areRows_254 : decode cL_areRows 254 = .ok (.bipush 127, 2) := by decide +kernel
theorem dL_areRows_256 : decode cL_areRows 256 = .ok (.iand, 1) := by decide +kernel
theorem dL_areRows_257 : decode cL_areRows 257 = .ok (.istore 16, 2) := by decide +kernel
theorem dL_areRows_259 : decode cL_areRows 259 = .ok (.iconst 0, 1) := by decide +kernel
theorem dL_areRows_260 : decode cL_areRows 260 = .ok (.istore 17, 2) := by decide +kernel
theorem dL_areRows_262 : decode cL_areRows 262 = .ok (.iload 17, 2) := by decide +kernel
theorem dL_areRows_264 : decode cL_areRows 264 = .ok (.aload_n 2, 1) := by decide +kernel
theorem dL_areRows_265 : decode cL_areRows 265 = .ok (.iconst 0, 1) := by decide +kernel
theorem dL_areRows_266 : decode cL_areRows 266 = .ok (.iaload, 1) := by decide +kernel
theorem dL_areRows_267 : decode cL_areRows 267 = .ok (.if_icmp .ge 79, 3) := by decide +kernel
theorem dL_areRows_270 : decode cL_areRows 270 = .ok (.iload 17, 2) := by decide +kernel
theorem dL_areRows_272 : decode cL_areRows 272 = .ok (.aload_n 3, 1) := by decide +kernel
theorem dL_areRows_273 : decode cL_areRows 273 = .ok (.iload 7, 2) := by decide +kernel
theorem dL_areRows_275 : decode cL_areRows 275 = .ok (.iaload, 1) := by decide +kernel
theorem dL_areRows_276 : decode cL_areRows 276 = .ok (.invokestatic 46, 3) := by decide +kernel
theorem dL_areRows_279 : decode cL_areRows 279 = .ok (.if_icmp .lt 14, 3) := by decide +kernel
theorem dL_areRows_282 : decode cL_areRows 282 = .ok (.iload 17, 2) := by decide +kernel
theorem dL_areRows_284 : decode cL_areRows 284 = .ok (.iload 10, 2) := by decide +kernel
theorem dL_areRows_286 : decode cL_areRows 286 = .ok (.if_icmp .ge 7, 3) := by decide +kernel
theorem dL_areRows_289 : decode cL_areRows 289 = .ok (.iconst 1, 1) := by decide +kernel
theorem dL_areRows_290 : decode cL_areRows 290 = .ok (.goto 4, 3) := by decide +kernel
theorem dL_areRows_293 : decode cL_areRows 293 = .ok (.iconst 0, 1) := by decide +kernel
theorem dL_areRows_294 : decode cL_areRows 294 = .ok (.istore 18, 2) := by decide +kernel
theorem dL_areRows_296 : decode cL_areRows 296 = .ok (.aload_n 0, 1) := by decide +kernel
theorem dL_areRows_297 : decode cL_areRows 297 = .ok (.iload 14, 2) := by decide +kernel
theorem dL_areRows_299 : decode cL_areRows 299 = .ok (.iload 15, 2) := by decide +kernel
theorem dL_areRows_301 : decode cL_areRows 301 = .ok (.iload 17, 2) := by decide +kernel
theorem dL_areRows_303 : decode cL_areRows 303 = .ok (.invokevirtual 66, 3) := by decide +kernel
theorem dL_areRows_306 : decode cL_areRows 306 = .ok (.iload 18, 2) := by decide +kernel
theorem dL_areRows_308 : decode cL_areRows 308 = .ok (.ifCond .eq 25, 3) := by decide +kernel
theorem dL_areRows_311 : decode cL_areRows 311 = .ok (.aload_n 0, 1) := by decide +kernel
theorem dL_areRows_312 : decode cL_areRows 312 = .ok (.iload 8, 2) := by decide +kernel
theorem dL_areRows_314 : decode cL_areRows 314 = .ok (.iload 16, 2) := by decide +kernel
theorem dL_areRows_316 : decode cL_areRows 316 = .ok (.iload 17, 2) := by decide +kernel
theorem dL_areRows_318 : decode cL_areRows 318 = .ok (.iadd, 1) := by decide +kernel
theorem dL_areRows_319 : decode cL_areRows 319 = .ok (.aload_n 3, 1) := by decide +kernel
theorem dL_areRows_320 : decode cL_areRows 320 = .ok (.iload 7, 2) := by decide +kernel
theorem dL_areRows_322 : decode cL_areRows 322 = .ok (.iaload, 1) := by decide +kernel
theorem dL_areRows_323 : decode cL_areRows 323 = .ok (.invokestatic 46, 3) := by decide +kernel
theorem dL_areRows_326 : decode cL_areRows 326 = .ok (.isub, 1) := by decide +kernel
theorem dL_areRows_327 : decode cL_areRows 327 = .ok (.invokevirtual 60, 3) := by decide +kernel
theorem dL_areRows_330 : decode cL_areRows 330 = .ok (.goto 5, 3) := by decide +kernel
theorem dL_areRows_333 : decode cL_areRows 333 = .ok (.bipush 32, 2) := by decide +kernel
theorem dL_areRows_335 : decode cL_areRows 335 = .ok (.if_icmp .eq 5, 3) := by decide +kernel
theorem dL_areRows_338 : decode cL_areRows 338 = .ok (.iconst 0, 1) := by decide +kernel
theorem dL_areRows_339 : decode cL_areRows 339 = .ok (.ireturn, 1) := by decide +kernel
theorem dL_areRows_340 : decode cL_areRows 340 = .ok (.iinc 17 1, 3) := by decide +kernel
theorem dL_areRows_343 : decode cL_areRows 343 = .ok (.goto (-81), 3) := by decide +kernel
theorem dL_areRows_346 : decode cL_areRows 346 = .ok (.iload 4, 2) := by decide +kernel
theorem dL_areRows_348 : decode cL_areRows 348 = .ok (.iload 9, 2) := by decide +kernel
theorem dL_areRows_350 : decode cL_areRows 350 = .ok (.ifCond .le 7, 3) := by decide +kernel
theorem dL_areRows_353 : decode cL_areRows 353 = .ok (.iconst 1, 1) := by decide +kernel
theorem dL_areRows_354 : decode cL_areRows 354 = .ok (.goto 4, 3) := by decide +kernel
theorem dL_areRows_357 : decode cL_areRows 357 = .ok (.iconst 0, 1) := by decide +kernel
theorem dL_areRows_358 : decode cL_areRows 358 = .ok (.iadd, 1) := by decide +kernel
theorem dL_areRows_359 : decode cL_areRows 359 = .ok (.istore 4, 2) := by decide +kernel
theorem dL_areRows_361 : decode cL_areRows 361 = .ok (.iload 5, 2) := by decide +kernel
theorem dL_areRows_363 : decode cL_areRows 363 = .ok (.aload_n 3, 1) := by decide +kernel
theorem dL_areRows_364 : decode cL_areRows 364 = .ok (.iload 7, 2) := by decide +kernel
theorem dL_areRows_366 : decode cL_areRows 366 = .ok (.iaload, 1) := by decide +kernel
theorem dL_areRows_367 : decode cL_areRows 367 = .ok (.bipush 24, 2) := by decide +kernel
theorem dL_areRows_369 : decode cL_areRows 369 = .ok (.ishr, 1) := by decide +kernel
theorem dL_areRows_370 : decode cL_areRows 370 = .ok (.iconst 1, 1) := by decide +kernel
theorem dL_areRows_371 : decode cL_areRows 371 = .ok (.iand, 1) := by decide +kernel
theorem dL_areRows_372 : decode cL_areRows 372 = .ok (.iadd, 1) := by decide +kernel
theorem dL_areRows_373 : decode cL_areRows 373 = .ok (.istore 5, 2) := by decide +kernel
theorem dL_areRows_375 : decode cL_areRows 375 = .ok (.iload 10, 2) := by decide +kernel
theorem dL_areRows_377 : decode cL_areRows 377 = .ok (.iload 6, 2) := by decide +kernel
theorem dL_areRows_379 : decode cL_areRows 379 = .ok (.if_icmp .le 8, 3) := by decide +kernel
theorem dL_areRows_382 : decode cL_areRows 382 = .ok (.iload 10, 2) := by decide +kernel
theorem dL_areRows_384 : decode cL_areRows 384 = .ok (.goto 5, 3) := by decide +kernel
theorem dL_areRows_387 : decode cL_areRows 387 = .ok (.iload 6, 2) := by decide +kernel
theorem dL_areRows_389 : decode cL_areRows 389 = .ok (.istore 6, 2) := by decide +kernel
theorem dL_areRows_391 : decode cL_areRows 391 = .ok (.iinc 7 1, 3) := by decide +kernel
theorem dL_areRows_394 : decode cL_areRows 394 = .ok (.goto (-382), 3) := by decide +kernel
theorem dL_areRows_397 : decode cL_areRows 397 = .ok (.aload_n 0, 1) := by decide +kernel
theorem dL_areRows_398 : decode cL_areRows 398 = .ok (.iconst 2, 1) := by decide +kernel
theorem dL_areRows_399 : decode cL_areRows 399 = .ok (.invokevirtual 29, 3) := by decide +kernel
theorem dL_areRows_402 : decode cL_areRows 402 = .ok (.aload_n 3, 1) := by decide +kernel
theorem dL_areRows_403 : decode cL_areRows 403 = .ok (.bipush 63, 2) := by decide +kernel
theorem dL_areRows_405 : decode cL_areRows 405 = .ok (.iaload, 1) := by decide +kernel
theorem dL_areRows_406 : decode cL_areRows 406 = .ok (.if_icmp .ne 74, 3) := by decide +kernel
theorem dL_areRows_409 : decode cL_areRows 409 = .ok (.aload_n 0, 1) := by decide +kernel
theorem dL_areRows_410 : decode cL_areRows 410 = .ok (.iconst 4, 1) := by decide +kernel
theorem dL_areRows_411 : decode cL_areRows 411 = .ok (.invokevirtual 29, 3) := by decide +kernel
theorem dL_areRows_414 : decode cL_areRows 414 = .ok (.iload 4, 2) := by decide +kernel
theorem dL_areRows_416 : decode cL_areRows 416 = .ok (.if_icmp .ne 64, 3) := by decide +kernel
theorem dL_areRows_419 : decode cL_areRows 419 = .ok (.aload_n 0, 1) := by decide +kernel
theorem dL_areRows_420 : decode cL_areRows 420 = .ok (.iconst 5, 1) := by decide +kernel
theorem dL_areRows_421 : decode cL_areRows 421 = .ok (.invokevirtual 29, 3) := by decide +kernel
theorem dL_areRows_424 : decode cL_areRows 424 = .ok (.iload 5, 2) := by decide +kernel
theorem dL_areRows_426 : decode cL_areRows 426 = .ok (.if_icmp .ne 54, 3) := by decide +kernel
theorem dL_areRows_429 : decode cL_areRows 429 = .ok (.aload_n 0, 1) := by decide +kernel
theorem dL_areRows_430 : decode cL_areRows 430 = .ok (.bipush 8, 2) := by decide +kernel
theorem dL_areRows_432 : decode cL_areRows 432 = .ok (.invokevirtual 29, 3) := by decide +kernel
theorem dL_areRows_435 : decode cL_areRows 435 = .ok (.iload 6, 2) := by decide +kernel
theorem dL_areRows_437 : decode cL_areRows 437 = .ok (.if_icmp .ne 43, 3) := by decide +kernel
theorem dL_areRows_440 : decode cL_areRows 440 = .ok (.aload_n 0, 1) := by decide +kernel
theorem dL_areRows_441 : decode cL_areRows 441 = .ok (.aload_n 3, 1) := by decide +kernel
theorem dL_areRows_442 : decode cL_areRows 442 = .ok (.bipush 63, 2) := by decide +kernel
theorem dL_areRows_444 : decode cL_areRows 444 = .ok (.iaload, 1) := by decide +kernel
theorem dL_areRows_445 : decode cL_areRows 445 = .ok (.iconst 0, 1) := by decide +kernel
theorem dL_areRows_446 : decode cL_areRows 446 = .ok (.invokevirtual 63, 3) := by decide +kernel
theorem dL_areRows_449 : decode cL_areRows 449 = .ok (.iconst (-1), 1) := by decide +kernel
theorem dL_areRows_450 : decode cL_areRows 450 = .ok (.if_icmp .ne 30, 3) := by decide +kernel
theorem dL_areRows_453 : decode cL_areRows 453 = .ok (.aload_n 0, 1) := by decide +kernel
theorem dL_areRows_454 : decode cL_areRows 454 = .ok (.iconst (-1), 1) := by decide +kernel
theorem dL_areRows_455 : decode cL_areRows 455 = .ok (.iconst 0, 1) := by decide +kernel
theorem dL_areRows_456 : decode cL_areRows 456 = .ok (.invokevirtual 63, 3) := by decide +kernel
theorem dL_areRows_459 : decode cL_areRows 459 = .ok (.bipush (-2), 2) := by decide +kernel
theorem dL_areRows_461 : decode cL_areRows 461 = .ok (.if_icmp .ne 19, 3) := by decide +kernel
theorem dL_areRows_464 : decode cL_areRows 464 = .ok (.aload_n 0, 1) := by decide +kernel
theorem dL_areRows_465 : decode cL_areRows 465 = .ok (.iconst 0, 1) := by decide +kernel
theorem dL_areRows_466 : decode cL_areRows 466 = .ok (.bipush 9, 2) := by decide +kernel
theorem dL_areRows_468 : decode cL_areRows 468 = .ok (.invokevirtual 63, 3) := by decide +kernel
theorem dL_areRows_471 : decode cL_areRows 471 = .ok (.bipush (-2), 2) := by decide +kernel
theorem dL_areRows_473 : decode cL_areRows 473 = .ok (.if_icmp .ne 7, 3) := by decide +kernel
theorem dL_areRows_476 : decode cL_areRows 476 = .ok (.iconst 1, 1) := by decide +kernel
theorem dL_areRows_477 : decode cL_areRows 477 = .ok (.goto 4, 3) := by decide +kernel
theorem dL_areRows_480 : decode cL_areRows 480 = .ok (.iconst 0, 1) := by decide +kernel
theorem dL_areRows_481 : decode cL_areRows 481 = .ok (.ireturn, 1) := by decide +kernel
theorem dL_law_0 : decode cL_law 0 = .ok (.new 10, 3) := by decide +kernel
theorem dL_law_3 : decode cL_law 3 = .ok (.dup, 1) := by decide +kernel
theorem dL_law_4 : decode cL_law 4 = .ok (.invokespecial 70, 3) := by decide +kernel
theorem dL_law_7 : decode cL_law 7 = .ok (.astore_n 1, 1) := by decide +kernel
theorem dL_law_8 : decode cL_law 8 = .ok (.bipush 64, 2) := by decide +kernel
theorem dL_law_10 : decode cL_law 10 = .ok (.newarray .int, 2) := by decide +kernel
theorem dL_law_12 : decode cL_law 12 = .ok (.astore_n 2, 1) := by decide +kernel
theorem dL_law_13 : decode cL_law 13 = .ok (.iconst 5, 1) := by decide +kernel
theorem dL_law_14 : decode cL_law 14 = .ok (.newarray .int, 2) := by decide +kernel
theorem dL_law_16 : decode cL_law 16 = .ok (.astore_n 3, 1) := by decide +kernel
theorem dL_law_17 : decode cL_law 17 = .ok (.bipush 64, 2) := by decide +kernel
theorem dL_law_19 : decode cL_law 19 = .ok (.newarray .int, 2) := by decide +kernel
theorem dL_law_21 : decode cL_law 21 = .ok (.astore 4, 2) := by decide +kernel
theorem dL_law_23 : decode cL_law 23 = .ok (.aload_n 3, 1) := by decide +kernel
theorem dL_law_24 : decode cL_law 24 = .ok (.invokestatic 71, 3) := by decide +kernel
theorem dL_law_27 : decode cL_law 27 = .ok (.aload_n 1, 1) := by decide +kernel
theorem dL_law_28 : decode cL_law 28 = .ok (.iconst 0, 1) := by decide +kernel
theorem dL_law_29 : decode cL_law 29 = .ok (.invokevirtual 25, 3) := by decide +kernel
theorem dL_law_32 : decode cL_law 32 = .ok (.ifCond .ne 85, 3) := by decide +kernel
theorem dL_law_35 : decode cL_law 35 = .ok (.aload_n 1, 1) := by decide +kernel
theorem dL_law_36 : decode cL_law 36 = .ok (.iconst 1, 1) := by decide +kernel
theorem dL_law_37 : decode cL_law 37 = .ok (.invokevirtual 25, 3) := by decide +kernel
theorem dL_law_40 : decode cL_law 40 = .ok (.ifCond .ne 77, 3) := by decide +kernel
theorem dL_law_43 : decode cL_law 43 = .ok (.aload_n 1, 1) := by decide +kernel
theorem dL_law_44 : decode cL_law 44 = .ok (.iconst 0, 1) := by decide +kernel
theorem dL_law_45 : decode cL_law 45 = .ok (.invokevirtual 32, 3) := by decide +kernel
theorem dL_law_48 : decode cL_law 48 = .ok (.sipush (-2000), 3) := by decide +kernel
theorem dL_law_51 : decode cL_law 51 = .ok (.if_icmp .ne 66, 3) := by decide +kernel
theorem dL_law_54 : decode cL_law 54 = .ok (.aload_n 1, 1) := by decide +kernel
theorem dL_law_55 : decode cL_law 55 = .ok (.iconst 1, 1) := by decide +kernel
theorem dL_law_56 : decode cL_law 56 = .ok (.invokevirtual 32, 3) := by decide +kernel
theorem dL_law_59 : decode cL_law 59 = .ok (.bipush (-2), 2) := by decide +kernel
theorem dL_law_61 : decode cL_law 61 = .ok (.if_icmp .ne 56, 3) := by decide +kernel
theorem dL_law_64 : decode cL_law 64 = .ok (.aload_n 1, 1) := by decide +kernel
theorem dL_law_65 : decode cL_law 65 = .ok (.iconst 0, 1) := by decide +kernel
theorem dL_law_66 : decode cL_law 66 = .ok (.invokevirtual 75, 3) := by decide +kernel
theorem dL_law_69 : decode cL_law 69 = .ok (.bipush (-2), 2) := by decide +kernel
theorem dL_law_71 : decode cL_law 71 = .ok (.if_icmp .ne 46, 3) := by decide +kernel
theorem dL_law_74 : decode cL_law 74 = .ok (.aload_n 1, 1) := by decide +kernel
theorem dL_law_75 : decode cL_law 75 = .ok (.iconst 0, 1) := by decide +kernel
theorem dL_law_76 : decode cL_law 76 = .ok (.invokevirtual 78, 3) := by decide +kernel
theorem dL_law_79 : decode cL_law 79 = .ok (.bipush (-2), 2) := by decide +kernel
theorem dL_law_81 : decode cL_law 81 = .ok (.if_icmp .ne 36, 3) := by decide +kernel
theorem dL_law_84 : decode cL_law 84 = .ok (.aload_n 1, 1) := by decide +kernel
theorem dL_law_85 : decode cL_law 85 = .ok (.iconst 0, 1) := by decide +kernel
theorem dL_law_86 : decode cL_law 86 = .ok (.iconst 1, 1) := by decide +kernel
theorem dL_law_87 : decode cL_law 87 = .ok (.invokevirtual 81, 3) := by decide +kernel
theorem dL_law_90 : decode cL_law 90 = .ok (.bipush (-2), 2) := by decide +kernel
theorem dL_law_92 : decode cL_law 92 = .ok (.if_icmp .ne 25, 3) := by decide +kernel
theorem dL_law_95 : decode cL_law 95 = .ok (.aload_n 1, 1) := by decide +kernel
theorem dL_law_96 : decode cL_law 96 = .ok (.iconst 0, 1) := by decide +kernel
theorem dL_law_97 : decode cL_law 97 = .ok (.iconst 0, 1) := by decide +kernel
theorem dL_law_98 : decode cL_law 98 = .ok (.iconst 0, 1) := by decide +kernel
theorem dL_law_99 : decode cL_law 99 = .ok (.invokevirtual 66, 3) := by decide +kernel
theorem dL_law_102 : decode cL_law 102 = .ok (.bipush (-2), 2) := by decide +kernel
theorem dL_law_104 : decode cL_law 104 = .ok (.if_icmp .ne 13, 3) := by decide +kernel
theorem dL_law_107 : decode cL_law 107 = .ok (.aload_n 1, 1) := by decide +kernel
theorem dL_law_108 : decode cL_law 108 = .ok (.aload_n 2, 1) := by decide +kernel
theorem dL_law_109 : decode cL_law 109 = .ok (.aload 4, 2) := by decide +kernel
theorem dL_law_111 : decode cL_law 111 = .ok (.invokestatic 85, 3) := by decide +kernel
theorem dL_law_114 : decode cL_law 114 = .ok (.ifCond .ne 5, 3) := by decide +kernel
theorem dL_law_117 : decode cL_law 117 = .ok (.iconst 0, 1) := by decide +kernel
theorem dL_law_118 : decode cL_law 118 = .ok (.ireturn, 1) := by decide +kernel
theorem dL_law_119 : decode cL_law 119 = .ok (.iconst 0, 1) := by decide +kernel
theorem dL_law_120 : decode cL_law 120 = .ok (.istore 5, 2) := by decide +kernel
theorem dL_law_122 : decode cL_law 122 = .ok (.iload 5, 2) := by decide +kernel
theorem dL_law_124 : decode cL_law 124 = .ok (.bipush 12, 2) := by decide +kernel
theorem dL_law_126 : decode cL_law 126 = .ok (.if_icmp .ge 413, 3) := by decide +kernel
theorem dL_law_129 : decode cL_law 129 = .ok (.aload_n 0, 1) := by decide +kernel
theorem dL_law_130 : decode cL_law 130 = .ok (.iconst 2, 1) := by decide +kernel
theorem dL_law_131 : decode cL_law 131 = .ok (.iload 5, 2) := by decide +kernel
theorem dL_law_133 : decode cL_law 133 = .ok (.imul, 1) := by decide +kernel
theorem dL_law_134 : decode cL_law 134 = .ok (.invokestatic 89, 3) := by decide +kernel
theorem dL_law_137 : decode cL_law 137 = .ok (.istore 6, 2) := by decide +kernel
theorem dL_law_139 : decode cL_law 139 = .ok (.aload_n 0, 1) := by decide +kernel
theorem dL_law_140 : decode cL_law 140 = .ok (.iconst 2, 1) := by decide +kernel
theorem dL_law_141 : decode cL_law 141 = .ok (.iload 5, 2) := by decide +kernel
theorem dL_law_143 : decode cL_law 143 = .ok (.imul, 1) := by decide +kernel
theorem dL_law_144 : decode cL_law 144 = .ok (.iconst 1, 1) := by decide +kernel
theorem dL_law_145 : decode cL_law 145 = .ok (.iadd, 1) := by decide +kernel
theorem dL_law_146 : decode cL_law 146 = .ok (.invokestatic 89, 3) := by decide +kernel
theorem dL_law_149 : decode cL_law 149 = .ok (.istore 7, 2) := by decide +kernel
theorem dL_law_151 : decode cL_law 151 = .ok (.aload_n 2, 1) := by decide +kernel
theorem dL_law_152 : decode cL_law 152 = .ok (.bipush 60, 2) := by decide +kernel
theorem dL_law_154 : decode cL_law 154 = .ok (.iaload, 1) := by decide +kernel
theorem dL_law_155 : decode cL_law 155 = .ok (.ifCond .ne 7, 3) := by decide +kernel
theorem dL_law_158 : decode cL_law 158 = .ok (.iconst 0, 1) := by decide +kernel
theorem dL_law_159 : decode cL_law 159 = .ok (.goto 12, 3) := by decide +kernel
theorem dL_law_162 : decode cL_law 162 = .ok (.iload 7, 2) := by decide +kernel
theorem dL_law_164 : decode cL_law 164 = .ok (.aload_n 2, 1) := by decide +kernel
theorem dL_law_165 : decode cL_law 165 = .ok (.bipush 60, 2) := by decide +kernel
theorem dL_law_167 : decode cL_law 167 = .ok (.iaload, 1) := by decide +kernel
theorem dL_law_168 : decode cL_law 168 = .ok (.invokestatic 15, 3) := by decide +kernel
theorem dL_law_171 : decode cL_law 171 = .ok (.istore 8, 2) := by decide +kernel
theorem dL_law_173 : decode cL_law 173 = .ok (.aload_n 2, 1) := by decide +kernel
theorem dL_law_174 : decode cL_law 174 = .ok (.bipush 60, 2) := by decide +kernel
theorem dL_law_176 : decode cL_law 176 = .ok (.iaload, 1) := by decide +kernel
theorem dL_law_177 : decode cL_law 177 = .ok (.ifCond .ne 8, 3) := by decide +kernel
theorem dL_law_180 : decode cL_law 180 = .ok (.bipush 9, 2) := by decide +kernel
theorem dL_law_182 : decode cL_law 182 = .ok (.goto 13, 3) := by decide +kernel
theorem dL_law_185 : decode cL_law 185 = .ok (.iload 6, 2) := by decide +kernel
theorem dL_law_187 : decode cL_law 187 = .ok (.bipush 22, 2) := by decide +kernel
theorem dL_law_189 : decode cL_law 189 = .ok (.ishr, 1) := by decide +kernel
theorem dL_law_190 : decode cL_law 190 = .ok (.bipush 8, 2) := by decide +kernel
theorem dL_law_192 : decode cL_law 192 = .ok (.invokestatic 15, 3) := by decide +kernel
theorem dL_law_195 : decode cL_law 195 = .ok (.tableswitch 268 0 4 #[33, 114, 158, 158, 170], 33) := by decide +kernel
theorem dL_law_228 : decode cL_law 228 = .ok (.iload 6, 2) := by decide +kernel
theorem dL_law_230 : decode cL_law 230 = .ok (.iconst 2, 1) := by decide +kernel
theorem dL_law_231 : decode cL_law 231 = .ok (.invokestatic 15, 3) := by decide +kernel
theorem dL_law_234 : decode cL_law 234 = .ok (.ifCond .ne 8, 3) := by decide +kernel
theorem dL_law_237 : decode cL_law 237 = .ok (.bipush 6, 2) := by decide +kernel
theorem dL_law_239 : decode cL_law 239 = .ok (.goto 5, 3) := by decide +kernel
theorem dL_law_242 : decode cL_law 242 = .ok (.bipush 7, 2) := by decide +kernel
theorem dL_law_244 : decode cL_law 244 = .ok (.istore 10, 2) := by decide +kernel
theorem dL_law_246 : decode cL_law 246 = .ok (.aload_n 2, 1) := by decide +kernel
theorem dL_law_247 : decode cL_law 247 = .ok (.bipush 10, 2) := by decide +kernel
theorem dL_law_249 : decode cL_law 249 = .ok (.iload 8, 2) := by decide +kernel
theorem dL_law_251 : decode cL_law 251 = .ok (.imul, 1) := by decide +kernel
theorem dL_law_252 : decode cL_law 252 = .ok (.iload 10, 2) := by decide +kernel
theorem dL_law_254 : decode cL_law 254 = .ok (.iadd, 1) := by decide +kernel
theorem dL_law_255 : decode cL_law 255 = .ok (.iconst 1, 1) := by decide +kernel
theorem dL_law_256 : decode cL_law 256 = .ok (.aload_n 2, 1) := by decide +kernel
theorem dL_law_257 : decode cL_law 257 = .ok (.bipush 10, 2) := by decide +kernel
theorem dL_law_259 : decode cL_law 259 = .ok (.iload 8, 2) := by decide +kernel
theorem dL_law_261 : decode cL_law 261 = .ok (.imul, 1) := by decide +kernel
theorem dL_law_262 : decode cL_law 262 = .ok (.iload 10, 2) := by decide +kernel
theorem dL_law_264 : decode cL_law 264 = .ok (.iadd, 1) := by decide +kernel
theorem dL_law_265 : decode cL_law 265 = .ok (.iaload, 1) := by decide +kernel
theorem dL_law_266 : decode cL_law 266 = .ok (.isub, 1) := by decide +kernel
theorem dL_law_267 : decode cL_law 267 = .ok (.iastore, 1) := by decide +kernel
theorem dL_law_268 : decode cL_law 268 = .ok (.aload_n 1, 1) := by decide +kernel
theorem dL_law_269 : decode cL_law 269 = .ok (.iload 8, 2) := by decide +kernel
theorem dL_law_271 : decode cL_law 271 = .ok (.iload 10, 2) := by decide +kernel
theorem dL_law_273 : decode cL_law 273 = .ok (.bipush 6, 2) := by decide +kernel
theorem dL_law_275 : decode cL_law 275 = .ok (.if_icmp .ne 7, 3) := by decide +kernel
theorem dL_law_278 : decode cL_law 278 = .ok (.iconst 1, 1) := by decide +kernel
theorem dL_law_279 : decode cL_law 279 = .ok (.goto 4, 3) := by decide +kernel
theorem dL_law_282 : decode cL_law 282 = .ok (.iconst 0, 1) := by decide +kernel
theorem dL_law_283 : decode cL_law 283 = .ok (.invokevirtual 81, 3) := by decide +kernel
theorem dL_law_286 : decode cL_law 286 = .ok (.aload_n 2, 1) := by decide +kernel
theorem dL_law_287 : decode cL_law 287 = .ok (.bipush 10, 2) := by decide +kernel
theorem dL_law_289 : decode cL_law 289 = .ok (.iload 8, 2) := by decide +kernel
theorem dL_law_291 : decode cL_law 291 = .ok (.imul, 1) := by decide +kernel
theorem dL_law_292 : decode cL_law 292 = .ok (.iload 10, 2) := by decide +kernel
theorem dL_law_294 : decode cL_law 294 = .ok (.iadd, 1) := by decide +kernel
theorem dL_law_295 : decode cL_law 295 = .ok (.iaload, 1) := by decide +kernel
theorem dL_law_296 : decode cL_law 296 = .ok (.if_icmp .ne 7, 3) := by decide +kernel
theorem dL_law_299 : decode cL_law 299 = .ok (.iconst 1, 1) := by decide +kernel
theorem dL_law_300 : decode cL_law 300 = .ok (.goto 4, 3) := by decide +kernel
theorem dL_law_303 : decode cL_law 303 = .ok (.iconst 0, 1) := by decide +kernel
theorem dL_law_304 : decode cL_law 304 = .ok (.istore 9, 2) := by decide +kernel
theorem dL_law_306 : decode cL_law 306 = .ok (.goto 192, 3) := by decide +kernel
theorem dL_law_309 : decode cL_law 309 = .ok (.aload_n 2, 1) := by decide +kernel
theorem dL_law_310 : decode cL_law 310 = .ok (.bipush 10, 2) := by decide +kernel
theorem dL_law_312 : decode cL_law 312 = .ok (.iload 8, 2) := by decide +kernel
theorem dL_law_314 : decode cL_law 314 = .ok (.imul, 1) := by decide +kernel
theorem dL_law_315 : decode cL_law 315 = .ok (.iaload, 1) := by decide +kernel
theorem dL_law_316 : decode cL_law 316 = .ok (.istore 10, 2) := by decide +kernel
theorem dL_law_318 : decode cL_law 318 = .ok (.aload_n 1, 1) := by decide +kernel
theorem dL_law_319 : decode cL_law 319 = .ok (.aload_n 2, 1) := by decide +kernel
theorem dL_law_320 : decode cL_law 320 = .ok (.iload 8, 2) := by decide +kernel
theorem dL_law_322 : decode cL_law 322 = .ok (.iload 6, 2) := by decide +kernel
theorem dL_law_324 : decode cL_law 324 = .ok (.iload 7, 2) := by decide +kernel
theorem dL_law_326 : decode cL_law 326 = .ok (.invokestatic 35, 3) := by decide +kernel
theorem dL_law_329 : decode cL_law 329 = .ok (.ifCond .eq 18, 3) := by decide +kernel
theorem dL_law_332 : decode cL_law 332 = .ok (.aload_n 1, 1) := by decide +kernel
theorem dL_law_333 : decode cL_law 333 = .ok (.iload 8, 2) := by decide +kernel
theorem dL_law_335 : decode cL_law 335 = .ok (.invokevirtual 75, 3) := by decide +kernel
theorem dL_law_338 : decode cL_law 338 = .ok (.iload 10, 2) := by decide +kernel
theorem dL_law_340 : decode cL_law 340 = .ok (.if_icmp .ne 7, 3) := by decide +kernel
theorem dL_law_343 : decode cL_law 343 = .ok (.iconst 1, 1) := by decide +kernel
theorem dL_law_344 : decode cL_law 344 = .ok (.goto 4, 3) := by decide +kernel
theorem dL_law_347 : decode cL_law 347 = .ok (.iconst 0, 1) := by decide +kernel
theorem dL_law_348 : decode cL_law 348 = .ok (.istore 9, 2) := by decide +kernel
theorem dL_law_350 : decode cL_law 350 = .ok (.goto 148, 3) := by decide +kernel
theorem dL_law_353 : decode cL_law 353 = .ok (.aload_n 1, 1) := by decide +kernel
theorem dL_law_354 : decode cL_law 354 = .ok (.aload_n 3, 1) := by decide +kernel
theorem dL_law_355 : decode cL_law 355 = .ok (.iload 6, 2) := by decide +kernel
theorem dL_law_357 : decode cL_law 357 = .ok (.invokestatic 93, 3) := by decide +kernel
theorem dL_law_360 : decode cL_law 360 = .ok (.istore 9, 2) := by decide +kernel
theorem dL_law_362 : decode cL_law 362 = .ok (.goto 136, 3) := by decide +kernel
theorem dL_law_365 : decode cL_law 365 = .ok (.aload_n 2, 1) := by decide +kernel
theorem dL_law_366 : decode cL_law 366 = .ok (.bipush 60, 2) := by decide +kernel
theorem dL_law_368 : decode cL_law 368 = .ok (.dup2, 1) := by decide +kernel
theorem dL_law_369 : decode cL_law 369 = .ok (.iaload, 1) := by decide +kernel
theorem dL_law_370 : decode cL_law 370 = .ok (.iload 6, 2) := by decide +kernel
theorem dL_law_372 : decode cL_law 372 = .ok (.iconst 3, 1) := by decide +kernel
theorem dL_law_373 : decode cL_law 373 = .ok (.invokestatic 15, 3) := by decide +kernel
theorem dL_law_376 : decode cL_law 376 = .ok (.ifCond .ne 7, 3) := by decide +kernel
theorem dL_law_379 : decode cL_law 379 = .ok (.iconst 1, 1) := by decide +kernel
theorem dL_law_380 : decode cL_law 380 = .ok (.goto 4, 3) := by decide +kernel
theorem dL_law_383 : decode cL_law 383 = .ok (.iconst 0, 1) := by decide +kernel
theorem dL_law_384 : decode cL_law 384 = .ok (.isub, 1) := by decide +kernel
theorem dL_law_385 : decode cL_law 385 = .ok (.iastore, 1) := by decide +kernel
theorem dL_law_386 : decode cL_law 386 = .ok (.bipush 10, 2) := by decide +kernel
theorem dL_law_388 : decode cL_law 388 = .ok (.iload 8, 2) := by decide +kernel
theorem dL_law_390 : decode cL_law 390 = .ok (.imul, 1) := by decide +kernel
theorem dL_law_391 : decode cL_law 391 = .ok (.istore 10, 2) := by decide +kernel
theorem dL_law_393 : decode cL_law 393 = .ok (.iload 10, 2) := by decide +kernel
theorem dL_law_395 : decode cL_law 395 = .ok (.bipush 10, 2) := by decide +kernel
theorem dL_law_397 : decode cL_law 397 = .ok (.aload_n 2, 1) := by decide +kernel
theorem dL_law_398 : decode cL_law 398 = .ok (.bipush 60, 2) := by decide +kernel
theorem dL_law_400 : decode cL_law 400 = .ok (.iaload, 1) := by decide +kernel
theorem dL_law_401 : decode cL_law 401 = .ok (.imul, 1) := by decide +kernel
theorem dL_law_402 : decode cL_law 402 = .ok (.if_icmp .ge 29, 3) := by decide +kernel
theorem dL_law_405 : decode cL_law 405 = .ok (.iload 6, 2) := by decide +kernel
theorem dL_law_407 : decode cL_law 407 = .ok (.iconst 3, 1) := by decide +kernel
theorem dL_law_408 : decode cL_law 408 = .ok (.invokestatic 15, 3) := by decide +kernel
theorem dL_law_411 : decode cL_law 411 = .ok (.ifCond .ne 20, 3) := by decide +kernel
theorem dL_law_414 : decode cL_law 414 = .ok (.aload_n 2, 1) := by decide +kernel
theorem dL_law_415 : decode cL_law 415 = .ok (.iload 10, 2) := by decide +kernel
theorem dL_law_417 : decode cL_law 417 = .ok (.aload_n 2, 1) := by decide +kernel
theorem dL_law_418 : decode cL_law 418 = .ok (.iload 10, 2) := by decide +kernel
theorem dL_law_420 : decode cL_law 420 = .ok (.bipush 10, 2) := by decide +kernel
theorem dL_law_422 : decode cL_law 422 = .ok (.iadd, 1) := by decide +kernel
theorem dL_law_423 : decode cL_law 423 = .ok (.iaload, 1) := by decide +kernel
theorem dL_law_424 : decode cL_law 424 = .ok (.iastore, 1) := by decide +kernel
theorem dL_law_425 : decode cL_law 425 = .ok (.iinc 10 1, 3) := by decide +kernel
theorem dL_law_428 : decode cL_law 428 = .ok (.goto (-35), 3) := by decide +kernel
theorem dL_law_431 : decode cL_law 431 = .ok (.iload 6, 2) := by decide +kernel
theorem dL_law_433 : decode cL_law 433 = .ok (.iconst 3, 1) := by decide +kernel
theorem dL_law_434 : decode cL_law 434 = .ok (.invokestatic 15, 3) := by decide +kernel
theorem dL_law_437 : decode cL_law 437 = .ok (.ifCond .gt 16, 3) := by decide +kernel
theorem dL_law_440 : decode cL_law 440 = .ok (.aload_n 1, 1) := by decide +kernel
theorem dL_law_441 : decode cL_law 441 = .ok (.iload 8, 2) := by decide +kernel
theorem dL_law_443 : decode cL_law 443 = .ok (.invokevirtual 78, 3) := by decide +kernel
theorem dL_law_446 : decode cL_law 446 = .ok (.aload_n 2, 1) := by decide +kernel
theorem dL_law_447 : decode cL_law 447 = .ok (.bipush 60, 2) := by decide +kernel
theorem dL_law_449 : decode cL_law 449 = .ok (.iaload, 1) := by decide +kernel
theorem dL_law_450 : decode cL_law 450 = .ok (.if_icmp .ne 7, 3) := by decide +kernel
theorem dL_law_453 : decode cL_law 453 = .ok (.iconst 1, 1) := by decide +kernel
theorem dL_law_454 : decode cL_law 454 = .ok (.goto 4, 3) := by decide +kernel
theorem dL_law_457 : decode cL_law 457 = .ok (.iconst 0, 1) := by decide +kernel
theorem dL_law_458 : decode cL_law 458 = .ok (.istore 9, 2) := by decide +kernel
theorem dL_law_460 : decode cL_law 460 = .ok (.goto 38, 3) := by decide +kernel
theorem dL_law_463 : decode cL_law 463 = .ok (.aload_n 1, 1) := by decide +kernel
theorem dL_law_464 : decode cL_law 464 = .ok (.aload_n 2, 1) := by decide +kernel
theorem dL_law_465 : decode cL_law 465 = .ok (.aload_n 2, 1) := by decide +kernel
theorem dL_law_466 : decode cL_law 466 = .ok (.bipush 60, 2) := by decide +kernel
theorem dL_law_468 : decode cL_law 468 = .ok (.iaload, 1) := by decide +kernel
theorem dL_law_469 : decode cL_law 469 = .ok (.ifCond .ne 7, 3) := by decide +kernel
theorem dL_law_472 : decode cL_law 472 = .ok (.iconst 0, 1) := by decide +kernel
theorem dL_law_473 : decode cL_law 473 = .ok (.goto 14, 3) := by decide +kernel
theorem dL_law_476 : decode cL_law 476 = .ok (.iload 7, 2) := by decide +kernel
theorem dL_law_478 : decode cL_law 478 = .ok (.aload_n 2, 1) := by decide +kernel
theorem dL_law_479 : decode cL_law 479 = .ok (.bipush 60, 2) := by decide +kernel
theorem dL_law_481 : decode cL_law 481 = .ok (.iaload, 1) := by decide +kernel
theorem dL_law_482 : decode cL_law 482 = .ok (.iconst 1, 1) := by decide +kernel
theorem dL_law_483 : decode cL_law 483 = .ok (.iadd, 1) := by decide +kernel
theorem dL_law_484 : decode cL_law 484 = .ok (.invokestatic 15, 3) := by decide +kernel
theorem dL_law_487 : decode cL_law 487 = .ok (.iload 6, 2) := by decide +kernel
theorem dL_law_489 : decode cL_law 489 = .ok (.iload 7, 2) := by decide +kernel
theorem dL_law_491 : decode cL_law 491 = .ok (.iconst 1, 1) := by decide +kernel
theorem dL_law_492 : decode cL_law 492 = .ok (.ishr, 1) := by decide +kernel
theorem dL_law_493 : decode cL_law 493 = .ok (.invokestatic 97, 3) := by decide +kernel
theorem dL_law_496 : decode cL_law 496 = .ok (.istore 9, 2) := by decide +kernel
theorem dL_law_498 : decode cL_law 498 = .ok (.aload_n 2, 1) := by decide +kernel
theorem dL_law_499 : decode cL_law 499 = .ok (.aload_n 3, 1) := by decide +kernel
theorem dL_law_500 : decode cL_law 500 = .ok (.aload 4, 2) := by decide +kernel
theorem dL_law_502 : decode cL_law 502 = .ok (.invokestatic 100, 3) := by decide +kernel
theorem dL_law_505 : decode cL_law 505 = .ok (.iload 9, 2) := by decide +kernel
theorem dL_law_507 : decode cL_law 507 = .ok (.ifCond .eq 24, 3) := by decide +kernel
theorem dL_law_510 : decode cL_law 510 = .ok (.aload_n 1, 1) := by decide +kernel
theorem dL_law_511 : decode cL_law 511 = .ok (.aload_n 2, 1) := by decide +kernel
theorem dL_law_512 : decode cL_law 512 = .ok (.aload 4, 2) := by decide +kernel
theorem dL_law_514 : decode cL_law 514 = .ok (.invokestatic 85, 3) := by decide +kernel
theorem dL_law_517 : decode cL_law 517 = .ok (.ifCond .eq 14, 3) := by decide +kernel
theorem dL_law_520 : decode cL_law 520 = .ok (.aload_n 1, 1) := by decide +kernel
theorem dL_law_521 : decode cL_law 521 = .ok (.aload_n 2, 1) := by decide +kernel
theorem dL_law_522 : decode cL_law 522 = .ok (.aload_n 3, 1) := by decide +kernel
theorem dL_law_523 : decode cL_law 523 = .ok (.aload 4, 2) := by decide +kernel
theorem dL_law_525 : decode cL_law 525 = .ok (.invokestatic 104, 3) := by decide +kernel
theorem dL_law_528 : decode cL_law 528 = .ok (.ifCond .ne 5, 3) := by decide +kernel
theorem dL_law_531 : decode cL_law 531 = .ok (.iconst 0, 1) := by decide +kernel
theorem dL_law_532 : decode cL_law 532 = .ok (.ireturn, 1) := by decide +kernel
theorem dL_law_533 : decode cL_law 533 = .ok (.iinc 5 1, 3) := by decide +kernel
theorem dL_law_536 : decode cL_law 536 = .ok (.goto (-414), 3) := by decide +kernel
theorem dL_law_539 : decode cL_law 539 = .ok (.iconst 1, 1) := by decide +kernel
theorem dL_law_540 : decode cL_law 540 = .ok (.ireturn, 1) := by decide +kernel
