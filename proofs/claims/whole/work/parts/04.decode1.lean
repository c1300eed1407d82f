theorem dX0_init_0 : decode cX0_init 0 = .ok (.aload_n 0, 1) := by decide +kernel
theorem dX0_init_1 : decode cX0_init 1 = .ok (.invokespecial 3, 3) := by decide +kernel
theorem dX0_init_4 : decode cX0_init 4 = .ok (.aload_n 0, 1) := by decide +kernel
theorem dX0_init_5 : decode cX0_init 5 = .ok (.bipush 20, 2) := by decide +kernel
theorem dX0_init_7 : decode cX0_init 7 = .ok (.bipush 20, 2) := by decide +kernel
theorem dX0_init_9 : decode cX0_init 9 = .ok (.multianewarray 9 2, 4) := by decide +kernel
theorem dX0_init_13 : decode cX0_init 13 = .ok (.putfield 11, 3) := by decide +kernel
theorem dX0_init_16 : decode cX0_init 16 = .ok (.aload_n 0, 1) := by decide +kernel
theorem dX0_init_17 : decode cX0_init 17 = .ok (.iconst 0, 1) := by decide +kernel
theorem dX0_init_18 : decode cX0_init 18 = .ok (.putfield 16, 3) := by decide +kernel
theorem dX0_init_21 : decode cX0_init 21 = .ok (.aload_n 0, 1) := by decide +kernel
theorem dX0_init_22 : decode cX0_init 22 = .ok (.iconst 0, 1) := by decide +kernel
theorem dX0_init_23 : decode cX0_init 23 = .ok (.putfield 20, 3) := by decide +kernel
theorem dX0_init_26 : decode cX0_init 26 = .ok (.aload_n 0, 1) := by decide +kernel
theorem dX0_init_27 : decode cX0_init 27 = .ok (.aload_n 1, 1) := by decide +kernel
theorem dX0_init_28 : decode cX0_init 28 = .ok (.putfield 23, 3) := by decide +kernel
theorem dX0_init_31 : decode cX0_init 31 = .ok (.iconst 0, 1) := by decide +kernel
theorem dX0_init_32 : decode cX0_init 32 = .ok (.istore_n 2, 1) := by decide +kernel
theorem dX0_init_33 : decode cX0_init 33 = .ok (.iload_n 2, 1) := by decide +kernel
theorem dX0_init_34 : decode cX0_init 34 = .ok (.bipush 20, 2) := by decide +kernel
theorem dX0_init_36 : decode cX0_init 36 = .ok (.if_icmp .ge 19, 3) := by decide +kernel
theorem dX0_init_39 : decode cX0_init 39 = .ok (.aload_n 0, 1) := by decide +kernel
theorem dX0_init_40 : decode cX0_init 40 = .ok (.getfield 11, 3) := by decide +kernel
theorem dX0_init_43 : decode cX0_init 43 = .ok (.iload_n 2, 1) := by decide +kernel
theorem dX0_init_44 : decode cX0_init 44 = .ok (.aaload, 1) := by decide +kernel
theorem dX0_init_45 : decode cX0_init 45 = .ok (.iconst (-1), 1) := by decide +kernel
theorem dX0_init_46 : decode cX0_init 46 = .ok (.invokestatic 27, 3) := by decide +kernel
theorem dX0_init_49 : decode cX0_init 49 = .ok (.iinc 2 1, 3) := by decide +kernel
theorem dX0_init_52 : decode cX0_init 52 = .ok (.goto (-19), 3) := by decide +kernel
theorem dX0_init_55 : decode cX0_init 55 = .ok (.return_, 1) := by decide +kernel
theorem dX0_weightSum_0 : decode cX0_weightSum 0 = .ok (.aload_n 0, 1) := by decide +kernel
theorem dX0_weightSum_1 : decode cX0_weightSum 1 = .ok (.getfield 16, 3) := by decide +kernel
theorem dX0_weightSum_4 : decode cX0_weightSum 4 = .ok (.ireturn, 1) := by decide +kernel
theorem dX0_edgeSum_0 : decode cX0_edgeSum 0 = .ok (.aload_n 0, 1) := by decide +kernel
theorem dX0_edgeSum_1 : decode cX0_edgeSum 1 = .ok (.getfield 20, 3) := by decide +kernel
theorem dX0_edgeSum_4 : decode cX0_edgeSum 4 = .ok (.ireturn, 1) := by decide +kernel
theorem dX0_edgeJoining_0 : decode cX0_edgeJoining 0 = .ok (.aload_n 0, 1) := by decide +kernel
theorem dX0_edgeJoining_1 : decode cX0_edgeJoining 1 = .ok (.getfield 23, 3) := by decide +kernel
theorem dX0_edgeJoining_4 : decode cX0_edgeJoining 4 = .ok (.iload_n 1, 1) := by decide +kernel
theorem dX0_edgeJoining_5 : decode cX0_edgeJoining 5 = .ok (.invokevirtual 33, 3) := by decide +kernel
theorem dX0_edgeJoining_8 : decode cX0_edgeJoining 8 = .ok (.ifCond .eq 14, 3) := by decide +kernel
theorem dX0_edgeJoining_11 : decode cX0_edgeJoining 11 = .ok (.aload_n 0, 1) := by decide +kernel
theorem dX0_edgeJoining_12 : decode cX0_edgeJoining 12 = .ok (.getfield 23, 3) := by decide +kernel
theorem dX0_edgeJoining_15 : decode cX0_edgeJoining 15 = .ok (.iload_n 2, 1) := by decide +kernel
theorem dX0_edgeJoining_16 : decode cX0_edgeJoining 16 = .ok (.invokevirtual 33, 3) := by decide +kernel
theorem dX0_edgeJoining_19 : decode cX0_edgeJoining 19 = .ok (.ifCond .ne 5, 3) := by decide +kernel
theorem dX0_edgeJoining_22 : decode cX0_edgeJoining 22 = .ok (.iconst (-1), 1) := by decide +kernel
theorem dX0_edgeJoining_23 : decode cX0_edgeJoining 23 = .ok (.ireturn, 1) := by decide +kernel
theorem dX0_edgeJoining_24 : decode cX0_edgeJoining 24 = .ok (.aload_n 0, 1) := by decide +kernel
theorem dX0_edgeJoining_25 : decode cX0_edgeJoining 25 = .ok (.getfield 11, 3) := by decide +kernel
theorem dX0_edgeJoining_28 : decode cX0_edgeJoining 28 = .ok (.iload_n 1, 1) := by decide +kernel
theorem dX0_edgeJoining_29 : decode cX0_edgeJoining 29 = .ok (.aaload, 1) := by decide +kernel
theorem dX0_edgeJoining_30 : decode cX0_edgeJoining 30 = .ok (.iload_n 2, 1) := by decide +kernel
theorem dX0_edgeJoining_31 : decode cX0_edgeJoining 31 = .ok (.iaload, 1) := by decide +kernel
theorem dX0_edgeJoining_32 : decode cX0_edgeJoining 32 = .ok (.ireturn, 1) := by decide +kernel
theorem dX0_holds_0 : decode cX0_holds 0 = .ok (.aload_n 0, 1) := by decide +kernel
theorem dX0_holds_1 : decode cX0_holds 1 = .ok (.getfield 23, 3) := by decide +kernel
theorem dX0_holds_4 : decode cX0_holds 4 = .ok (.iload_n 1, 1) := by decide +kernel
theorem dX0_holds_5 : decode cX0_holds 5 = .ok (.invokevirtual 39, 3) := by decide +kernel
theorem dX0_holds_8 : decode cX0_holds 8 = .ok (.ifCond .eq 31, 3) := by decide +kernel
theorem dX0_holds_11 : decode cX0_holds 11 = .ok (.aload_n 0, 1) := by decide +kernel
theorem dX0_holds_12 : decode cX0_holds 12 = .ok (.aload_n 0, 1) := by decide +kernel
theorem dX0_holds_13 : decode cX0_holds 13 = .ok (.getfield 23, 3) := by decide +kernel
theorem dX0_holds_16 : decode cX0_holds 16 = .ok (.iload_n 1, 1) := by decide +kernel
theorem dX0_holds_17 : decode cX0_holds 17 = .ok (.invokevirtual 42, 3) := by decide +kernel
theorem dX0_holds_20 : decode cX0_holds 20 = .ok (.aload_n 0, 1) := by decide +kernel
theorem dX0_holds_21 : decode cX0_holds 21 = .ok (.getfield 23, 3) := by decide +kernel
theorem dX0_holds_24 : decode cX0_holds 24 = .ok (.iload_n 1, 1) := by decide +kernel
theorem dX0_holds_25 : decode cX0_holds 25 = .ok (.invokevirtual 46, 3) := by decide +kernel
theorem dX0_holds_28 : decode cX0_holds 28 = .ok (.invokevirtual 49, 3) := by decide +kernel
theorem dX0_holds_31 : decode cX0_holds 31 = .ok (.iload_n 1, 1) := by decide +kernel
theorem dX0_holds_32 : decode cX0_holds 32 = .ok (.if_icmp .ne 7, 3) := by decide +kernel
theorem dX0_holds_35 : decode cX0_holds 35 = .ok (.iconst 1, 1) := by decide +kernel
theorem dX0_holds_36 : decode cX0_holds 36 = .ok (.goto 4, 3) := by decide +kernel
theorem dX0_holds_39 : decode cX0_holds 39 = .ok (.iconst 0, 1) := by decide +kernel
theorem dX0_holds_40 : decode cX0_holds 40 = .ok (.ireturn, 1) := by decide +kernel
theorem dX0_link_0 : decode cX0_link 0 = .ok (.aload_n 0, 1) := by decide +kernel
theorem dX0_link_1 : decode cX0_link 1 = .ok (.aload_n 0, 1) := by decide +kernel
theorem dX0_link_2 : decode cX0_link 2 = .ok (.getfield 23, 3) := by decide +kernel
theorem dX0_link_5 : decode cX0_link 5 = .ok (.iload_n 1, 1) := by decide +kernel
theorem dX0_link_6 : decode cX0_link 6 = .ok (.invokevirtual 42, 3) := by decide +kernel
theorem dX0_link_9 : decode cX0_link 9 = .ok (.aload_n 0, 1) := by decide +kernel
theorem dX0_link_10 : decode cX0_link 10 = .ok (.getfield 23, 3) := by decide +kernel
theorem dX0_link_13 : decode cX0_link 13 = .ok (.iload_n 1, 1) := by decide +kernel
theorem dX0_link_14 : decode cX0_link 14 = .ok (.invokevirtual 46, 3) := by decide +kernel
theorem dX0_link_17 : decode cX0_link 17 = .ok (.iload_n 1, 1) := by decide +kernel
theorem dX0_link_18 : decode cX0_link 18 = .ok (.invokevirtual 53, 3) := by decide +kernel
theorem dX0_link_21 : decode cX0_link 21 = .ok (.aload_n 0, 1) := by decide +kernel
theorem dX0_link_22 : decode cX0_link 22 = .ok (.dup, 1) := by decide +kernel
theorem dX0_link_23 : decode cX0_link 23 = .ok (.getfield 16, 3) := by decide +kernel
theorem dX0_link_26 : decode cX0_link 26 = .ok (.aload_n 0, 1) := by decide +kernel
theorem dX0_link_27 : decode cX0_link 27 = .ok (.getfield 23, 3) := by decide +kernel
theorem dX0_link_30 : decode cX0_link 30 = .ok (.iload_n 1, 1) := by decide +kernel
theorem dX0_link_31 : decode cX0_link 31 = .ok (.invokevirtual 57, 3) := by decide +kernel
theorem dX0_link_34 : decode cX0_link 34 = .ok (.iadd, 1) := by decide +kernel
theorem dX0_link_35 : decode cX0_link 35 = .ok (.putfield 16, 3) := by decide +kernel
theorem dX0_link_38 : decode cX0_link 38 = .ok (.aload_n 0, 1) := by decide +kernel
theorem dX0_link_39 : decode cX0_link 39 = .ok (.dup, 1) := by decide +kernel
theorem dX0_link_40 : decode cX0_link 40 = .ok (.getfield 20, 3) := by decide +kernel
theorem dX0_link_43 : decode cX0_link 43 = .ok (.iconst 1, 1) := by decide +kernel
theorem dX0_link_44 : decode cX0_link 44 = .ok (.iadd, 1) := by decide +kernel
theorem dX0_link_45 : decode cX0_link 45 = .ok (.putfield 20, 3) := by decide +kernel
theorem dX0_link_48 : decode cX0_link 48 = .ok (.return_, 1) := by decide +kernel
theorem dX0_cut_0 : decode cX0_cut 0 = .ok (.aload_n 0, 1) := by decide +kernel
theorem dX0_cut_1 : decode cX0_cut 1 = .ok (.aload_n 0, 1) := by decide +kernel
theorem dX0_cut_2 : decode cX0_cut 2 = .ok (.getfield 23, 3) := by decide +kernel
theorem dX0_cut_5 : decode cX0_cut 5 = .ok (.iload_n 1, 1) := by decide +kernel
theorem dX0_cut_6 : decode cX0_cut 6 = .ok (.invokevirtual 42, 3) := by decide +kernel
theorem dX0_cut_9 : decode cX0_cut 9 = .ok (.aload_n 0, 1) := by decide +kernel
theorem dX0_cut_10 : decode cX0_cut 10 = .ok (.getfield 23, 3) := by decide +kernel
theorem dX0_cut_13 : decode cX0_cut 13 = .ok (.iload_n 1, 1) := by decide +kernel
theorem dX0_cut_14 : decode cX0_cut 14 = .ok (.invokevirtual 46, 3) := by decide +kernel
theorem dX0_cut_17 : decode cX0_cut 17 = .ok (.iconst (-1), 1) := by decide +kernel
theorem dX0_cut_18 : decode cX0_cut 18 = .ok (.invokevirtual 53, 3) := by decide +kernel
theorem dX0_cut_21 : decode cX0_cut 21 = .ok (.aload_n 0, 1) := by decide +kernel
theorem dX0_cut_22 : decode cX0_cut 22 = .ok (.dup, 1) := by decide +kernel
theorem dX0_cut_23 : decode cX0_cut 23 = .ok (.getfield 16, 3) := by decide +kernel
theorem dX0_cut_26 : decode cX0_cut 26 = .ok (.aload_n 0, 1) := by decide +kernel
theorem dX0_cut_27 : decode cX0_cut 27 = .ok (.getfield 23, 3) := by decide +kernel
theorem dX0_cut_30 : decode cX0_cut 30 = .ok (.iload_n 1, 1) := by decide +kernel
theorem dX0_cut_31 : decode cX0_cut 31 = .ok (.invokevirtual 57, 3) := by decide +kernel
theorem dX0_cut_34 : decode cX0_cut 34 = .ok (.isub, 1) := by decide +kernel
theorem dX0_cut_35 : decode cX0_cut 35 = .ok (.putfield 16, 3) := by decide +kernel
theorem dX0_cut_38 : decode cX0_cut 38 = .ok (.aload_n 0, 1) := by decide +kernel
theorem dX0_cut_39 : decode cX0_cut 39 = .ok (.dup, 1) := by decide +kernel
theorem dX0_cut_40 : decode cX0_cut 40 = .ok (.getfield 20, 3) := by decide +kernel
theorem dX0_cut_43 : decode cX0_cut 43 = .ok (.iconst 1, 1) := by decide +kernel
theorem dX0_cut_44 : decode cX0_cut 44 = .ok (.isub, 1) := by decide +kernel
theorem dX0_cut_45 : decode cX0_cut 45 = .ok (.putfield 20, 3) := by decide +kernel
theorem dX0_cut_48 : decode cX0_cut 48 = .ok (.return_, 1) := by decide +kernel
theorem dX0_write_0 : decode cX0_write 0 = .ok (.aload_n 0, 1) := by decide +kernel
theorem dX0_write_1 : decode cX0_write 1 = .ok (.getfield 23, 3) := by decide +kernel
theorem dX0_write_4 : decode cX0_write 4 = .ok (.iload_n 1, 1) := by decide +kernel
theorem dX0_write_5 : decode cX0_write 5 = .ok (.invokevirtual 33, 3) := by decide +kernel
theorem dX0_write_8 : decode cX0_write 8 = .ok (.ifCond .eq 32, 3) := by decide +kernel
theorem dX0_write_11 : decode cX0_write 11 = .ok (.aload_n 0, 1) := by decide +kernel
theorem dX0_write_12 : decode cX0_write 12 = .ok (.getfield 23, 3) := by decide +kernel
theorem dX0_write_15 : decode cX0_write 15 = .ok (.iload_n 2, 1) := by decide +kernel
theorem dX0_write_16 : decode cX0_write 16 = .ok (.invokevirtual 33, 3) := by decide +kernel
theorem dX0_write_19 : decode cX0_write 19 = .ok (.ifCond .eq 21, 3) := by decide +kernel
theorem dX0_write_22 : decode cX0_write 22 = .ok (.aload_n 0, 1) := by decide +kernel
theorem dX0_write_23 : decode cX0_write 23 = .ok (.getfield 11, 3) := by decide +kernel
theorem dX0_write_26 : decode cX0_write 26 = .ok (.iload_n 1, 1) := by decide +kernel
theorem dX0_write_27 : decode cX0_write 27 = .ok (.aaload, 1) := by decide +kernel
theorem dX0_write_28 : decode cX0_write 28 = .ok (.iload_n 2, 1) := by decide +kernel
theorem dX0_write_29 : decode cX0_write 29 = .ok (.iload_n 3, 1) := by decide +kernel
theorem dX0_write_30 : decode cX0_write 30 = .ok (.iastore, 1) := by decide +kernel
theorem dX0_write_31 : decode cX0_write 31 = .ok (.aload_n 0, 1) := by decide +kernel
theorem dX0_write_32 : decode cX0_write 32 = .ok (.getfield 11, 3) := by decide +kernel
theorem dX0_write_35 : decode cX0_write 35 = .ok (.iload_n 2, 1) := by decide +kernel
theorem dX0_write_36 : decode cX0_write 36 = .ok (.aaload, 1) := by decide +kernel
theorem dX0_write_37 : decode cX0_write 37 = .ok (.iload_n 1, 1) := by decide +kernel
theorem dX0_write_38 : decode cX0_write 38 = .ok (.iload_n 3, 1) := by decide +kernel
theorem dX0_write_39 : decode cX0_write 39 = .ok (.iastore, 1) := by decide +kernel
theorem dX0_write_40 : decode cX0_write 40 = .ok (.return_, 1) := by decide +kernel
theorem dX0_countNeighbours_0 : decode cX0_countNeighbours 0 = .ok (.iconst 0, 1) := by decide +kernel
theorem dX0_countNeighbours_1 : decode cX0_countNeighbours 1 = .ok (.istore_n 2, 1) := by decide +kernel
theorem dX0_countNeighbours_2 : decode cX0_countNeighbours 2 = .ok (.iconst 0, 1) := by decide +kernel
theorem dX0_countNeighbours_3 : decode cX0_countNeighbours 3 = .ok (.istore_n 3, 1) := by decide +kernel
theorem dX0_countNeighbours_4 : decode cX0_countNeighbours 4 = .ok (.iload_n 3, 1) := by decide +kernel
theorem dX0_countNeighbours_5 : decode cX0_countNeighbours 5 = .ok (.aload_n 0, 1) := by decide +kernel
theorem dX0_countNeighbours_6 : decode cX0_countNeighbours 6 = .ok (.getfield 23, 3) := by decide +kernel
theorem dX0_countNeighbours_9 : decode cX0_countNeighbours 9 = .ok (.invokevirtual 60, 3) := by decide +kernel
theorem dX0_countNeighbours_12 : decode cX0_countNeighbours 12 = .ok (.if_icmp .ge 22, 3) := by decide +kernel
theorem dX0_countNeighbours_15 : decode cX0_countNeighbours 15 = .ok (.aload_n 0, 1) := by decide +kernel
theorem dX0_countNeighbours_16 : decode cX0_countNeighbours 16 = .ok (.iload_n 1, 1) := by decide +kernel
theorem dX0_countNeighbours_17 : decode cX0_countNeighbours 17 = .ok (.iload_n 3, 1) := by decide +kernel
theorem dX0_countNeighbours_18 : decode cX0_countNeighbours 18 = .ok (.invokevirtual 49, 3) := by decide +kernel
theorem dX0_countNeighbours_21 : decode cX0_countNeighbours 21 = .ok (.iconst (-1), 1) := by decide +kernel
theorem dX0_countNeighbours_22 : decode cX0_countNeighbours 22 = .ok (.if_icmp .eq 6, 3) := by decide +kernel
theorem dX0_countNeighbours_25 : decode cX0_countNeighbours 25 = .ok (.iinc 2 1, 3) := by decide +kernel
theorem dX0_countNeighbours_28 : decode cX0_countNeighbours 28 = .ok (.iinc 3 1, 3) := by decide +kernel
theorem dX0_countNeighbours_31 : decode cX0_countNeighbours 31 = .ok (.goto (-27), 3) := by decide +kernel
theorem dX0_countNeighbours_34 : decode cX0_countNeighbours 34 = .ok (.iload_n 2, 1) := by decide +kernel
theorem dX0_countNeighbours_35 : decode cX0_countNeighbours 35 = .ok (.ireturn, 1) := by decide +kernel
theorem dX0_neighbourAt_0 : decode cX0_neighbourAt 0 = .ok (.iconst 0, 1) := by decide +kernel
theorem dX0_neighbourAt_1 : decode cX0_neighbourAt 1 = .ok (.istore_n 3, 1) := by decide +kernel
theorem dX0_neighbourAt_2 : decode cX0_neighbourAt 2 = .ok (.iconst 0, 1) := by decide +kernel
theorem dX0_neighbourAt_3 : decode cX0_neighbourAt 3 = .ok (.istore 4, 2) := by decide +kernel
theorem dX0_neighbourAt_5 : decode cX0_neighbourAt 5 = .ok (.iload 4, 2) := by decide +kernel
theorem dX0_neighbourAt_7 : decode cX0_neighbourAt 7 = .ok (.aload_n 0, 1) := by decide +kernel
theorem dX0_neighbourAt_8 : decode cX0_neighbourAt 8 = .ok (.getfield 23, 3) := by decide +kernel
theorem dX0_neighbourAt_11 : decode cX0_neighbourAt 11 = .ok (.invokevirtual 60, 3) := by decide +kernel
theorem dX0_neighbourAt_14 : decode cX0_neighbourAt 14 = .ok (.if_icmp .ge 31, 3) := by decide +kernel
theorem dX0_neighbourAt_17 : decode cX0_neighbourAt 17 = .ok (.aload_n 0, 1) := by decide +kernel
theorem dX0_neighbourAt_18 : decode cX0_neighbourAt 18 = .ok (.iload_n 1, 1) := by decide +kernel
theorem dX0_neighbourAt_19 : decode cX0_neighbourAt 19 = .ok (.iload 4, 2) := by decide +kernel
theorem dX0_neighbourAt_21 : decode cX0_neighbourAt 21 = .ok (.invokevirtual 49, 3) := by decide +kernel
theorem dX0_neighbourAt_24 : decode cX0_neighbourAt 24 = .ok (.iconst (-1), 1) := by decide +kernel
theorem dX0_neighbourAt_25 : decode cX0_neighbourAt 25 = .ok (.if_icmp .eq 14, 3) := by decide +kernel
theorem dX0_neighbourAt_28 : decode cX0_neighbourAt 28 = .ok (.iload_n 3, 1) := by decide +kernel
theorem dX0_neighbourAt_29 : decode cX0_neighbourAt 29 = .ok (.iload_n 2, 1) := by decide +kernel
theorem dX0_neighbourAt_30 : decode cX0_neighbourAt 30 = .ok (.if_icmp .ne 6, 3) := by decide +kernel
theorem dX0_neighbourAt_33 : decode cX0_neighbourAt 33 = .ok (.iload 4, 2) := by decide +kernel
theorem dX0_neighbourAt_35 : decode cX0_neighbourAt 35 = .ok (.ireturn, 1) := by decide +kernel
theorem dX0_neighbourAt_36 : decode cX0_neighbourAt 36 = .ok (.iinc 3 1, 3) := by decide +kernel
theorem dX0_neighbourAt_39 : decode cX0_neighbourAt 39 = .ok (.iinc 4 1, 3) := by decide +kernel
theorem dX0_neighbourAt_42 : decode cX0_neighbourAt 42 = .ok (.goto (-37), 3) := by decide +kernel
theorem dX0_neighbourAt_45 : decode cX0_neighbourAt 45 = .ok (.iconst (-1), 1) := by decide +kernel
theorem dX0_neighbourAt_46 : decode cX0_neighbourAt 46 = .ok (.ireturn, 1) := by decide +kernel
theorem dX1_init_0 : decode cX1_init 0 = .ok (.aload_n 0, 1) := by decide +kernel
theorem dX1_init_1 : decode cX1_init 1 = .ok (.invokespecial 3, 3) := by decide +kernel
theorem dX1_init_4 : decode cX1_init 4 = .ok (.aload_n 0, 1) := by decide +kernel
theorem dX1_init_5 : decode cX1_init 5 = .ok (.bipush 60, 2) := by decide +kernel
theorem dX1_init_7 : decode cX1_init 7 = .ok (.newarray .int, 2) := by decide +kernel
theorem dX1_init_9 : decode cX1_init 9 = .ok (.putfield 9, 3) := by decide +kernel
theorem dX1_init_12 : decode cX1_init 12 = .ok (.aload_n 0, 1) := by decide +kernel
theorem dX1_init_13 : decode cX1_init 13 = .ok (.bipush 20, 2) := by decide +kernel
theorem dX1_init_15 : decode cX1_init 15 = .ok (.newarray .int, 2) := by decide +kernel
theorem dX1_init_17 : decode cX1_init 17 = .ok (.putfield 15, 3) := by decide +kernel
theorem dX1_init_20 : decode cX1_init 20 = .ok (.aload_n 0, 1) := by decide +kernel
theorem dX1_init_21 : decode cX1_init 21 = .ok (.bipush 60, 2) := by decide +kernel
theorem dX1_init_23 : decode cX1_init 23 = .ok (.newarray .boolean, 2) := by decide +kernel
theorem dX1_init_25 : decode cX1_init 25 = .ok (.putfield 18, 3) := by decide +kernel
theorem dX1_init_28 : decode cX1_init 28 = .ok (.aload_n 0, 1) := by decide +kernel
theorem dX1_init_29 : decode cX1_init 29 = .ok (.iconst 0, 1) := by decide +kernel
theorem dX1_init_30 : decode cX1_init 30 = .ok (.putfield 22, 3) := by decide +kernel
theorem dX1_init_33 : decode cX1_init 33 = .ok (.aload_n 0, 1) := by decide +kernel
theorem dX1_init_34 : decode cX1_init 34 = .ok (.iconst 0, 1) := by decide +kernel
theorem dX1_init_35 : decode cX1_init 35 = .ok (.putfield 26, 3) := by decide +kernel
theorem dX1_init_38 : decode cX1_init 38 = .ok (.aload_n 0, 1) := by decide +kernel
theorem dX1_init_39 : decode cX1_init 39 = .ok (.aload_n 1, 1) := by decide +kernel
theorem dX1_init_40 : decode cX1_init 40 = .ok (.putfield 29, 3) := by decide +kernel
theorem dX1_init_43 : decode cX1_init 43 = .ok (.return_, 1) := by decide +kernel
theorem dX1_weightSum_0 : decode cX1_weightSum 0 = .ok (.aload_n 0, 1) := by decide +kernel
theorem dX1_weightSum_1 : decode cX1_weightSum 1 = .ok (.getfield 26, 3) := by decide +kernel
theorem dX1_weightSum_4 : decode cX1_weightSum 4 = .ok (.ireturn, 1) := by decide +kernel
theorem dX1_build_0 : decode cX1_build 0 = .ok (.aload_n 0, 1) := by decide +kernel
theorem dX1_build_1 : decode cX1_build 1 = .ok (.invokevirtual 33, 3) := by decide +kernel
theorem dX1_build_4 : decode cX1_build 4 = .ok (.aload_n 0, 1) := by decide +kernel
theorem dX1_build_5 : decode cX1_build 5 = .ok (.iload_n 1, 1) := by decide +kernel
theorem dX1_build_6 : decode cX1_build 6 = .ok (.invokevirtual 36, 3) := by decide +kernel
theorem dX1_build_9 : decode cX1_build 9 = .ok (.iconst 0, 1) := by decide +kernel
theorem dX1_build_10 : decode cX1_build 10 = .ok (.istore_n 2, 1) := by decide +kernel
theorem dX1_build_11 : decode cX1_build 11 = .ok (.iload_n 2, 1) := by decide +kernel
theorem dX1_build_12 : decode cX1_build 12 = .ok (.aload_n 0, 1) := by decide +kernel
theorem dX1_build_13 : decode cX1_build 13 = .ok (.getfield 22, 3) := by decide +kernel
theorem dX1_build_16 : decode cX1_build 16 = .ok (.if_icmp .ge 25, 3) := by decide +kernel
theorem dX1_build_19 : decode cX1_build 19 = .ok (.iload_n 2, 1) := by decide +kernel
theorem dX1_build_20 : decode cX1_build 20 = .ok (.bipush 60, 2) := by decide +kernel
theorem dX1_build_22 : decode cX1_build 22 = .ok (.if_icmp .ge 19, 3) := by decide +kernel
theorem dX1_build_25 : decode cX1_build 25 = .ok (.aload_n 0, 1) := by decide +kernel
theorem dX1_build_26 : decode cX1_build 26 = .ok (.aload_n 0, 1) := by decide +kernel
theorem dX1_build_27 : decode cX1_build 27 = .ok (.getfield 9, 3) := by decide +kernel
theorem dX1_build_30 : decode cX1_build 30 = .ok (.iload_n 2, 1) := by decide +kernel
theorem dX1_build_31 : decode cX1_build 31 = .ok (.iaload, 1) := by decide +kernel
theorem dX1_build_32 : decode cX1_build 32 = .ok (.invokevirtual 40, 3) := by decide +kernel
theorem dX1_build_35 : decode cX1_build 35 = .ok (.iinc 2 1, 3) := by decide +kernel
theorem dX1_build_38 : decode cX1_build 38 = .ok (.goto (-27), 3) := by decide +kernel
theorem dX1_build_41 : decode cX1_build 41 = .ok (.return_, 1) := by decide +kernel
theorem dX1_clear_0 : decode cX1_clear 0 = .ok (.aload_n 0, 1) := by decide +kernel
theorem dX1_clear_1 : decode cX1_clear 1 = .ok (.iconst 0, 1) := by decide +kernel
theorem dX1_clear_2 : decode cX1_clear 2 = .ok (.putfield 22, 3) := by decide +kernel
theorem dX1_clear_5 : decode cX1_clear 5 = .ok (.aload_n 0, 1) := by decide +kernel
theorem dX1_clear_6 : decode cX1_clear 6 = .ok (.iconst 0, 1) := by decide +kernel
theorem dX1_clear_7 : decode cX1_clear 7 = .ok (.putfield 26, 3) := by decide +kernel
theorem dX1_clear_10 : decode cX1_clear 10 = .ok (.iconst 0, 1) := by decide +kernel
theorem dX1_clear_11 : decode cX1_clear 11 = .ok (.istore_n 1, 1) := by decide +kernel
theorem dX1_clear_12 : decode cX1_clear 12 = .ok (.iload_n 1, 1) := by decide +kernel
theorem dX1_clear_13 : decode cX1_clear 13 = .ok (.bipush 20, 2) := by decide +kernel
theorem dX1_clear_15 : decode cX1_clear 15 = .ok (.if_icmp .ge 16, 3) := by decide +kernel
theorem dX1_clear_18 : decode cX1_clear 18 = .ok (.aload_n 0, 1) := by decide +kernel
theorem dX1_clear_19 : decode cX1_clear 19 = .ok (.getfield 15, 3) := by decide +kernel
theorem dX1_clear_22 : decode cX1_clear 22 = .ok (.iload_n 1, 1) := by decide +kernel
theorem dX1_clear_23 : decode cX1_clear 23 = .ok (.iload_n 1, 1) := by decide +kernel
theorem dX1_clear_24 : decode cX1_clear 24 = .ok (.iastore, 1) := by decide +kernel
theorem dX1_clear_25 : decode cX1_clear 25 = .ok (.iinc 1 1, 3) := by decide +kernel
theorem dX1_clear_28 : decode cX1_clear 28 = .ok (.goto (-16), 3) := by decide +kernel
theorem dX1_clear_31 : decode cX1_clear 31 = .ok (.iconst 0, 1) := by decide +kernel
theorem dX1_clear_32 : decode cX1_clear 32 = .ok (.istore_n 1, 1) := by decide +kernel
theorem dX1_clear_33 : decode cX1_clear 33 = .ok (.iload_n 1, 1) := by decide +kernel
theorem dX1_clear_34 : decode cX1_clear 34 = .ok (.bipush 60, 2) := by decide +kernel
theorem dX1_clear_36 : decode cX1_clear 36 = .ok (.if_icmp .ge 16, 3) := by decide +kernel
theorem dX1_clear_39 : decode cX1_clear 39 = .ok (.aload_n 0, 1) := by decide +kernel
theorem dX1_clear_40 : decode cX1_clear 40 = .ok (.getfield 18, 3) := by decide +kernel
theorem dX1_clear_43 : decode cX1_clear 43 = .ok (.iload_n 1, 1) := by decide +kernel
theorem dX1_clear_44 : decode cX1_clear 44 = .ok (.iconst 0, 1) := by decide +kernel
theorem dX1_clear_45 : decode cX1_clear 45 = .ok (.bastore, 1) := by decide +kernel
theorem dX1_clear_46 : decode cX1_clear 46 = .ok (.iinc 1 1, 3) := by decide +kernel
theorem dX1_clear_49 : decode cX1_clear 49 = .ok (.goto (-16), 3) := by decide +kernel
theorem dX1_clear_52 : decode cX1_clear 52 = .ok (.return_, 1) := by decide +kernel
theorem dX1_sortPresentBut_0 : decode cX1_sortPresentBut 0 = .ok (.iconst 0, 1) := by decide +kernel
theorem dX1_sortPresentBut_1 : decode cX1_sortPresentBut 1 = .ok (.istore_n 2, 1) := by decide +kernel
theorem dX1_sortPresentBut_2 : decode cX1_sortPresentBut 2 = .ok (.iload_n 2, 1) := by decide +kernel
theorem dX1_sortPresentBut_3 : decode cX1_sortPresentBut 3 = .ok (.aload_n 0, 1) := by decide +kernel
theorem dX1_sortPresentBut_4 : decode cX1_sortPresentBut 4 = .ok (.getfield 29, 3) := by decide +kernel
theorem dX1_sortPresentBut_7 : decode cX1_sortPresentBut 7 = .ok (.invokevirtual 43, 3) := by decide +kernel
theorem dX1_sortPresentBut_10 : decode cX1_sortPresentBut 10 = .ok (.if_icmp .ge 30, 3) := by decide +kernel
theorem dX1_sortPresentBut_13 : decode cX1_sortPresentBut 13 = .ok (.iload_n 2, 1) := by decide +kernel
theorem dX1_sortPresentBut_14 : decode cX1_sortPresentBut 14 = .ok (.iload_n 1, 1) := by decide +kernel
theorem dX1_sortPresentBut_15 : decode cX1_sortPresentBut 15 = .ok (.if_icmp .eq 19, 3) := by decide +kernel
theorem dX1_sortPresentBut_18 : decode cX1_sortPresentBut 18 = .ok (.aload_n 0, 1) := by decide +kernel
theorem dX1_sortPresentBut_19 : decode cX1_sortPresentBut 19 = .ok (.getfield 29, 3) := by decide +kernel
theorem dX1_sortPresentBut_22 : decode cX1_sortPresentBut 22 = .ok (.iload_n 2, 1) := by decide +kernel
theorem dX1_sortPresentBut_23 : decode cX1_sortPresentBut 23 = .ok (.invokevirtual 49, 3) := by decide +kernel
theorem dX1_sortPresentBut_26 : decode cX1_sortPresentBut 26 = .ok (.ifCond .eq 8, 3) := by decide +kernel
theorem dX1_sortPresentBut_29 : decode cX1_sortPresentBut 29 = .ok (.aload_n 0, 1) := by decide +kernel
theorem dX1_sortPresentBut_30 : decode cX1_sortPresentBut 30 = .ok (.iload_n 2, 1) := by decide +kernel
theorem dX1_sortPresentBut_31 : decode cX1_sortPresentBut 31 = .ok (.invokevirtual 53, 3) := by decide +kernel
theorem dX1_sortPresentBut_34 : decode cX1_sortPresentBut 34 = .ok (.iinc 2 1, 3) := by decide +kernel
theorem dX1_sortPresentBut_37 : decode cX1_sortPresentBut 37 = .ok (.goto (-35), 3) := by decide +kernel
theorem dX1_sortPresentBut_40 : decode cX1_sortPresentBut 40 = .ok (.return_, 1) := by decide +kernel
theorem dX1_insert_0 : decode cX1_insert 0 = .ok (.aload_n 0, 1) := by decide +kernel
theorem dX1_insert_1 : decode cX1_insert 1 = .ok (.getfield 22, 3) := by decide +kernel
theorem dX1_insert_4 : decode cX1_insert 4 = .ok (.bipush 60, 2) := by decide +kernel
theorem dX1_insert_6 : decode cX1_insert 6 = .ok (.if_icmp .lt 4, 3) := by decide +kernel
theorem dX1_insert_9 : decode cX1_insert 9 = .ok (.return_, 1) := by decide +kernel
theorem dX1_insert_10 : decode cX1_insert 10 = .ok (.aload_n 0, 1) := by decide +kernel
theorem dX1_insert_11 : decode cX1_insert 11 = .ok (.getfield 22, 3) := by decide +kernel
theorem dX1_insert_14 : decode cX1_insert 14 = .ok (.istore_n 2, 1) := by decide +kernel
theorem dX1_insert_15 : decode cX1_insert 15 = .ok (.iload_n 2, 1) := by decide +kernel
theorem dX1_insert_16 : decode cX1_insert 16 = .ok (.ifCond .le 42, 3) := by decide +kernel
theorem dX1_insert_19 : decode cX1_insert 19 = .ok (.aload_n 0, 1) := by decide +kernel
theorem dX1_insert_20 : decode cX1_insert 20 = .ok (.getfield 29, 3) := by decide +kernel
theorem dX1_insert_23 : decode cX1_insert 23 = .ok (.iload_n 1, 1) := by decide +kernel
theorem dX1_insert_24 : decode cX1_insert 24 = .ok (.aload_n 0, 1) := by decide +kernel
theorem dX1_insert_25 : decode cX1_insert 25 = .ok (.getfield 9, 3) := by decide +kernel
theorem dX1_insert_28 : decode cX1_insert 28 = .ok (.iload_n 2, 1) := by decide +kernel
theorem dX1_insert_29 : decode cX1_insert 29 = .ok (.iconst 1, 1) := by decide +kernel
theorem dX1_insert_30 : decode cX1_insert 30 = .ok (.isub, 1) := by decide +kernel
theorem dX1_insert_31 : decode cX1_insert 31 = .ok (.iaload, 1) := by decide +kernel
theorem dX1_insert_32 : decode cX1_insert 32 = .ok (.invokevirtual 56, 3) := by decide +kernel
theorem dX1_insert_35 : decode cX1_insert 35 = .ok (.ifCond .eq 23, 3) := by decide +kernel
theorem dX1_insert_38 : decode cX1_insert 38 = .ok (.aload_n 0, 1) := by decide +kernel
theorem dX1_insert_39 : decode cX1_insert 39 = .ok (.getfield 9, 3) := by decide +kernel
theorem dX1_insert_42 : decode cX1_insert 42 = .ok (.iload_n 2, 1) := by decide +kernel
theorem dX1_insert_43 : decode cX1_insert 43 = .ok (.aload_n 0, 1) := by decide +kernel
theorem dX1_insert_44 : decode cX1_insert 44 = .ok (.getfield 9, 3) := by decide +kernel
theorem dX1_insert_47 : decode cX1_insert 47 = .ok (.iload_n 2, 1) := by decide +kernel
theorem dX1_insert_48 : decode cX1_insert 48 = .ok (.iconst 1, 1) := by decide +kernel
theorem dX1_insert_49 : decode cX1_insert 49 = .ok (.isub, 1) := by decide +kernel
theorem dX1_insert_50 : decode cX1_insert 50 = .ok (.iaload, 1) := by decide +kernel
theorem dX1_insert_51 : decode cX1_insert 51 = .ok (.iastore, 1) := by decide +kernel
theorem dX1_insert_52 : decode cX1_insert 52 = .ok (.iinc 2 (-1), 3) := by decide +kernel
theorem dX1_insert_55 : decode cX1_insert 55 = .ok (.goto (-40), 3) := by decide +kernel
theorem dX1_insert_58 : decode cX1_insert 58 = .ok (.aload_n 0, 1) := by decide +kernel
theorem dX1_insert_59 : decode cX1_insert 59 = .ok (.getfield 9, 3) := by decide +kernel
theorem dX1_insert_62 : decode cX1_insert 62 = .ok (.iload_n 2, 1) := by decide +kernel
theorem dX1_insert_63 : decode cX1_insert 63 = .ok (.iload_n 1, 1) := by decide +kernel
theorem dX1_insert_64 : decode cX1_insert 64 = .ok (.iastore, 1) := by decide +kernel
theorem dX1_insert_65 : decode cX1_insert 65 = .ok (.aload_n 0, 1) := by decide +kernel
theorem dX1_insert_66 : decode cX1_insert 66 = .ok (.dup, 1) := by decide +kernel
theorem dX1_insert_67 : decode cX1_insert 67 = .ok (.getfield 22, 3) := by decide +kernel
theorem dX1_insert_70 : decode cX1_insert 70 = .ok (.iconst 1, 1) := by decide +kernel
theorem dX1_insert_71 : decode cX1_insert 71 = .ok (.iadd, 1) := by decide +kernel
theorem dX1_insert_72 : decode cX1_insert 72 = .ok (.putfield 22, 3) := by decide +kernel
theorem dX1_insert_75 : decode cX1_insert 75 = .ok (.return_, 1) := by decide +kernel
theorem dX1_chooseIfItJoins_0 : decode cX1_chooseIfItJoins 0 = .ok (.aload_n 0, 1) := by decide +kernel
theorem dX1_chooseIfItJoins_1 : decode cX1_chooseIfItJoins 1 = .ok (.aload_n 0, 1) := by decide +kernel
theorem dX1_chooseIfItJoins_2 : decode cX1_chooseIfItJoins 2 = .ok (.getfield 29, 3) := by decide +kernel
theorem dX1_chooseIfItJoins_5 : decode cX1_chooseIfItJoins 5 = .ok (.iload_n 1, 1) := by decide +kernel
theorem dX1_chooseIfItJoins_6 : decode cX1_chooseIfItJoins 6 = .ok (.invokevirtual 60, 3) := by decide +kernel
theorem dX1_chooseIfItJoins_9 : decode cX1_chooseIfItJoins 9 = .ok (.invokevirtual 64, 3) := by decide +kernel
theorem dX1_chooseIfItJoins_12 : decode cX1_chooseIfItJoins 12 = .ok (.istore_n 2, 1) := by decide +kernel
theorem dX1_chooseIfItJoins_13 : decode cX1_chooseIfItJoins 13 = .ok (.aload_n 0, 1) := by decide +kernel
theorem dX1_chooseIfItJoins_14 : decode cX1_chooseIfItJoins 14 = .ok (.aload_n 0, 1) := by decide +kernel
theorem dX1_chooseIfItJoins_15 : decode cX1_chooseIfItJoins 15 = .ok (.getfield 29, 3) := by decide +kernel
theorem dX1_chooseIfItJoins_18 : decode cX1_chooseIfItJoins 18 = .ok (.iload_n 1, 1) := by decide +kernel
theorem dX1_chooseIfItJoins_19 : decode cX1_chooseIfItJoins 19 = .ok (.invokevirtual 67, 3) := by decide +kernel
theorem dX1_chooseIfItJoins_22 : decode cX1_chooseIfItJoins 22 = .ok (.invokevirtual 64, 3) := by decide +kernel
theorem dX1_chooseIfItJoins_25 : decode cX1_chooseIfItJoins 25 = .ok (.istore_n 3, 1) := by decide +kernel
theorem dX1_chooseIfItJoins_26 : decode cX1_chooseIfItJoins 26 = .ok (.aload_n 0, 1) := by decide +kernel
theorem dX1_chooseIfItJoins_27 : decode cX1_chooseIfItJoins 27 = .ok (.getfield 29, 3) := by decide +kernel
theorem dX1_chooseIfItJoins_30 : decode cX1_chooseIfItJoins 30 = .ok (.iload_n 1, 1) := by decide +kernel
theorem dX1_chooseIfItJoins_31 : decode cX1_chooseIfItJoins 31 = .ok (.invokevirtual 70, 3) := by decide +kernel
theorem dX1_chooseIfItJoins_34 : decode cX1_chooseIfItJoins 34 = .ok (.ifCond .eq 8, 3) := by decide +kernel
theorem dX1_chooseIfItJoins_37 : decode cX1_chooseIfItJoins 37 = .ok (.iload_n 2, 1) := by decide +kernel
theorem dX1_chooseIfItJoins_38 : decode cX1_chooseIfItJoins 38 = .ok (.iload_n 3, 1) := by decide +kernel
theorem dX1_chooseIfItJoins_39 : decode cX1_chooseIfItJoins 39 = .ok (.if_icmp .ne 4, 3) := by decide +kernel
theorem dX1_chooseIfItJoins_42 : decode cX1_chooseIfItJoins 42 = .ok (.return_, 1) := by decide +kernel
theorem dX1_chooseIfItJoins_43 : decode cX1_chooseIfItJoins 43 = .ok (.aload_n 0, 1) := by decide +kernel
theorem dX1_chooseIfItJoins_44 : decode cX1_chooseIfItJoins 44 = .ok (.getfield 18, 3) := by decide +kernel
theorem dX1_chooseIfItJoins_47 : decode cX1_chooseIfItJoins 47 = .ok (.iload_n 1, 1) := by decide +kernel
theorem dX1_chooseIfItJoins_48 : decode cX1_chooseIfItJoins 48 = .ok (.iconst 1, 1) := by decide +kernel
theorem dX1_chooseIfItJoins_49 : decode cX1_chooseIfItJoins 49 = .ok (.bastore, 1) := by decide +kernel
theorem dX1_chooseIfItJoins_50 : decode cX1_chooseIfItJoins 50 = .ok (.aload_n 0, 1) := by decide +kernel
theorem dX1_chooseIfItJoins_51 : decode cX1_chooseIfItJoins 51 = .ok (.dup, 1) := by decide +kernel
theorem dX1_chooseIfItJoins_52 : decode cX1_chooseIfItJoins 52 = .ok (.getfield 26, 3) := by decide +kernel
theorem dX1_chooseIfItJoins_55 : decode cX1_chooseIfItJoins 55 = .ok (.aload_n 0, 1) := by decide +kernel
theorem dX1_chooseIfItJoins_56 : decode cX1_chooseIfItJoins 56 = .ok (.getfield 29, 3) := by decide +kernel
theorem dX1_chooseIfItJoins_59 : decode cX1_chooseIfItJoins 59 = .ok (.iload_n 1, 1) := by decide +kernel
theorem dX1_chooseIfItJoins_60 : decode cX1_chooseIfItJoins 60 = .ok (.invokevirtual 73, 3) := by decide +kernel
theorem dX1_chooseIfItJoins_63 : decode cX1_chooseIfItJoins 63 = .ok (.iadd, 1) := by decide +kernel
theorem dX1_chooseIfItJoins_64 : decode cX1_chooseIfItJoins 64 = .ok (.putfield 26, 3) := by decide +kernel
theorem dX1_chooseIfItJoins_67 : decode cX1_chooseIfItJoins 67 = .ok (.iconst 0, 1) := by decide +kernel
theorem dX1_chooseIfItJoins_68 : decode cX1_chooseIfItJoins 68 = .ok (.istore 4, 2) := by decide +kernel
theorem dX1_chooseIfItJoins_70 : decode cX1_chooseIfItJoins 70 = .ok (.iload 4, 2) := by decide +kernel
theorem dX1_chooseIfItJoins_72 : decode cX1_chooseIfItJoins 72 = .ok (.bipush 20, 2) := by decide +kernel
theorem dX1_chooseIfItJoins_74 : decode cX1_chooseIfItJoins 74 = .ok (.if_icmp .ge 28, 3) := by decide +kernel
theorem dX1_chooseIfItJoins_77 : decode cX1_chooseIfItJoins 77 = .ok (.aload_n 0, 1) := by decide +kernel
theorem dX1_chooseIfItJoins_78 : decode cX1_chooseIfItJoins 78 = .ok (.getfield 15, 3) := by decide +kernel
theorem dX1_chooseIfItJoins_81 : decode cX1_chooseIfItJoins 81 = .ok (.iload 4, 2) := by decide +kernel
theorem dX1_chooseIfItJoins_83 : decode cX1_chooseIfItJoins 83 = .ok (.iaload, 1) := by decide +kernel
theorem dX1_chooseIfItJoins_84 : decode cX1_chooseIfItJoins 84 = .ok (.iload_n 2, 1) := by decide +kernel
theorem dX1_chooseIfItJoins_85 : decode cX1_chooseIfItJoins 85 = .ok (.if_icmp .ne 11, 3) := by decide +kernel
theorem dX1_chooseIfItJoins_88 : decode cX1_chooseIfItJoins 88 = .ok (.aload_n 0, 1) := by decide +kernel
theorem dX1_chooseIfItJoins_89 : decode cX1_chooseIfItJoins 89 = .ok (.getfield 15, 3) := by decide +kernel
theorem dX1_chooseIfItJoins_92 : decode cX1_chooseIfItJoins 92 = .ok (.iload 4, 2) := by decide +kernel
theorem dX1_chooseIfItJoins_94 : decode cX1_chooseIfItJoins 94 = .ok (.iload_n 3, 1) := by decide +kernel
theorem dX1_chooseIfItJoins_95 : decode cX1_chooseIfItJoins 95 = .ok (.iastore, 1) := by decide +kernel
theorem dX1_chooseIfItJoins_96 : decode cX1_chooseIfItJoins 96 = .ok (.iinc 4 1, 3) := by decide +kernel
theorem dX1_chooseIfItJoins_99 : decode cX1_chooseIfItJoins 99 = .ok (.goto (-29), 3) := by decide +kernel
theorem dX1_chooseIfItJoins_102 : decode cX1_chooseIfItJoins 102 = .ok (.return_, 1) := by decide +kernel
theorem dX1_groupOf_0 : decode cX1_groupOf 0 = .ok (.aload_n 0, 1) := by decide +kernel
theorem dX1_groupOf_1 : decode cX1_groupOf 1 = .ok (.getfield 29, 3) := by decide +kernel
theorem dX1_groupOf_4 : decode cX1_groupOf 4 = .ok (.iload_n 1, 1) := by decide +kernel
theorem dX1_groupOf_5 : decode cX1_groupOf 5 = .ok (.invokevirtual 76, 3) := by decide +kernel
theorem dX1_groupOf_8 : decode cX1_groupOf 8 = .ok (.ifCond .eq 12, 3) := by decide +kernel
theorem dX1_groupOf_11 : decode cX1_groupOf 11 = .ok (.aload_n 0, 1) := by decide +kernel
theorem dX1_groupOf_12 : decode cX1_groupOf 12 = .ok (.getfield 15, 3) := by decide +kernel
theorem dX1_groupOf_15 : decode cX1_groupOf 15 = .ok (.iload_n 1, 1) := by decide +kernel
theorem dX1_groupOf_16 : decode cX1_groupOf 16 = .ok (.iaload, 1) := by decide +kernel
theorem dX1_groupOf_17 : decode cX1_groupOf 17 = .ok (.goto 4, 3) := by decide +kernel
theorem dX1_groupOf_20 : decode cX1_groupOf 20 = .ok (.iconst (-1), 1) := by decide +kernel
theorem dX1_groupOf_21 : decode cX1_groupOf 21 = .ok (.ireturn, 1) := by decide +kernel
theorem dX1_firstChosenOutside_0 : decode cX1_firstChosenOutside 0 = .ok (.iconst (-1), 1) := by decide +kernel
theorem dX1_firstChosenOutside_1 : decode cX1_firstChosenOutside 1 = .ok (.istore_n 2, 1) := by decide +kernel
theorem dX1_firstChosenOutside_2 : decode cX1_firstChosenOutside 2 = .ok (.iconst 0, 1) := by decide +kernel
theorem dX1_firstChosenOutside_3 : decode cX1_firstChosenOutside 3 = .ok (.istore_n 3, 1) := by decide +kernel
theorem dX1_firstChosenOutside_4 : decode cX1_firstChosenOutside 4 = .ok (.iload_n 3, 1) := by decide +kernel
theorem dX1_firstChosenOutside_5 : decode cX1_firstChosenOutside 5 = .ok (.bipush 60, 2) := by decide +kernel
theorem dX1_firstChosenOutside_7 : decode cX1_firstChosenOutside 7 = .ok (.if_icmp .ge 40, 3) := by decide +kernel
theorem dX1_firstChosenOutside_10 : decode cX1_firstChosenOutside 10 = .ok (.aload_n 0, 1) := by decide +kernel
theorem dX1_firstChosenOutside_11 : decode cX1_firstChosenOutside 11 = .ok (.getfield 18, 3) := by decide +kernel
theorem dX1_firstChosenOutside_14 : decode cX1_firstChosenOutside 14 = .ok (.iload_n 3, 1) := by decide +kernel
theorem dX1_firstChosenOutside_15 : decode cX1_firstChosenOutside 15 = .ok (.baload, 1) := by decide +kernel
theorem dX1_firstChosenOutside_16 : decode cX1_firstChosenOutside 16 = .ok (.ifCond .eq 25, 3) := by decide +kernel
theorem dX1_firstChosenOutside_19 : decode cX1_firstChosenOutside 19 = .ok (.aload_n 1, 1) := by decide +kernel
theorem dX1_firstChosenOutside_20 : decode cX1_firstChosenOutside 20 = .ok (.iload_n 3, 1) := by decide +kernel
theorem dX1_firstChosenOutside_21 : decode cX1_firstChosenOutside 21 = .ok (.invokevirtual 79, 3) := by decide +kernel
theorem dX1_firstChosenOutside_24 : decode cX1_firstChosenOutside 24 = .ok (.ifCond .ne 17, 3) := by decide +kernel
theorem dX1_firstChosenOutside_27 : decode cX1_firstChosenOutside 27 = .ok (.aload_n 0, 1) := by decide +kernel
theorem dX1_firstChosenOutside_28 : decode cX1_firstChosenOutside 28 = .ok (.getfield 29, 3) := by decide +kernel
theorem dX1_firstChosenOutside_31 : decode cX1_firstChosenOutside 31 = .ok (.iload_n 3, 1) := by decide +kernel
theorem dX1_firstChosenOutside_32 : decode cX1_firstChosenOutside 32 = .ok (.iload_n 2, 1) := by decide +kernel
theorem dX1_firstChosenOutside_33 : decode cX1_firstChosenOutside 33 = .ok (.invokevirtual 56, 3) := by decide +kernel
theorem dX1_firstChosenOutside_36 : decode cX1_firstChosenOutside 36 = .ok (.ifCond .eq 5, 3) := by decide +kernel
theorem dX1_firstChosenOutside_39 : decode cX1_firstChosenOutside 39 = .ok (.iload_n 3, 1) := by decide +kernel
theorem dX1_firstChosenOutside_40 : decode cX1_firstChosenOutside 40 = .ok (.istore_n 2, 1) := by decide +kernel
theorem dX1_firstChosenOutside_41 : decode cX1_firstChosenOutside 41 = .ok (.iinc 3 1, 3) := by decide +kernel
theorem dX1_firstChosenOutside_44 : decode cX1_firstChosenOutside 44 = .ok (.goto (-40), 3) := by decide +kernel
theorem dX1_firstChosenOutside_47 : decode cX1_firstChosenOutside 47 = .ok (.iload_n 2, 1) := by decide +kernel
theorem dX1_firstChosenOutside_48 : decode cX1_firstChosenOutside 48 = .ok (.ireturn, 1) := by decide +kernel
theorem dX2_init_0 : decode cX2_init 0 = .ok (.aload_n 0, 1) := by decide +kernel
theorem dX2_init_1 : decode cX2_init 1 = .ok (.invokespecial 3, 3) := by decide +kernel
theorem dX2_init_4 : decode cX2_init 4 = .ok (.aload_n 0, 1) := by decide +kernel
theorem dX2_init_5 : decode cX2_init 5 = .ok (.aload_n 1, 1) := by decide +kernel
theorem dX2_init_6 : decode cX2_init 6 = .ok (.putfield 9, 3) := by decide +kernel
theorem dX2_init_9 : decode cX2_init 9 = .ok (.aload_n 0, 1) := by decide +kernel
theorem dX2_init_10 : decode cX2_init 10 = .ok (.aload_n 2, 1) := by decide +kernel
theorem dX2_init_11 : decode cX2_init 11 = .ok (.putfield 15, 3) := by decide +kernel
theorem dX2_init_14 : decode cX2_init 14 = .ok (.aload_n 0, 1) := by decide +kernel
theorem dX2_init_15 : decode cX2_init 15 = .ok (.aload_n 3, 1) := by decide +kernel
theorem dX2_init_16 : decode cX2_init 16 = .ok (.putfield 19, 3) := by decide +kernel
theorem dX2_init_19 : decode cX2_init 19 = .ok (.return_, 1) := by decide +kernel
theorem dX2_admit_0 : decode cX2_admit 0 = .ok (.aload_n 0, 1) := by decide +kernel
theorem dX2_admit_1 : decode cX2_admit 1 = .ok (.getfield 19, 3) := by decide +kernel
theorem dX2_admit_4 : decode cX2_admit 4 = .ok (.aload_n 0, 1) := by decide +kernel
theorem dX2_admit_5 : decode cX2_admit 5 = .ok (.getfield 9, 3) := by decide +kernel
theorem dX2_admit_8 : decode cX2_admit 8 = .ok (.iload_n 1, 1) := by decide +kernel
theorem dX2_admit_9 : decode cX2_admit 9 = .ok (.invokevirtual 23, 3) := by decide +kernel
theorem dX2_admit_12 : decode cX2_admit 12 = .ok (.iconst (-1), 1) := by decide +kernel
theorem dX2_admit_13 : decode cX2_admit 13 = .ok (.invokevirtual 29, 3) := by decide +kernel
theorem dX2_admit_16 : decode cX2_admit 16 = .ok (.aload_n 0, 1) := by decide +kernel
theorem dX2_admit_17 : decode cX2_admit 17 = .ok (.getfield 19, 3) := by decide +kernel
theorem dX2_admit_20 : decode cX2_admit 20 = .ok (.aload_n 0, 1) := by decide +kernel
theorem dX2_admit_21 : decode cX2_admit 21 = .ok (.getfield 9, 3) := by decide +kernel
theorem dX2_admit_24 : decode cX2_admit 24 = .ok (.iload_n 1, 1) := by decide +kernel
theorem dX2_admit_25 : decode cX2_admit 25 = .ok (.invokevirtual 35, 3) := by decide +kernel
theorem dX2_admit_28 : decode cX2_admit 28 = .ok (.invokevirtual 38, 3) := by decide +kernel
theorem dX2_admit_31 : decode cX2_admit 31 = .ok (.ifCond .ne 12, 3) := by decide +kernel
theorem dX2_admit_34 : decode cX2_admit 34 = .ok (.aload_n 0, 1) := by decide +kernel
theorem dX2_admit_35 : decode cX2_admit 35 = .ok (.getfield 15, 3) := by decide +kernel
theorem dX2_admit_38 : decode cX2_admit 38 = .ok (.iload_n 1, 1) := by decide +kernel
theorem dX2_admit_39 : decode cX2_admit 39 = .ok (.invokevirtual 42, 3) := by decide +kernel
theorem dX2_admit_42 : decode cX2_admit 42 = .ok (.return_, 1) := by decide +kernel
theorem dX2_admit_43 : decode cX2_admit 43 = .ok (.aload_n 0, 1) := by decide +kernel
theorem dX2_admit_44 : decode cX2_admit 44 = .ok (.getfield 19, 3) := by decide +kernel
theorem dX2_admit_47 : decode cX2_admit 47 = .ok (.aload_n 0, 1) := by decide +kernel
theorem dX2_admit_48 : decode cX2_admit 48 = .ok (.getfield 9, 3) := by decide +kernel
theorem dX2_admit_51 : decode cX2_admit 51 = .ok (.iload_n 1, 1) := by decide +kernel
theorem dX2_admit_52 : decode cX2_admit 52 = .ok (.invokevirtual 35, 3) := by decide +kernel
theorem dX2_admit_55 : decode cX2_admit 55 = .ok (.invokevirtual 48, 3) := by decide +kernel
theorem dX2_admit_58 : decode cX2_admit 58 = .ok (.istore_n 2, 1) := by decide +kernel
theorem dX2_admit_59 : decode cX2_admit 59 = .ok (.iload_n 2, 1) := by decide +kernel
theorem dX2_admit_60 : decode cX2_admit 60 = .ok (.iconst (-1), 1) := by decide +kernel
theorem dX2_admit_61 : decode cX2_admit 61 = .ok (.if_icmp .eq 31, 3) := by decide +kernel
theorem dX2_admit_64 : decode cX2_admit 64 = .ok (.aload_n 0, 1) := by decide +kernel
theorem dX2_admit_65 : decode cX2_admit 65 = .ok (.getfield 9, 3) := by decide +kernel
theorem dX2_admit_68 : decode cX2_admit 68 = .ok (.iload_n 1, 1) := by decide +kernel
theorem dX2_admit_69 : decode cX2_admit 69 = .ok (.iload_n 2, 1) := by decide +kernel
theorem dX2_admit_70 : decode cX2_admit 70 = .ok (.invokevirtual 51, 3) := by decide +kernel
theorem dX2_admit_73 : decode cX2_admit 73 = .ok (.ifCond .eq 19, 3) := by decide +kernel
theorem dX2_admit_76 : decode cX2_admit 76 = .ok (.aload_n 0, 1) := by decide +kernel
theorem dX2_admit_77 : decode cX2_admit 77 = .ok (.getfield 15, 3) := by decide +kernel
theorem dX2_admit_80 : decode cX2_admit 80 = .ok (.iload_n 2, 1) := by decide +kernel
theorem dX2_admit_81 : decode cX2_admit 81 = .ok (.invokevirtual 55, 3) := by decide +kernel
theorem dX2_admit_84 : decode cX2_admit 84 = .ok (.aload_n 0, 1) := by decide +kernel
theorem dX2_admit_85 : decode cX2_admit 85 = .ok (.getfield 15, 3) := by decide +kernel
theorem dX2_admit_88 : decode cX2_admit 88 = .ok (.iload_n 1, 1) := by decide +kernel
theorem dX2_admit_89 : decode cX2_admit 89 = .ok (.invokevirtual 42, 3) := by decide +kernel
theorem dX2_admit_92 : decode cX2_admit 92 = .ok (.return_, 1) := by decide +kernel
theorem dX2_release_0 : decode cX2_release 0 = .ok (.aload_n 0, 1) := by decide +kernel
theorem dX2_release_1 : decode cX2_release 1 = .ok (.getfield 15, 3) := by decide +kernel
theorem dX2_release_4 : decode cX2_release 4 = .ok (.iload_n 1, 1) := by decide +kernel
theorem dX2_release_5 : decode cX2_release 5 = .ok (.invokevirtual 58, 3) := by decide +kernel
theorem dX2_release_8 : decode cX2_release 8 = .ok (.ifCond .ne 13, 3) := by decide +kernel
theorem dX2_release_11 : decode cX2_release 11 = .ok (.aload_n 0, 1) := by decide +kernel
theorem dX2_release_12 : decode cX2_release 12 = .ok (.getfield 9, 3) := by decide +kernel
theorem dX2_release_15 : decode cX2_release 15 = .ok (.iload_n 1, 1) := by decide +kernel
theorem dX2_release_16 : decode cX2_release 16 = .ok (.invokevirtual 59, 3) := by decide +kernel
theorem dX2_release_19 : decode cX2_release 19 = .ok (.iconst (-1), 1) := by decide +kernel
theorem dX2_release_20 : decode cX2_release 20 = .ok (.ireturn, 1) := by decide +kernel
theorem dX2_release_21 : decode cX2_release 21 = .ok (.aload_n 0, 1) := by decide +kernel
theorem dX2_release_22 : decode cX2_release 22 = .ok (.iload_n 1, 1) := by decide +kernel
theorem dX2_release_23 : decode cX2_release 23 = .ok (.invokevirtual 62, 3) := by decide +kernel
theorem dX2_release_26 : decode cX2_release 26 = .ok (.istore_n 2, 1) := by decide +kernel
theorem dX2_release_27 : decode cX2_release 27 = .ok (.aload_n 0, 1) := by decide +kernel
theorem dX2_release_28 : decode cX2_release 28 = .ok (.getfield 15, 3) := by decide +kernel
theorem dX2_release_31 : decode cX2_release 31 = .ok (.iload_n 1, 1) := by decide +kernel
theorem dX2_release_32 : decode cX2_release 32 = .ok (.invokevirtual 55, 3) := by decide +kernel
theorem dX2_release_35 : decode cX2_release 35 = .ok (.aload_n 0, 1) := by decide +kernel
theorem dX2_release_36 : decode cX2_release 36 = .ok (.getfield 9, 3) := by decide +kernel
theorem dX2_release_39 : decode cX2_release 39 = .ok (.iload_n 1, 1) := by decide +kernel
theorem dX2_release_40 : decode cX2_release 40 = .ok (.invokevirtual 59, 3) := by decide +kernel
theorem dX2_release_43 : decode cX2_release 43 = .ok (.iload_n 2, 1) := by decide +kernel
theorem dX2_release_44 : decode cX2_release 44 = .ok (.iconst (-1), 1) := by decide +kernel
theorem dX2_release_45 : decode cX2_release 45 = .ok (.if_icmp .eq 11, 3) := by decide +kernel
theorem dX2_release_48 : decode cX2_release 48 = .ok (.aload_n 0, 1) := by decide +kernel
theorem dX2_release_49 : decode cX2_release 49 = .ok (.getfield 15, 3) := by decide +kernel
theorem dX2_release_52 : decode cX2_release 52 = .ok (.iload_n 2, 1) := by decide +kernel
theorem dX2_release_53 : decode cX2_release 53 = .ok (.invokevirtual 42, 3) := by decide +kernel
theorem dX2_release_56 : decode cX2_release 56 = .ok (.iload_n 2, 1) := by decide +kernel
theorem dX2_release_57 : decode cX2_release 57 = .ok (.ireturn, 1) := by decide +kernel
theorem dX2_reweigh_0 : decode cX2_reweigh 0 = .ok (.aload_n 0, 1) := by decide +kernel
theorem dX2_reweigh_1 : decode cX2_reweigh 1 = .ok (.getfield 15, 3) := by decide +kernel
theorem dX2_reweigh_4 : decode cX2_reweigh 4 = .ok (.iload_n 1, 1) := by decide +kernel
theorem dX2_reweigh_5 : decode cX2_reweigh 5 = .ok (.invokevirtual 58, 3) := by decide +kernel
theorem dX2_reweigh_8 : decode cX2_reweigh 8 = .ok (.ifCond .ne 18, 3) := by decide +kernel
theorem dX2_reweigh_11 : decode cX2_reweigh 11 = .ok (.aload_n 0, 1) := by decide +kernel
theorem dX2_reweigh_12 : decode cX2_reweigh 12 = .ok (.getfield 9, 3) := by decide +kernel
theorem dX2_reweigh_15 : decode cX2_reweigh 15 = .ok (.iload_n 1, 1) := by decide +kernel
theorem dX2_reweigh_16 : decode cX2_reweigh 16 = .ok (.iload_n 2, 1) := by decide +kernel
theorem dX2_reweigh_17 : decode cX2_reweigh 17 = .ok (.invokevirtual 65, 3) := by decide +kernel
theorem dX2_reweigh_20 : decode cX2_reweigh 20 = .ok (.aload_n 0, 1) := by decide +kernel
theorem dX2_reweigh_21 : decode cX2_reweigh 21 = .ok (.iload_n 1, 1) := by decide +kernel
theorem dX2_reweigh_22 : decode cX2_reweigh 22 = .ok (.invokevirtual 68, 3) := by decide +kernel
theorem dX2_reweigh_25 : decode cX2_reweigh 25 = .ok (.return_, 1) := by decide +kernel
theorem dX2_reweigh_26 : decode cX2_reweigh 26 = .ok (.aload_n 0, 1) := by decide +kernel
theorem dX2_reweigh_27 : decode cX2_reweigh 27 = .ok (.iload_n 1, 1) := by decide +kernel
theorem dX2_reweigh_28 : decode cX2_reweigh 28 = .ok (.invokevirtual 62, 3) := by decide +kernel
theorem dX2_reweigh_31 : decode cX2_reweigh 31 = .ok (.istore_n 3, 1) := by decide +kernel
theorem dX2_reweigh_32 : decode cX2_reweigh 32 = .ok (.aload_n 0, 1) := by decide +kernel
theorem dX2_reweigh_33 : decode cX2_reweigh 33 = .ok (.getfield 15, 3) := by decide +kernel
theorem dX2_reweigh_36 : decode cX2_reweigh 36 = .ok (.iload_n 1, 1) := by decide +kernel
theorem dX2_reweigh_37 : decode cX2_reweigh 37 = .ok (.invokevirtual 55, 3) := by decide +kernel
theorem dX2_reweigh_40 : decode cX2_reweigh 40 = .ok (.aload_n 0, 1) := by decide +kernel
theorem dX2_reweigh_41 : decode cX2_reweigh 41 = .ok (.getfield 9, 3) := by decide +kernel
theorem dX2_reweigh_44 : decode cX2_reweigh 44 = .ok (.iload_n 1, 1) := by decide +kernel
theorem dX2_reweigh_45 : decode cX2_reweigh 45 = .ok (.iload_n 2, 1) := by decide +kernel
theorem dX2_reweigh_46 : decode cX2_reweigh 46 = .ok (.invokevirtual 65, 3) := by decide +kernel
theorem dX2_reweigh_49 : decode cX2_reweigh 49 = .ok (.aload_n 0, 1) := by decide +kernel
theorem dX2_reweigh_50 : decode cX2_reweigh 50 = .ok (.getfield 15, 3) := by decide +kernel
theorem dX2_reweigh_53 : decode cX2_reweigh 53 = .ok (.aload_n 0, 1) := by decide +kernel
theorem dX2_reweigh_54 : decode cX2_reweigh 54 = .ok (.getfield 9, 3) := by decide +kernel
theorem dX2_reweigh_57 : decode cX2_reweigh 57 = .ok (.iload_n 1, 1) := by decide +kernel
theorem dX2_reweigh_58 : decode cX2_reweigh 58 = .ok (.iload_n 3, 1) := by decide +kernel
theorem dX2_reweigh_59 : decode cX2_reweigh 59 = .ok (.invokevirtual 51, 3) := by decide +kernel
theorem dX2_reweigh_62 : decode cX2_reweigh 62 = .ok (.ifCond .eq 7, 3) := by decide +kernel
theorem dX2_reweigh_65 : decode cX2_reweigh 65 = .ok (.iload_n 1, 1) := by decide +kernel
theorem dX2_reweigh_66 : decode cX2_reweigh 66 = .ok (.goto 4, 3) := by decide +kernel
theorem dX2_reweigh_69 : decode cX2_reweigh 69 = .ok (.iload_n 3, 1) := by decide +kernel
theorem dX2_reweigh_70 : decode cX2_reweigh 70 = .ok (.invokevirtual 42, 3) := by decide +kernel
theorem dX2_reweigh_73 : decode cX2_reweigh 73 = .ok (.return_, 1) := by decide +kernel
theorem dX2_findReplacement_0 : decode cX2_findReplacement 0 = .ok (.aload_n 0, 1) := by decide +kernel
theorem dX2_findReplacement_1 : decode cX2_findReplacement 1 = .ok (.getfield 19, 3) := by decide +kernel
theorem dX2_findReplacement_4 : decode cX2_findReplacement 4 = .ok (.aload_n 0, 1) := by decide +kernel
theorem dX2_findReplacement_5 : decode cX2_findReplacement 5 = .ok (.getfield 9, 3) := by decide +kernel
theorem dX2_findReplacement_8 : decode cX2_findReplacement 8 = .ok (.iload_n 1, 1) := by decide +kernel
theorem dX2_findReplacement_9 : decode cX2_findReplacement 9 = .ok (.invokevirtual 23, 3) := by decide +kernel
theorem dX2_findReplacement_12 : decode cX2_findReplacement 12 = .ok (.iload_n 1, 1) := by decide +kernel
theorem dX2_findReplacement_13 : decode cX2_findReplacement 13 = .ok (.invokevirtual 29, 3) := by decide +kernel
theorem dX2_findReplacement_16 : decode cX2_findReplacement 16 = .ok (.iconst (-1), 1) := by decide +kernel
theorem dX2_findReplacement_17 : decode cX2_findReplacement 17 = .ok (.istore_n 2, 1) := by decide +kernel
theorem dX2_findReplacement_18 : decode cX2_findReplacement 18 = .ok (.iconst 0, 1) := by decide +kernel
theorem dX2_findReplacement_19 : decode cX2_findReplacement 19 = .ok (.istore_n 3, 1) := by decide +kernel
theorem dX2_findReplacement_20 : decode cX2_findReplacement 20 = .ok (.iload_n 3, 1) := by decide +kernel
theorem dX2_findReplacement_21 : decode cX2_findReplacement 21 = .ok (.aload_n 0, 1) := by decide +kernel
theorem dX2_findReplacement_22 : decode cX2_findReplacement 22 = .ok (.getfield 9, 3) := by decide +kernel
theorem dX2_findReplacement_25 : decode cX2_findReplacement 25 = .ok (.invokevirtual 71, 3) := by decide +kernel
theorem dX2_findReplacement_28 : decode cX2_findReplacement 28 = .ok (.if_icmp .ge 36, 3) := by decide +kernel
theorem dX2_findReplacement_31 : decode cX2_findReplacement 31 = .ok (.iload_n 3, 1) := by decide +kernel
theorem dX2_findReplacement_32 : decode cX2_findReplacement 32 = .ok (.iload_n 1, 1) := by decide +kernel
theorem dX2_findReplacement_33 : decode cX2_findReplacement 33 = .ok (.if_icmp .eq 25, 3) := by decide +kernel
theorem dX2_findReplacement_36 : decode cX2_findReplacement 36 = .ok (.aload_n 0, 1) := by decide +kernel
theorem dX2_findReplacement_37 : decode cX2_findReplacement 37 = .ok (.iload_n 3, 1) := by decide +kernel
theorem dX2_findReplacement_38 : decode cX2_findReplacement 38 = .ok (.invokevirtual 75, 3) := by decide +kernel
theorem dX2_findReplacement_41 : decode cX2_findReplacement 41 = .ok (.ifCond .eq 17, 3) := by decide +kernel
theorem dX2_findReplacement_44 : decode cX2_findReplacement 44 = .ok (.aload_n 0, 1) := by decide +kernel
theorem dX2_findReplacement_45 : decode cX2_findReplacement 45 = .ok (.getfield 9, 3) := by decide +kernel
theorem dX2_findReplacement_48 : decode cX2_findReplacement 48 = .ok (.iload_n 3, 1) := by decide +kernel
theorem dX2_findReplacement_49 : decode cX2_findReplacement 49 = .ok (.iload_n 2, 1) := by decide +kernel
theorem dX2_findReplacement_50 : decode cX2_findReplacement 50 = .ok (.invokevirtual 51, 3) := by decide +kernel
theorem dX2_findReplacement_53 : decode cX2_findReplacement 53 = .ok (.ifCond .eq 5, 3) := by decide +kernel
theorem dX2_findReplacement_56 : decode cX2_findReplacement 56 = .ok (.iload_n 3, 1) := by decide +kernel
theorem dX2_findReplacement_57 : decode cX2_findReplacement 57 = .ok (.istore_n 2, 1) := by decide +kernel
theorem dX2_findReplacement_58 : decode cX2_findReplacement 58 = .ok (.iinc 3 1, 3) := by decide +kernel
theorem dX2_findReplacement_61 : decode cX2_findReplacement 61 = .ok (.goto (-41), 3) := by decide +kernel
theorem dX2_findReplacement_64 : decode cX2_findReplacement 64 = .ok (.iload_n 2, 1) := by decide +kernel
theorem dX2_findReplacement_65 : decode cX2_findReplacement 65 = .ok (.ireturn, 1) := by decide +kernel
theorem dX2_leavesPlanted_0 : decode cX2_leavesPlanted 0 = .ok (.aload_n 0, 1) := by decide +kernel
theorem dX2_leavesPlanted_1 : decode cX2_leavesPlanted 1 = .ok (.getfield 9, 3) := by decide +kernel
theorem dX2_leavesPlanted_4 : decode cX2_leavesPlanted 4 = .ok (.iload_n 1, 1) := by decide +kernel
theorem dX2_leavesPlanted_5 : decode cX2_leavesPlanted 5 = .ok (.invokevirtual 78, 3) := by decide +kernel
theorem dX2_leavesPlanted_8 : decode cX2_leavesPlanted 8 = .ok (.ifCond .eq 40, 3) := by decide +kernel
theorem dX2_leavesPlanted_11 : decode cX2_leavesPlanted 11 = .ok (.aload_n 0, 1) := by decide +kernel
theorem dX2_leavesPlanted_12 : decode cX2_leavesPlanted 12 = .ok (.getfield 19, 3) := by decide +kernel
theorem dX2_leavesPlanted_15 : decode cX2_leavesPlanted 15 = .ok (.aload_n 0, 1) := by decide +kernel
theorem dX2_leavesPlanted_16 : decode cX2_leavesPlanted 16 = .ok (.getfield 9, 3) := by decide +kernel
theorem dX2_leavesPlanted_19 : decode cX2_leavesPlanted 19 = .ok (.iload_n 1, 1) := by decide +kernel
theorem dX2_leavesPlanted_20 : decode cX2_leavesPlanted 20 = .ok (.invokevirtual 23, 3) := by decide +kernel
theorem dX2_leavesPlanted_23 : decode cX2_leavesPlanted 23 = .ok (.invokevirtual 38, 3) := by decide +kernel
theorem dX2_leavesPlanted_26 : decode cX2_leavesPlanted 26 = .ok (.aload_n 0, 1) := by decide +kernel
theorem dX2_leavesPlanted_27 : decode cX2_leavesPlanted 27 = .ok (.getfield 19, 3) := by decide +kernel
theorem dX2_leavesPlanted_30 : decode cX2_leavesPlanted 30 = .ok (.aload_n 0, 1) := by decide +kernel
theorem dX2_leavesPlanted_31 : decode cX2_leavesPlanted 31 = .ok (.getfield 9, 3) := by decide +kernel
theorem dX2_leavesPlanted_34 : decode cX2_leavesPlanted 34 = .ok (.iload_n 1, 1) := by decide +kernel
theorem dX2_leavesPlanted_35 : decode cX2_leavesPlanted 35 = .ok (.invokevirtual 35, 3) := by decide +kernel
theorem dX2_leavesPlanted_38 : decode cX2_leavesPlanted 38 = .ok (.invokevirtual 38, 3) := by decide +kernel
theorem dX2_leavesPlanted_41 : decode cX2_leavesPlanted 41 = .ok (.if_icmp .eq 7, 3) := by decide +kernel
theorem dX2_leavesPlanted_44 : decode cX2_leavesPlanted 44 = .ok (.iconst 1, 1) := by decide +kernel
theorem dX2_leavesPlanted_45 : decode cX2_leavesPlanted 45 = .ok (.goto 4, 3) := by decide +kernel
theorem dX2_leavesPlanted_48 : decode cX2_leavesPlanted 48 = .ok (.iconst 0, 1) := by decide +kernel
theorem dX2_leavesPlanted_49 : decode cX2_leavesPlanted 49 = .ok (.ireturn, 1) := by decide +kernel
theorem dX3_init_0 : decode cX3_init 0 = .ok (.aload_n 0, 1) := by decide +kernel
theorem dX3_init_1 : decode cX3_init 1 = .ok (.invokespecial 3, 3) := by decide +kernel
theorem dX3_init_4 : decode cX3_init 4 = .ok (.aload_n 0, 1) := by decide +kernel
theorem dX3_init_5 : decode cX3_init 5 = .ok (.bipush 20, 2) := by decide +kernel
theorem dX3_init_7 : decode cX3_init 7 = .ok (.newarray .int, 2) := by decide +kernel
theorem dX3_init_9 : decode cX3_init 9 = .ok (.putfield 9, 3) := by decide +kernel
theorem dX3_init_12 : decode cX3_init 12 = .ok (.aload_n 0, 1) := by decide +kernel
theorem dX3_init_13 : decode cX3_init 13 = .ok (.bipush 60, 2) := by decide +kernel
theorem dX3_init_15 : decode cX3_init 15 = .ok (.newarray .int, 2) := by decide +kernel
theorem dX3_init_17 : decode cX3_init 17 = .ok (.putfield 15, 3) := by decide +kernel
theorem dX3_init_20 : decode cX3_init 20 = .ok (.aload_n 0, 1) := by decide +kernel
theorem dX3_init_21 : decode cX3_init 21 = .ok (.bipush 60, 2) := by decide +kernel
theorem dX3_init_23 : decode cX3_init 23 = .ok (.newarray .int, 2) := by decide +kernel
theorem dX3_init_25 : decode cX3_init 25 = .ok (.putfield 18, 3) := by decide +kernel
theorem dX3_init_28 : decode cX3_init 28 = .ok (.aload_n 0, 1) := by decide +kernel
theorem dX3_init_29 : decode cX3_init 29 = .ok (.bipush 60, 2) := by decide +kernel
theorem dX3_init_31 : decode cX3_init 31 = .ok (.newarray .int, 2) := by decide +kernel
theorem dX3_init_33 : decode cX3_init 33 = .ok (.putfield 21, 3) := by decide +kernel
theorem dX3_init_36 : decode cX3_init 36 = .ok (.aload_n 0, 1) := by decide +kernel
theorem dX3_init_37 : decode cX3_init 37 = .ok (.bipush 60, 2) := by decide +kernel
theorem dX3_init_39 : decode cX3_init 39 = .ok (.newarray .boolean, 2) := by decide +kernel
theorem dX3_init_41 : decode cX3_init 41 = .ok (.putfield 24, 3) := by decide +kernel
theorem dX3_init_44 : decode cX3_init 44 = .ok (.aload_n 0, 1) := by decide +kernel
theorem dX3_init_45 : decode cX3_init 45 = .ok (.iconst 0, 1) := by decide +kernel
theorem dX3_init_46 : decode cX3_init 46 = .ok (.putfield 28, 3) := by decide +kernel
theorem dX3_init_49 : decode cX3_init 49 = .ok (.aload_n 0, 1) := by decide +kernel
theorem dX3_init_50 : decode cX3_init 50 = .ok (.iconst 0, 1) := by decide +kernel
theorem dX3_init_51 : decode cX3_init 51 = .ok (.putfield 32, 3) := by decide +kernel
theorem dX3_init_54 : decode cX3_init 54 = .ok (.return_, 1) := by decide +kernel
theorem dX3_vertexCount_0 : decode cX3_vertexCount 0 = .ok (.aload_n 0, 1) := by decide +kernel
theorem dX3_vertexCount_1 : decode cX3_vertexCount 1 = .ok (.getfield 28, 3) := by decide +kernel
theorem dX3_vertexCount_4 : decode cX3_vertexCount 4 = .ok (.ireturn, 1) := by decide +kernel
theorem dX3_edgeCount_0 : decode cX3_edgeCount 0 = .ok (.aload_n 0, 1) := by decide +kernel
theorem dX3_edgeCount_1 : decode cX3_edgeCount 1 = .ok (.getfield 32, 3) := by decide +kernel
theorem dX3_edgeCount_4 : decode cX3_edgeCount 4 = .ok (.ireturn, 1) := by decide +kernel
theorem dX3_hasVertex_0 : decode cX3_hasVertex 0 = .ok (.iload_n 1, 1) := by decide +kernel
theorem dX3_hasVertex_1 : decode cX3_hasVertex 1 = .ok (.ifCond .lt 15, 3) := by decide +kernel
theorem dX3_hasVertex_4 : decode cX3_hasVertex 4 = .ok (.iload_n 1, 1) := by decide +kernel
theorem dX3_hasVertex_5 : decode cX3_hasVertex 5 = .ok (.aload_n 0, 1) := by decide +kernel
theorem dX3_hasVertex_6 : decode cX3_hasVertex 6 = .ok (.getfield 28, 3) := by decide +kernel
theorem dX3_hasVertex_9 : decode cX3_hasVertex 9 = .ok (.if_icmp .ge 7, 3) := by decide +kernel
theorem dX3_hasVertex_12 : decode cX3_hasVertex 12 = .ok (.iconst 1, 1) := by decide +kernel
theorem dX3_hasVertex_13 : decode cX3_hasVertex 13 = .ok (.goto 4, 3) := by decide +kernel
theorem dX3_hasVertex_16 : decode cX3_hasVertex 16 = .ok (.iconst 0, 1) := by decide +kernel
theorem dX3_hasVertex_17 : decode cX3_hasVertex 17 = .ok (.ireturn, 1) := by decide +kernel
theorem dX3_hasEdge_0 : decode cX3_hasEdge 0 = .ok (.iload_n 1, 1) := by decide +kernel
theorem dX3_hasEdge_1 : decode cX3_hasEdge 1 = .ok (.ifCond .lt 15, 3) := by decide +kernel
theorem dX3_hasEdge_4 : decode cX3_hasEdge 4 = .ok (.iload_n 1, 1) := by decide +kernel
theorem dX3_hasEdge_5 : decode cX3_hasEdge 5 = .ok (.aload_n 0, 1) := by decide +kernel
theorem dX3_hasEdge_6 : decode cX3_hasEdge 6 = .ok (.getfield 32, 3) := by decide +kernel
theorem dX3_hasEdge_9 : decode cX3_hasEdge 9 = .ok (.if_icmp .ge 7, 3) := by decide +kernel
theorem dX3_hasEdge_12 : decode cX3_hasEdge 12 = .ok (.iconst 1, 1) := by decide +kernel
theorem dX3_hasEdge_13 : decode cX3_hasEdge 13 = .ok (.goto 4, 3) := by decide +kernel
theorem dX3_hasEdge_16 : decode cX3_hasEdge 16 = .ok (.iconst 0, 1) := by decide +kernel
theorem dX3_hasEdge_17 : decode cX3_hasEdge 17 = .ok (.ireturn, 1) := by decide +kernel
theorem dX3_appendVertex_0 : decode cX3_appendVertex 0 = .ok (.aload_n 0, 1) := by decide +kernel
theorem dX3_appendVertex_1 : decode cX3_appendVertex 1 = .ok (.getfield 28, 3) := by decide +kernel
theorem dX3_appendVertex_4 : decode cX3_appendVertex 4 = .ok (.bipush 20, 2) := by decide +kernel
theorem dX3_appendVertex_6 : decode cX3_appendVertex 6 = .ok (.if_icmp .lt 5, 3) := by decide +kernel
theorem dX3_appendVertex_9 : decode cX3_appendVertex 9 = .ok (.iconst (-1), 1) := by decide +kernel
theorem dX3_appendVertex_10 : decode cX3_appendVertex 10 = .ok (.ireturn, 1) := by decide +kernel
theorem dX3_appendVertex_11 : decode cX3_appendVertex 11 = .ok (.aload_n 0, 1) := by decide +kernel
theorem dX3_appendVertex_12 : decode cX3_appendVertex 12 = .ok (.getfield 9, 3) := by decide +kernel
theorem dX3_appendVertex_15 : decode cX3_appendVertex 15 = .ok (.aload_n 0, 1) := by decide +kernel
theorem dX3_appendVertex_16 : decode cX3_appendVertex 16 = .ok (.getfield 28, 3) := by decide +kernel
theorem dX3_appendVertex_19 : decode cX3_appendVertex 19 = .ok (.iload_n 1, 1) := by decide +kernel
theorem dX3_appendVertex_20 : decode cX3_appendVertex 20 = .ok (.iastore, 1) := by decide +kernel
theorem dX3_appendVertex_21 : decode cX3_appendVertex 21 = .ok (.aload_n 0, 1) := by decide +kernel
theorem dX3_appendVertex_22 : decode cX3_appendVertex 22 = .ok (.dup, 1) := by decide +kernel
theorem dX3_appendVertex_23 : decode cX3_appendVertex 23 = .ok (.getfield 28, 3) := by decide +kernel
theorem dX3_appendVertex_26 : decode cX3_appendVertex 26 = .ok (.iconst 1, 1) := by decide +kernel
theorem dX3_appendVertex_27 : decode cX3_appendVertex 27 = .ok (.iadd, 1) := by decide +kernel
theorem dX3_appendVertex_28 : decode cX3_appendVertex 28 = .ok (.putfield 28, 3) := by decide +kernel
theorem dX3_appendVertex_31 : decode cX3_appendVertex 31 = .ok (.aload_n 0, 1) := by decide +kernel
theorem dX3_appendVertex_32 : decode cX3_appendVertex 32 = .ok (.getfield 28, 3) := by decide +kernel
theorem dX3_appendVertex_35 : decode cX3_appendVertex 35 = .ok (.iconst 1, 1) := by decide +kernel
theorem dX3_appendVertex_36 : decode cX3_appendVertex 36 = .ok (.isub, 1) := by decide +kernel
theorem dX3_appendVertex_37 : decode cX3_appendVertex 37 = .ok (.ireturn, 1) := by decide +kernel
theorem dX3_appendEdge_0 : decode cX3_appendEdge 0 = .ok (.aload_n 0, 1) := by decide +kernel
theorem dX3_appendEdge_1 : decode cX3_appendEdge 1 = .ok (.getfield 32, 3) := by decide +kernel
theorem dX3_appendEdge_4 : decode cX3_appendEdge 4 = .ok (.bipush 60, 2) := by decide +kernel
theorem dX3_appendEdge_6 : decode cX3_appendEdge 6 = .ok (.if_icmp .lt 5, 3) := by decide +kernel
theorem dX3_appendEdge_9 : decode cX3_appendEdge 9 = .ok (.iconst (-1), 1) := by decide +kernel
theorem dX3_appendEdge_10 : decode cX3_appendEdge 10 = .ok (.ireturn, 1) := by decide +kernel
theorem dX3_appendEdge_11 : decode cX3_appendEdge 11 = .ok (.aload_n 0, 1) := by decide +kernel
theorem dX3_appendEdge_12 : decode cX3_appendEdge 12 = .ok (.getfield 15, 3) := by decide +kernel
theorem dX3_appendEdge_15 : decode cX3_appendEdge 15 = .ok (.aload_n 0, 1) := by decide +kernel
theorem dX3_appendEdge_16 : decode cX3_appendEdge 16 = .ok (.getfield 32, 3) := by decide +kernel
theorem dX3_appendEdge_19 : decode cX3_appendEdge 19 = .ok (.iload_n 1, 1) := by decide +kernel
theorem dX3_appendEdge_20 : decode cX3_appendEdge 20 = .ok (.iastore, 1) := by decide +kernel
theorem dX3_appendEdge_21 : decode cX3_appendEdge 21 = .ok (.aload_n 0, 1) := by decide +kernel
theorem dX3_appendEdge_22 : decode cX3_appendEdge 22 = .ok (.getfield 18, 3) := by decide +kernel
theorem dX3_appendEdge_25 : decode cX3_appendEdge 25 = .ok (.aload_n 0, 1) := by decide +kernel
theorem dX3_appendEdge_26 : decode cX3_appendEdge 26 = .ok (.getfield 32, 3) := by decide +kernel
theorem dX3_appendEdge_29 : decode cX3_appendEdge 29 = .ok (.iload_n 2, 1) := by decide +kernel
theorem dX3_appendEdge_30 : decode cX3_appendEdge 30 = .ok (.iastore, 1) := by decide +kernel
theorem dX3_appendEdge_31 : decode cX3_appendEdge 31 = .ok (.aload_n 0, 1) := by decide +kernel
theorem dX3_appendEdge_32 : decode cX3_appendEdge 32 = .ok (.getfield 21, 3) := by decide +kernel
theorem dX3_appendEdge_35 : decode cX3_appendEdge 35 = .ok (.aload_n 0, 1) := by decide +kernel
theorem dX3_appendEdge_36 : decode cX3_appendEdge 36 = .ok (.getfield 32, 3) := by decide +kernel
theorem dX3_appendEdge_39 : decode cX3_appendEdge 39 = .ok (.iload_n 3, 1) := by decide +kernel
theorem dX3_appendEdge_40 : decode cX3_appendEdge 40 = .ok (.iastore, 1) := by decide +kernel
theorem dX3_appendEdge_41 : decode cX3_appendEdge 41 = .ok (.aload_n 0, 1) := by decide +kernel
theorem dX3_appendEdge_42 : decode cX3_appendEdge 42 = .ok (.getfield 24, 3) := by decide +kernel
theorem dX3_appendEdge_45 : decode cX3_appendEdge 45 = .ok (.aload_n 0, 1) := by decide +kernel
theorem dX3_appendEdge_46 : decode cX3_appendEdge 46 = .ok (.getfield 32, 3) := by decide +kernel
theorem dX3_appendEdge_49 : decode cX3_appendEdge 49 = .ok (.iconst 1, 1) := by decide +kernel
theorem dX3_appendEdge_50 : decode cX3_appendEdge 50 = .ok (.bastore, 1) := by decide +kernel
theorem dX3_appendEdge_51 : decode cX3_appendEdge 51 = .ok (.aload_n 0, 1) := by decide +kernel
theorem dX3_appendEdge_52 : decode cX3_appendEdge 52 = .ok (.dup, 1) := by decide +kernel
theorem dX3_appendEdge_53 : decode cX3_appendEdge 53 = .ok (.getfield 32, 3) := by decide +kernel
theorem dX3_appendEdge_56 : decode cX3_appendEdge 56 = .ok (.iconst 1, 1) := by decide +kernel
theorem dX3_appendEdge_57 : decode cX3_appendEdge 57 = .ok (.iadd, 1) := by decide +kernel
theorem dX3_appendEdge_58 : decode cX3_appendEdge 58 = .ok (.putfield 32, 3) := by decide +kernel
theorem dX3_appendEdge_61 : decode cX3_appendEdge 61 = .ok (.aload_n 0, 1) := by decide +kernel
theorem dX3_appendEdge_62 : decode cX3_appendEdge 62 = .ok (.getfield 32, 3) := by decide +kernel
theorem dX3_appendEdge_65 : decode cX3_appendEdge 65 = .ok (.iconst 1, 1) := by decide +kernel
theorem dX3_appendEdge_66 : decode cX3_appendEdge 66 = .ok (.isub, 1) := by decide +kernel
theorem dX3_appendEdge_67 : decode cX3_appendEdge 67 = .ok (.ireturn, 1) := by decide +kernel
theorem dX3_valueOf_0 : decode cX3_valueOf 0 = .ok (.aload_n 0, 1) := by decide +kernel
theorem dX3_valueOf_1 : decode cX3_valueOf 1 = .ok (.iload_n 1, 1) := by decide +kernel
theorem dX3_valueOf_2 : decode cX3_valueOf 2 = .ok (.invokevirtual 35, 3) := by decide +kernel
theorem dX3_valueOf_5 : decode cX3_valueOf 5 = .ok (.ifCond .eq 12, 3) := by decide +kernel
theorem dX3_valueOf_8 : decode cX3_valueOf 8 = .ok (.aload_n 0, 1) := by decide +kernel
theorem dX3_valueOf_9 : decode cX3_valueOf 9 = .ok (.getfield 9, 3) := by decide +kernel
theorem dX3_valueOf_12 : decode cX3_valueOf 12 = .ok (.iload_n 1, 1) := by decide +kernel
theorem dX3_valueOf_13 : decode cX3_valueOf 13 = .ok (.iaload, 1) := by decide +kernel
theorem dX3_valueOf_14 : decode cX3_valueOf 14 = .ok (.goto 4, 3) := by decide +kernel
theorem dX3_valueOf_17 : decode cX3_valueOf 17 = .ok (.iconst 0, 1) := by decide +kernel
theorem dX3_valueOf_18 : decode cX3_valueOf 18 = .ok (.ireturn, 1) := by decide +kernel
theorem dX3_putValue_0 : decode cX3_putValue 0 = .ok (.aload_n 0, 1) := by decide +kernel
theorem dX3_putValue_1 : decode cX3_putValue 1 = .ok (.iload_n 1, 1) := by decide +kernel
theorem dX3_putValue_2 : decode cX3_putValue 2 = .ok (.invokevirtual 35, 3) := by decide +kernel
theorem dX3_putValue_5 : decode cX3_putValue 5 = .ok (.ifCond .eq 10, 3) := by decide +kernel
theorem dX3_putValue_8 : decode cX3_putValue 8 = .ok (.aload_n 0, 1) := by decide +kernel
theorem dX3_putValue_9 : decode cX3_putValue 9 = .ok (.getfield 9, 3) := by decide +kernel
theorem dX3_putValue_12 : decode cX3_putValue 12 = .ok (.iload_n 1, 1) := by decide +kernel
theorem dX3_putValue_13 : decode cX3_putValue 13 = .ok (.iload_n 2, 1) := by decide +kernel
theorem dX3_putValue_14 : decode cX3_putValue 14 = .ok (.iastore, 1) := by decide +kernel
theorem dX3_putValue_15 : decode cX3_putValue 15 = .ok (.return_, 1) := by decide +kernel
theorem dX3_weightOf_0 : decode cX3_weightOf 0 = .ok (.aload_n 0, 1) := by decide +kernel
theorem dX3_weightOf_1 : decode cX3_weightOf 1 = .ok (.iload_n 1, 1) := by decide +kernel
theorem dX3_weightOf_2 : decode cX3_weightOf 2 = .ok (.invokevirtual 39, 3) := by decide +kernel
theorem dX3_weightOf_5 : decode cX3_weightOf 5 = .ok (.ifCond .eq 12, 3) := by decide +kernel
theorem dX3_weightOf_8 : decode cX3_weightOf 8 = .ok (.aload_n 0, 1) := by decide +kernel
theorem dX3_weightOf_9 : decode cX3_weightOf 9 = .ok (.getfield 21, 3) := by decide +kernel
theorem dX3_weightOf_12 : decode cX3_weightOf 12 = .ok (.iload_n 1, 1) := by decide +kernel
theorem dX3_weightOf_13 : decode cX3_weightOf 13 = .ok (.iaload, 1) := by decide +kernel
theorem dX3_weightOf_14 : decode cX3_weightOf 14 = .ok (.goto 4, 3) := by decide +kernel
theorem dX3_weightOf_17 : decode cX3_weightOf 17 = .ok (.iconst 0, 1) := by decide +kernel
theorem dX3_weightOf_18 : decode cX3_weightOf 18 = .ok (.ireturn, 1) := by decide +kernel
theorem dX3_putWeight_0 : decode cX3_putWeight 0 = .ok (.aload_n 0, 1) := by decide +kernel
theorem dX3_putWeight_1 : decode cX3_putWeight 1 = .ok (.iload_n 1, 1) := by decide +kernel
theorem dX3_putWeight_2 : decode cX3_putWeight 2 = .ok (.invokevirtual 39, 3) := by decide +kernel
theorem dX3_putWeight_5 : decode cX3_putWeight 5 = .ok (.ifCond .eq 10, 3) := by decide +kernel
theorem dX3_putWeight_8 : decode cX3_putWeight 8 = .ok (.aload_n 0, 1) := by decide +kernel
theorem dX3_putWeight_9 : decode cX3_putWeight 9 = .ok (.getfield 21, 3) := by decide +kernel
theorem dX3_putWeight_12 : decode cX3_putWeight 12 = .ok (.iload_n 1, 1) := by decide +kernel
theorem dX3_putWeight_13 : decode cX3_putWeight 13 = .ok (.iload_n 2, 1) := by decide +kernel
theorem dX3_putWeight_14 : decode cX3_putWeight 14 = .ok (.iastore, 1) := by decide +kernel
theorem dX3_putWeight_15 : decode cX3_putWeight 15 = .ok (.return_, 1) := by decide +kernel
theorem dX3_isPresent_0 : decode cX3_isPresent 0 = .ok (.aload_n 0, 1) := by decide +kernel
theorem dX3_isPresent_1 : decode cX3_isPresent 1 = .ok (.iload_n 1, 1) := by decide +kernel
theorem dX3_isPresent_2 : decode cX3_isPresent 2 = .ok (.invokevirtual 39, 3) := by decide +kernel
theorem dX3_isPresent_5 : decode cX3_isPresent 5 = .ok (.ifCond .eq 16, 3) := by decide +kernel
theorem dX3_isPresent_8 : decode cX3_isPresent 8 = .ok (.aload_n 0, 1) := by decide +kernel
theorem dX3_isPresent_9 : decode cX3_isPresent 9 = .ok (.getfield 24, 3) := by decide +kernel
theorem dX3_isPresent_12 : decode cX3_isPresent 12 = .ok (.iload_n 1, 1) := by decide +kernel
theorem dX3_isPresent_13 : decode cX3_isPresent 13 = .ok (.baload, 1) := by decide +kernel
theorem dX3_isPresent_14 : decode cX3_isPresent 14 = .ok (.ifCond .eq 7, 3) := by decide +kernel
theorem dX3_isPresent_17 : decode cX3_isPresent 17 = .ok (.iconst 1, 1) := by decide +kernel
theorem dX3_isPresent_18 : decode cX3_isPresent 18 = .ok (.goto 4, 3) := by decide +kernel
theorem dX3_isPresent_21 : decode cX3_isPresent 21 = .ok (.iconst 0, 1) := by decide +kernel
theorem dX3_isPresent_22 : decode cX3_isPresent 22 = .ok (.ireturn, 1) := by decide +kernel
theorem dX3_markRemoved_0 : decode cX3_markRemoved 0 = .ok (.aload_n 0, 1) := by decide +kernel
theorem dX3_markRemoved_1 : decode cX3_markRemoved 1 = .ok (.iload_n 1, 1) := by decide +kernel
theorem dX3_markRemoved_2 : decode cX3_markRemoved 2 = .ok (.invokevirtual 39, 3) := by decide +kernel
theorem dX3_markRemoved_5 : decode cX3_markRemoved 5 = .ok (.ifCond .eq 10, 3) := by decide +kernel
theorem dX3_markRemoved_8 : decode cX3_markRemoved 8 = .ok (.aload_n 0, 1) := by decide +kernel
theorem dX3_markRemoved_9 : decode cX3_markRemoved 9 = .ok (.getfield 24, 3) := by decide +kernel
theorem dX3_markRemoved_12 : decode cX3_markRemoved 12 = .ok (.iload_n 1, 1) := by decide +kernel
theorem dX3_markRemoved_13 : decode cX3_markRemoved 13 = .ok (.iconst 0, 1) := by decide +kernel
theorem dX3_markRemoved_14 : decode cX3_markRemoved 14 = .ok (.bastore, 1) := by decide +kernel
theorem dX3_markRemoved_15 : decode cX3_markRemoved 15 = .ok (.return_, 1) := by decide +kernel
theorem dX3_firstEnd_0 : decode cX3_firstEnd 0 = .ok (.aload_n 0, 1) := by decide +kernel
theorem dX3_firstEnd_1 : decode cX3_firstEnd 1 = .ok (.iload_n 1, 1) := by decide +kernel
theorem dX3_firstEnd_2 : decode cX3_firstEnd 2 = .ok (.invokevirtual 39, 3) := by decide +kernel
theorem dX3_firstEnd_5 : decode cX3_firstEnd 5 = .ok (.ifCond .eq 12, 3) := by decide +kernel
theorem dX3_firstEnd_8 : decode cX3_firstEnd 8 = .ok (.aload_n 0, 1) := by decide +kernel
theorem dX3_firstEnd_9 : decode cX3_firstEnd 9 = .ok (.getfield 15, 3) := by decide +kernel
theorem dX3_firstEnd_12 : decode cX3_firstEnd 12 = .ok (.iload_n 1, 1) := by decide +kernel
theorem dX3_firstEnd_13 : decode cX3_firstEnd 13 = .ok (.iaload, 1) := by decide +kernel
theorem dX3_firstEnd_14 : decode cX3_firstEnd 14 = .ok (.goto 4, 3) := by decide +kernel
theorem dX3_firstEnd_17 : decode cX3_firstEnd 17 = .ok (.iconst (-1), 1) := by decide +kernel
theorem dX3_firstEnd_18 : decode cX3_firstEnd 18 = .ok (.ireturn, 1) := by decide +kernel
theorem dX3_secondEnd_0 : decode cX3_secondEnd 0 = .ok (.aload_n 0, 1) := by decide +kernel
theorem dX3_secondEnd_1 : decode cX3_secondEnd 1 = .ok (.iload_n 1, 1) := by decide +kernel
theorem dX3_secondEnd_2 : decode cX3_secondEnd 2 = .ok (.invokevirtual 39, 3) := by decide +kernel
theorem dX3_secondEnd_5 : decode cX3_secondEnd 5 = .ok (.ifCond .eq 12, 3) := by decide +kernel
theorem dX3_secondEnd_8 : decode cX3_secondEnd 8 = .ok (.aload_n 0, 1) := by decide +kernel
theorem dX3_secondEnd_9 : decode cX3_secondEnd 9 = .ok (.getfield 18, 3) := by decide +kernel
theorem dX3_secondEnd_12 : decode cX3_secondEnd 12 = .ok (.iload_n 1, 1) := by decide +kernel
theorem dX3_secondEnd_13 : decode cX3_secondEnd 13 = .ok (.iaload, 1) := by decide +kernel
theorem dX3_secondEnd_14 : decode cX3_secondEnd 14 = .ok (.goto 4, 3) := by decide +kernel
theorem dX3_secondEnd_17 : decode cX3_secondEnd 17 = .ok (.iconst (-1), 1) := by decide +kernel
theorem dX3_secondEnd_18 : decode cX3_secondEnd 18 = .ok (.ireturn, 1) := by decide +kernel
theorem dX3_acrossFrom_0 : decode cX3_acrossFrom 0 = .ok (.aload_n 0, 1) := by decide +kernel
theorem dX3_acrossFrom_1 : decode cX3_acrossFrom 1 = .ok (.iload_n 1, 1) := by decide +kernel
theorem dX3_acrossFrom_2 : decode cX3_acrossFrom 2 = .ok (.invokevirtual 42, 3) := by decide +kernel
theorem dX3_acrossFrom_5 : decode cX3_acrossFrom 5 = .ok (.iload_n 2, 1) := by decide +kernel
theorem dX3_acrossFrom_6 : decode cX3_acrossFrom 6 = .ok (.if_icmp .ne 9, 3) := by decide +kernel
theorem dX3_acrossFrom_9 : decode cX3_acrossFrom 9 = .ok (.aload_n 0, 1) := by decide +kernel
theorem dX3_acrossFrom_10 : decode cX3_acrossFrom 10 = .ok (.iload_n 1, 1) := by decide +kernel
theorem dX3_acrossFrom_11 : decode cX3_acrossFrom 11 = .ok (.invokevirtual 46, 3) := by decide +kernel
theorem dX3_acrossFrom_14 : decode cX3_acrossFrom 14 = .ok (.ireturn, 1) := by decide +kernel
theorem dX3_acrossFrom_15 : decode cX3_acrossFrom 15 = .ok (.aload_n 0, 1) := by decide +kernel
theorem dX3_acrossFrom_16 : decode cX3_acrossFrom 16 = .ok (.iload_n 1, 1) := by decide +kernel
theorem dX3_acrossFrom_17 : decode cX3_acrossFrom 17 = .ok (.invokevirtual 46, 3) := by decide +kernel
theorem dX3_acrossFrom_20 : decode cX3_acrossFrom 20 = .ok (.iload_n 2, 1) := by decide +kernel
theorem dX3_acrossFrom_21 : decode cX3_acrossFrom 21 = .ok (.if_icmp .ne 11, 3) := by decide +kernel
theorem dX3_acrossFrom_24 : decode cX3_acrossFrom 24 = .ok (.aload_n 0, 1) := by decide +kernel
theorem dX3_acrossFrom_25 : decode cX3_acrossFrom 25 = .ok (.iload_n 1, 1) := by decide +kernel
theorem dX3_acrossFrom_26 : decode cX3_acrossFrom 26 = .ok (.invokevirtual 42, 3) := by decide +kernel
theorem dX3_acrossFrom_29 : decode cX3_acrossFrom 29 = .ok (.goto 4, 3) := by decide +kernel
theorem dX3_acrossFrom_32 : decode cX3_acrossFrom 32 = .ok (.iconst (-1), 1) := by decide +kernel
theorem dX3_acrossFrom_33 : decode cX3_acrossFrom 33 = .ok (.ireturn, 1) := by decide +kernel
theorem dX3_comesBefore_0 : decode cX3_comesBefore 0 = .ok (.aload_n 0, 1) := by decide +kernel
theorem dX3_comesBefore_1 : decode cX3_comesBefore 1 = .ok (.iload_n 1, 1) := by decide +kernel
theorem dX3_comesBefore_2 : decode cX3_comesBefore 2 = .ok (.invokevirtual 39, 3) := by decide +kernel
theorem dX3_comesBefore_5 : decode cX3_comesBefore 5 = .ok (.ifCond .eq 11, 3) := by decide +kernel
theorem dX3_comesBefore_8 : decode cX3_comesBefore 8 = .ok (.aload_n 0, 1) := by decide +kernel
theorem dX3_comesBefore_9 : decode cX3_comesBefore 9 = .ok (.iload_n 2, 1) := by decide +kernel
theorem dX3_comesBefore_10 : decode cX3_comesBefore 10 = .ok (.invokevirtual 39, 3) := by decide +kernel
theorem dX3_comesBefore_13 : decode cX3_comesBefore 13 = .ok (.ifCond .ne 9, 3) := by decide +kernel
theorem dX3_comesBefore_16 : decode cX3_comesBefore 16 = .ok (.aload_n 0, 1) := by decide +kernel
theorem dX3_comesBefore_17 : decode cX3_comesBefore 17 = .ok (.iload_n 1, 1) := by decide +kernel
theorem dX3_comesBefore_18 : decode cX3_comesBefore 18 = .ok (.invokevirtual 39, 3) := by decide +kernel
theorem dX3_comesBefore_21 : decode cX3_comesBefore 21 = .ok (.ireturn, 1) := by decide +kernel
theorem dX3_comesBefore_22 : decode cX3_comesBefore 22 = .ok (.aload_n 0, 1) := by decide +kernel
theorem dX3_comesBefore_23 : decode cX3_comesBefore 23 = .ok (.getfield 21, 3) := by decide +kernel
theorem dX3_comesBefore_26 : decode cX3_comesBefore 26 = .ok (.iload_n 1, 1) := by decide +kernel
theorem dX3_comesBefore_27 : decode cX3_comesBefore 27 = .ok (.iaload, 1) := by decide +kernel
theorem dX3_comesBefore_28 : decode cX3_comesBefore 28 = .ok (.aload_n 0, 1) := by decide +kernel
theorem dX3_comesBefore_29 : decode cX3_comesBefore 29 = .ok (.getfield 21, 3) := by decide +kernel
theorem dX3_comesBefore_32 : decode cX3_comesBefore 32 = .ok (.iload_n 2, 1) := by decide +kernel
theorem dX3_comesBefore_33 : decode cX3_comesBefore 33 = .ok (.iaload, 1) := by decide +kernel
theorem dX3_comesBefore_34 : decode cX3_comesBefore 34 = .ok (.if_icmp .eq 24, 3) := by decide +kernel
theorem dX3_comesBefore_37 : decode cX3_comesBefore 37 = .ok (.aload_n 0, 1) := by decide +kernel
theorem dX3_comesBefore_38 : decode cX3_comesBefore 38 = .ok (.getfield 21, 3) := by decide +kernel
theorem dX3_comesBefore_41 : decode cX3_comesBefore 41 = .ok (.iload_n 1, 1) := by decide +kernel
theorem dX3_comesBefore_42 : decode cX3_comesBefore 42 = .ok (.iaload, 1) := by decide +kernel
theorem dX3_comesBefore_43 : decode cX3_comesBefore 43 = .ok (.aload_n 0, 1) := by decide +kernel
theorem dX3_comesBefore_44 : decode cX3_comesBefore 44 = .ok (.getfield 21, 3) := by decide +kernel
theorem dX3_comesBefore_47 : decode cX3_comesBefore 47 = .ok (.iload_n 2, 1) := by decide +kernel
theorem dX3_comesBefore_48 : decode cX3_comesBefore 48 = .ok (.iaload, 1) := by decide +kernel
theorem dX3_comesBefore_49 : decode cX3_comesBefore 49 = .ok (.if_icmp .ge 7, 3) := by decide +kernel
theorem dX3_comesBefore_52 : decode cX3_comesBefore 52 = .ok (.iconst 1, 1) := by decide +kernel
theorem dX3_comesBefore_53 : decode cX3_comesBefore 53 = .ok (.goto 4, 3) := by decide +kernel
theorem dX3_comesBefore_56 : decode cX3_comesBefore 56 = .ok (.iconst 0, 1) := by decide +kernel
theorem dX3_comesBefore_57 : decode cX3_comesBefore 57 = .ok (.ireturn, 1) := by decide +kernel
theorem dX3_comesBefore_58 : decode cX3_comesBefore 58 = .ok (.iload_n 1, 1) := by decide +kernel
theorem dX3_comesBefore_59 : decode cX3_comesBefore 59 = .ok (.iload_n 2, 1) := by decide +kernel
theorem dX3_comesBefore_60 : decode cX3_comesBefore 60 = .ok (.if_icmp .ge 7, 3) := by decide +kernel
theorem dX3_comesBefore_63 : decode cX3_comesBefore 63 = .ok (.iconst 1, 1) := by decide +kernel
theorem dX3_comesBefore_64 : decode cX3_comesBefore 64 = .ok (.goto 4, 3) := by decide +kernel
theorem dX3_comesBefore_67 : decode cX3_comesBefore 67 = .ok (.iconst 0, 1) := by decide +kernel
theorem dX3_comesBefore_68 : decode cX3_comesBefore 68 = .ok (.ireturn, 1) := by decide +kernel
theorem dX3_joins_0 : decode cX3_joins 0 = .ok (.aload_n 0, 1) := by decide +kernel
theorem dX3_joins_1 : decode cX3_joins 1 = .ok (.iload_n 1, 1) := by decide +kernel
theorem dX3_joins_2 : decode cX3_joins 2 = .ok (.invokevirtual 49, 3) := by decide +kernel
theorem dX3_joins_5 : decode cX3_joins 5 = .ok (.ifCond .eq 17, 3) := by decide +kernel
theorem dX3_joins_8 : decode cX3_joins 8 = .ok (.aload_n 0, 1) := by decide +kernel
theorem dX3_joins_9 : decode cX3_joins 9 = .ok (.iload_n 1, 1) := by decide +kernel
theorem dX3_joins_10 : decode cX3_joins 10 = .ok (.iload_n 2, 1) := by decide +kernel
theorem dX3_joins_11 : decode cX3_joins 11 = .ok (.invokevirtual 52, 3) := by decide +kernel
theorem dX3_joins_14 : decode cX3_joins 14 = .ok (.iload_n 3, 1) := by decide +kernel
theorem dX3_joins_15 : decode cX3_joins 15 = .ok (.if_icmp .ne 7, 3) := by decide +kernel
theorem dX3_joins_18 : decode cX3_joins 18 = .ok (.iconst 1, 1) := by decide +kernel
theorem dX3_joins_19 : decode cX3_joins 19 = .ok (.goto 4, 3) := by decide +kernel
theorem dX3_joins_22 : decode cX3_joins 22 = .ok (.iconst 0, 1) := by decide +kernel
theorem dX3_joins_23 : decode cX3_joins 23 = .ok (.ireturn, 1) := by decide +kernel
theorem dX3_countBetween_0 : decode cX3_countBetween 0 = .ok (.iconst 0, 1) := by decide +kernel
theorem dX3_countBetween_1 : decode cX3_countBetween 1 = .ok (.istore_n 3, 1) := by decide +kernel
theorem dX3_countBetween_2 : decode cX3_countBetween 2 = .ok (.iconst 0, 1) := by decide +kernel
theorem dX3_countBetween_3 : decode cX3_countBetween 3 = .ok (.istore 4, 2) := by decide +kernel
theorem dX3_countBetween_5 : decode cX3_countBetween 5 = .ok (.iload 4, 2) := by decide +kernel
theorem dX3_countBetween_7 : decode cX3_countBetween 7 = .ok (.aload_n 0, 1) := by decide +kernel
theorem dX3_countBetween_8 : decode cX3_countBetween 8 = .ok (.getfield 32, 3) := by decide +kernel
theorem dX3_countBetween_11 : decode cX3_countBetween 11 = .ok (.if_icmp .ge 23, 3) := by decide +kernel
theorem dX3_countBetween_14 : decode cX3_countBetween 14 = .ok (.aload_n 0, 1) := by decide +kernel
theorem dX3_countBetween_15 : decode cX3_countBetween 15 = .ok (.iload 4, 2) := by decide +kernel
theorem dX3_countBetween_17 : decode cX3_countBetween 17 = .ok (.iload_n 1, 1) := by decide +kernel
theorem dX3_countBetween_18 : decode cX3_countBetween 18 = .ok (.iload_n 2, 1) := by decide +kernel
theorem dX3_countBetween_19 : decode cX3_countBetween 19 = .ok (.invokevirtual 56, 3) := by decide +kernel
theorem dX3_countBetween_22 : decode cX3_countBetween 22 = .ok (.ifCond .eq 6, 3) := by decide +kernel
theorem dX3_countBetween_25 : decode cX3_countBetween 25 = .ok (.iinc 3 1, 3) := by decide +kernel
theorem dX3_countBetween_28 : decode cX3_countBetween 28 = .ok (.iinc 4 1, 3) := by decide +kernel
theorem dX3_countBetween_31 : decode cX3_countBetween 31 = .ok (.goto (-26), 3) := by decide +kernel
theorem dX3_countBetween_34 : decode cX3_countBetween 34 = .ok (.iload_n 3, 1) := by decide +kernel
theorem dX3_countBetween_35 : decode cX3_countBetween 35 = .ok (.ireturn, 1) := by decide +kernel
theorem dX3_firstBetween_0 : decode cX3_firstBetween 0 = .ok (.iconst (-1), 1) := by decide +kernel
theorem dX3_firstBetween_1 : decode cX3_firstBetween 1 = .ok (.istore_n 3, 1) := by decide +kernel
theorem dX3_firstBetween_2 : decode cX3_firstBetween 2 = .ok (.iconst 0, 1) := by decide +kernel
theorem dX3_firstBetween_3 : decode cX3_firstBetween 3 = .ok (.istore 4, 2) := by decide +kernel
theorem dX3_firstBetween_5 : decode cX3_firstBetween 5 = .ok (.iload 4, 2) := by decide +kernel
theorem dX3_firstBetween_7 : decode cX3_firstBetween 7 = .ok (.aload_n 0, 1) := by decide +kernel
theorem dX3_firstBetween_8 : decode cX3_firstBetween 8 = .ok (.getfield 32, 3) := by decide +kernel
theorem dX3_firstBetween_11 : decode cX3_firstBetween 11 = .ok (.if_icmp .ge 33, 3) := by decide +kernel
theorem dX3_firstBetween_14 : decode cX3_firstBetween 14 = .ok (.aload_n 0, 1) := by decide +kernel
theorem dX3_firstBetween_15 : decode cX3_firstBetween 15 = .ok (.iload 4, 2) := by decide +kernel
theorem dX3_firstBetween_17 : decode cX3_firstBetween 17 = .ok (.iload_n 1, 1) := by decide +kernel
theorem dX3_firstBetween_18 : decode cX3_firstBetween 18 = .ok (.iload_n 2, 1) := by decide +kernel
theorem dX3_firstBetween_19 : decode cX3_firstBetween 19 = .ok (.invokevirtual 56, 3) := by decide +kernel
theorem dX3_firstBetween_22 : decode cX3_firstBetween 22 = .ok (.ifCond .eq 16, 3) := by decide +kernel
theorem dX3_firstBetween_25 : decode cX3_firstBetween 25 = .ok (.aload_n 0, 1) := by decide +kernel
theorem dX3_firstBetween_26 : decode cX3_firstBetween 26 = .ok (.iload 4, 2) := by decide +kernel
theorem dX3_firstBetween_28 : decode cX3_firstBetween 28 = .ok (.iload_n 3, 1) := by decide +kernel
theorem dX3_firstBetween_29 : decode cX3_firstBetween 29 = .ok (.invokevirtual 60, 3) := by decide +kernel
theorem dX3_firstBetween_32 : decode cX3_firstBetween 32 = .ok (.ifCond .eq 6, 3) := by decide +kernel
theorem dX3_firstBetween_35 : decode cX3_firstBetween 35 = .ok (.iload 4, 2) := by decide +kernel
theorem dX3_firstBetween_37 : decode cX3_firstBetween 37 = .ok (.istore_n 3, 1) := by decide +kernel
theorem dX3_firstBetween_38 : decode cX3_firstBetween 38 = .ok (.iinc 4 1, 3) := by decide +kernel
theorem dX3_firstBetween_41 : decode cX3_firstBetween 41 = .ok (.goto (-36), 3) := by decide +kernel
theorem dX3_firstBetween_44 : decode cX3_firstBetween 44 = .ok (.iload_n 3, 1) := by decide +kernel
theorem dX3_firstBetween_45 : decode cX3_firstBetween 45 = .ok (.ireturn, 1) := by decide +kernel
theorem dX4_init_0 : decode cX4_init 0 = .ok (.aload_n 0, 1) := by decide +kernel
theorem dX4_init_1 : decode cX4_init 1 = .ok (.invokespecial 3, 3) := by decide +kernel
theorem dX4_init_4 : decode cX4_init 4 = .ok (.aload_n 0, 1) := by decide +kernel
theorem dX4_init_5 : decode cX4_init 5 = .ok (.bipush 20, 2) := by decide +kernel
theorem dX4_init_7 : decode cX4_init 7 = .ok (.newarray .boolean, 2) := by decide +kernel
theorem dX4_init_9 : decode cX4_init 9 = .ok (.putfield 9, 3) := by decide +kernel
theorem dX4_init_12 : decode cX4_init 12 = .ok (.aload_n 0, 1) := by decide +kernel
theorem dX4_init_13 : decode cX4_init 13 = .ok (.bipush 20, 2) := by decide +kernel
theorem dX4_init_15 : decode cX4_init 15 = .ok (.newarray .int, 2) := by decide +kernel
theorem dX4_init_17 : decode cX4_init 17 = .ok (.putfield 15, 3) := by decide +kernel
theorem dX4_init_20 : decode cX4_init 20 = .ok (.aload_n 0, 1) := by decide +kernel
theorem dX4_init_21 : decode cX4_init 21 = .ok (.iconst 0, 1) := by decide +kernel
theorem dX4_init_22 : decode cX4_init 22 = .ok (.putfield 19, 3) := by decide +kernel
theorem dX4_init_25 : decode cX4_init 25 = .ok (.aload_n 0, 1) := by decide +kernel
theorem dX4_init_26 : decode cX4_init 26 = .ok (.aload_n 1, 1) := by decide +kernel
theorem dX4_init_27 : decode cX4_init 27 = .ok (.putfield 23, 3) := by decide +kernel
theorem dX4_init_30 : decode cX4_init 30 = .ok (.return_, 1) := by decide +kernel
theorem dX4_leadsTo_0 : decode cX4_leadsTo 0 = .ok (.aload_n 0, 1) := by decide +kernel
theorem dX4_leadsTo_1 : decode cX4_leadsTo 1 = .ok (.iconst 0, 1) := by decide +kernel
theorem dX4_leadsTo_2 : decode cX4_leadsTo 2 = .ok (.putfield 19, 3) := by decide +kernel
theorem dX4_leadsTo_5 : decode cX4_leadsTo 5 = .ok (.iconst 0, 1) := by decide +kernel
theorem dX4_leadsTo_6 : decode cX4_leadsTo 6 = .ok (.istore_n 3, 1) := by decide +kernel
theorem dX4_leadsTo_7 : decode cX4_leadsTo 7 = .ok (.iload_n 3, 1) := by decide +kernel
theorem dX4_leadsTo_8 : decode cX4_leadsTo 8 = .ok (.bipush 20, 2) := by decide +kernel
theorem dX4_leadsTo_10 : decode cX4_leadsTo 10 = .ok (.if_icmp .ge 16, 3) := by decide +kernel
theorem dX4_leadsTo_13 : decode cX4_leadsTo 13 = .ok (.aload_n 0, 1) := by decide +kernel
theorem dX4_leadsTo_14 : decode cX4_leadsTo 14 = .ok (.getfield 9, 3) := by decide +kernel
theorem dX4_leadsTo_17 : decode cX4_leadsTo 17 = .ok (.iload_n 3, 1) := by decide +kernel
theorem dX4_leadsTo_18 : decode cX4_leadsTo 18 = .ok (.iconst 0, 1) := by decide +kernel
theorem dX4_leadsTo_19 : decode cX4_leadsTo 19 = .ok (.bastore, 1) := by decide +kernel
theorem dX4_leadsTo_20 : decode cX4_leadsTo 20 = .ok (.iinc 3 1, 3) := by decide +kernel
theorem dX4_leadsTo_23 : decode cX4_leadsTo 23 = .ok (.goto (-16), 3) := by decide +kernel
theorem dX4_leadsTo_26 : decode cX4_leadsTo 26 = .ok (.aload_n 0, 1) := by decide +kernel
theorem dX4_leadsTo_27 : decode cX4_leadsTo 27 = .ok (.iload_n 1, 1) := by decide +kernel
theorem dX4_leadsTo_28 : decode cX4_leadsTo 28 = .ok (.invokevirtual 27, 3) := by decide +kernel
theorem dX4_leadsTo_31 : decode cX4_leadsTo 31 = .ok (.iconst 0, 1) := by decide +kernel
theorem dX4_leadsTo_32 : decode cX4_leadsTo 32 = .ok (.istore_n 3, 1) := by decide +kernel
theorem dX4_leadsTo_33 : decode cX4_leadsTo 33 = .ok (.iload_n 3, 1) := by decide +kernel
theorem dX4_leadsTo_34 : decode cX4_leadsTo 34 = .ok (.bipush 20, 2) := by decide +kernel
theorem dX4_leadsTo_36 : decode cX4_leadsTo 36 = .ok (.if_icmp .ge 27, 3) := by decide +kernel
theorem dX4_leadsTo_39 : decode cX4_leadsTo 39 = .ok (.iload_n 3, 1) := by decide +kernel
theorem dX4_leadsTo_40 : decode cX4_leadsTo 40 = .ok (.aload_n 0, 1) := by decide +kernel
theorem dX4_leadsTo_41 : decode cX4_leadsTo 41 = .ok (.getfield 19, 3) := by decide +kernel
theorem dX4_leadsTo_44 : decode cX4_leadsTo 44 = .ok (.if_icmp .ge 19, 3) := by decide +kernel
theorem dX4_leadsTo_47 : decode cX4_leadsTo 47 = .ok (.aload_n 0, 1) := by decide +kernel
theorem dX4_leadsTo_48 : decode cX4_leadsTo 48 = .ok (.aload_n 0, 1) := by decide +kernel
theorem dX4_leadsTo_49 : decode cX4_leadsTo 49 = .ok (.getfield 15, 3) := by decide +kernel
theorem dX4_leadsTo_52 : decode cX4_leadsTo 52 = .ok (.iload_n 3, 1) := by decide +kernel
theorem dX4_leadsTo_53 : decode cX4_leadsTo 53 = .ok (.iaload, 1) := by decide +kernel
theorem dX4_leadsTo_54 : decode cX4_leadsTo 54 = .ok (.invokevirtual 31, 3) := by decide +kernel
theorem dX4_leadsTo_57 : decode cX4_leadsTo 57 = .ok (.iinc 3 1, 3) := by decide +kernel
theorem dX4_leadsTo_60 : decode cX4_leadsTo 60 = .ok (.goto (-27), 3) := by decide +kernel
theorem dX4_leadsTo_63 : decode cX4_leadsTo 63 = .ok (.aload_n 0, 1) := by decide +kernel
theorem dX4_leadsTo_64 : decode cX4_leadsTo 64 = .ok (.getfield 23, 3) := by decide +kernel
theorem dX4_leadsTo_67 : decode cX4_leadsTo 67 = .ok (.iload_n 2, 1) := by decide +kernel
theorem dX4_leadsTo_68 : decode cX4_leadsTo 68 = .ok (.invokevirtual 34, 3) := by decide +kernel
theorem dX4_leadsTo_71 : decode cX4_leadsTo 71 = .ok (.ifCond .eq 16, 3) := by decide +kernel
theorem dX4_leadsTo_74 : decode cX4_leadsTo 74 = .ok (.aload_n 0, 1) := by decide +kernel
theorem dX4_leadsTo_75 : decode cX4_leadsTo 75 = .ok (.getfield 9, 3) := by decide +kernel
theorem dX4_leadsTo_78 : decode cX4_leadsTo 78 = .ok (.iload_n 2, 1) := by decide +kernel
theorem dX4_leadsTo_79 : decode cX4_leadsTo 79 = .ok (.baload, 1) := by decide +kernel
theorem dX4_leadsTo_80 : decode cX4_leadsTo 80 = .ok (.ifCond .eq 7, 3) := by decide +kernel
theorem dX4_leadsTo_83 : decode cX4_leadsTo 83 = .ok (.iconst 1, 1) := by decide +kernel
theorem dX4_leadsTo_84 : decode cX4_leadsTo 84 = .ok (.goto 4, 3) := by decide +kernel
theorem dX4_leadsTo_87 : decode cX4_leadsTo 87 = .ok (.iconst 0, 1) := by decide +kernel
theorem dX4_leadsTo_88 : decode cX4_leadsTo 88 = .ok (.ireturn, 1) := by decide +kernel
theorem dX4_visitAround_0 : decode cX4_visitAround 0 = .ok (.iconst 0, 1) := by decide +kernel
theorem dX4_visitAround_1 : decode cX4_visitAround 1 = .ok (.istore_n 2, 1) := by decide +kernel
theorem dX4_visitAround_2 : decode cX4_visitAround 2 = .ok (.iload_n 2, 1) := by decide +kernel
theorem dX4_visitAround_3 : decode cX4_visitAround 3 = .ok (.aload_n 0, 1) := by decide +kernel
theorem dX4_visitAround_4 : decode cX4_visitAround 4 = .ok (.getfield 23, 3) := by decide +kernel
theorem dX4_visitAround_7 : decode cX4_visitAround 7 = .ok (.invokevirtual 40, 3) := by decide +kernel
theorem dX4_visitAround_10 : decode cX4_visitAround 10 = .ok (.if_icmp .ge 33, 3) := by decide +kernel
theorem dX4_visitAround_13 : decode cX4_visitAround 13 = .ok (.aload_n 0, 1) := by decide +kernel
theorem dX4_visitAround_14 : decode cX4_visitAround 14 = .ok (.getfield 23, 3) := by decide +kernel
theorem dX4_visitAround_17 : decode cX4_visitAround 17 = .ok (.iload_n 2, 1) := by decide +kernel
theorem dX4_visitAround_18 : decode cX4_visitAround 18 = .ok (.invokevirtual 44, 3) := by decide +kernel
theorem dX4_visitAround_21 : decode cX4_visitAround 21 = .ok (.ifCond .eq 16, 3) := by decide +kernel
theorem dX4_visitAround_24 : decode cX4_visitAround 24 = .ok (.aload_n 0, 1) := by decide +kernel
theorem dX4_visitAround_25 : decode cX4_visitAround 25 = .ok (.aload_n 0, 1) := by decide +kernel
theorem dX4_visitAround_26 : decode cX4_visitAround 26 = .ok (.getfield 23, 3) := by decide +kernel
theorem dX4_visitAround_29 : decode cX4_visitAround 29 = .ok (.iload_n 2, 1) := by decide +kernel
theorem dX4_visitAround_30 : decode cX4_visitAround 30 = .ok (.iload_n 1, 1) := by decide +kernel
theorem dX4_visitAround_31 : decode cX4_visitAround 31 = .ok (.invokevirtual 47, 3) := by decide +kernel
theorem dX4_visitAround_34 : decode cX4_visitAround 34 = .ok (.invokevirtual 27, 3) := by decide +kernel
theorem dX4_visitAround_37 : decode cX4_visitAround 37 = .ok (.iinc 2 1, 3) := by decide +kernel
theorem dX4_visitAround_40 : decode cX4_visitAround 40 = .ok (.goto (-38), 3) := by decide +kernel
theorem dX4_visitAround_43 : decode cX4_visitAround 43 = .ok (.return_, 1) := by decide +kernel
theorem dX4_visit_0 : decode cX4_visit 0 = .ok (.aload_n 0, 1) := by decide +kernel
theorem dX4_visit_1 : decode cX4_visit 1 = .ok (.getfield 23, 3) := by decide +kernel
theorem dX4_visit_4 : decode cX4_visit 4 = .ok (.iload_n 1, 1) := by decide +kernel
theorem dX4_visit_5 : decode cX4_visit 5 = .ok (.invokevirtual 34, 3) := by decide +kernel
theorem dX4_visit_8 : decode cX4_visit 8 = .ok (.ifCond .eq 48, 3) := by decide +kernel
theorem dX4_visit_11 : decode cX4_visit 11 = .ok (.aload_n 0, 1) := by decide +kernel
theorem dX4_visit_12 : decode cX4_visit 12 = .ok (.getfield 9, 3) := by decide +kernel
theorem dX4_visit_15 : decode cX4_visit 15 = .ok (.iload_n 1, 1) := by decide +kernel
theorem dX4_visit_16 : decode cX4_visit 16 = .ok (.baload, 1) := by decide +kernel
theorem dX4_visit_17 : decode cX4_visit 17 = .ok (.ifCond .ne 39, 3) := by decide +kernel
theorem dX4_visit_20 : decode cX4_visit 20 = .ok (.aload_n 0, 1) := by decide +kernel
theorem dX4_visit_21 : decode cX4_visit 21 = .ok (.getfield 19, 3) := by decide +kernel
theorem dX4_visit_24 : decode cX4_visit 24 = .ok (.bipush 20, 2) := by decide +kernel
theorem dX4_visit_26 : decode cX4_visit 26 = .ok (.if_icmp .ge 30, 3) := by decide +kernel
theorem dX4_visit_29 : decode cX4_visit 29 = .ok (.aload_n 0, 1) := by decide +kernel
theorem dX4_visit_30 : decode cX4_visit 30 = .ok (.getfield 9, 3) := by decide +kernel
theorem dX4_visit_33 : decode cX4_visit 33 = .ok (.iload_n 1, 1) := by decide +kernel
theorem dX4_visit_34 : decode cX4_visit 34 = .ok (.iconst 1, 1) := by decide +kernel
theorem dX4_visit_35 : decode cX4_visit 35 = .ok (.bastore, 1) := by decide +kernel
theorem dX4_visit_36 : decode cX4_visit 36 = .ok (.aload_n 0, 1) := by decide +kernel
theorem dX4_visit_37 : decode cX4_visit 37 = .ok (.getfield 15, 3) := by decide +kernel
theorem dX4_visit_40 : decode cX4_visit 40 = .ok (.aload_n 0, 1) := by decide +kernel
theorem dX4_visit_41 : decode cX4_visit 41 = .ok (.getfield 19, 3) := by decide +kernel
theorem dX4_visit_44 : decode cX4_visit 44 = .ok (.iload_n 1, 1) := by decide +kernel
theorem dX4_visit_45 : decode cX4_visit 45 = .ok (.iastore, 1) := by decide +kernel
theorem dX4_visit_46 : decode cX4_visit 46 = .ok (.aload_n 0, 1) := by decide +kernel
theorem dX4_visit_47 : decode cX4_visit 47 = .ok (.dup, 1) := by decide +kernel
theorem dX4_visit_48 : decode cX4_visit 48 = .ok (.getfield 19, 3) := by decide +kernel
theorem dX4_visit_51 : decode cX4_visit 51 = .ok (.iconst 1, 1) := by decide +kernel
theorem dX4_visit_52 : decode cX4_visit 52 = .ok (.iadd, 1) := by decide +kernel
theorem dX4_visit_53 : decode cX4_visit 53 = .ok (.putfield 19, 3) := by decide +kernel
theorem dX4_visit_56 : decode cX4_visit 56 = .ok (.return_, 1) := by decide +kernel
theorem dX5_init_0 : decode cX5_init 0 = .ok (.aload_n 0, 1) := by decide +kernel
theorem dX5_init_1 : decode cX5_init 1 = .ok (.invokespecial 3, 3) := by decide +kernel
theorem dX5_init_4 : decode cX5_init 4 = .ok (.aload_n 0, 1) := by decide +kernel
theorem dX5_init_5 : decode cX5_init 5 = .ok (.bipush 20, 2) := by decide +kernel
theorem dX5_init_7 : decode cX5_init 7 = .ok (.newarray .int, 2) := by decide +kernel
theorem dX5_init_9 : decode cX5_init 9 = .ok (.putfield 9, 3) := by decide +kernel
theorem dX5_init_12 : decode cX5_init 12 = .ok (.aload_n 0, 1) := by decide +kernel
theorem dX5_init_13 : decode cX5_init 13 = .ok (.bipush 20, 2) := by decide +kernel
theorem dX5_init_15 : decode cX5_init 15 = .ok (.newarray .int, 2) := by decide +kernel
theorem dX5_init_17 : decode cX5_init 17 = .ok (.putfield 15, 3) := by decide +kernel
theorem dX5_init_20 : decode cX5_init 20 = .ok (.aload_n 0, 1) := by decide +kernel
theorem dX5_init_21 : decode cX5_init 21 = .ok (.bipush 20, 2) := by decide +kernel
theorem dX5_init_23 : decode cX5_init 23 = .ok (.newarray .int, 2) := by decide +kernel
theorem dX5_init_25 : decode cX5_init 25 = .ok (.putfield 18, 3) := by decide +kernel
theorem dX5_init_28 : decode cX5_init 28 = .ok (.aload_n 0, 1) := by decide +kernel
theorem dX5_init_29 : decode cX5_init 29 = .ok (.bipush 20, 2) := by decide +kernel
theorem dX5_init_31 : decode cX5_init 31 = .ok (.newarray .int, 2) := by decide +kernel
theorem dX5_init_33 : decode cX5_init 33 = .ok (.putfield 21, 3) := by decide +kernel
theorem dX5_init_36 : decode cX5_init 36 = .ok (.aload_n 0, 1) := by decide +kernel
theorem dX5_init_37 : decode cX5_init 37 = .ok (.bipush 20, 2) := by decide +kernel
theorem dX5_init_39 : decode cX5_init 39 = .ok (.newarray .int, 2) := by decide +kernel
theorem dX5_init_41 : decode cX5_init 41 = .ok (.putfield 24, 3) := by decide +kernel
theorem dX5_init_44 : decode cX5_init 44 = .ok (.aload_n 0, 1) := by decide +kernel
theorem dX5_init_45 : decode cX5_init 45 = .ok (.bipush 20, 2) := by decide +kernel
theorem dX5_init_47 : decode cX5_init 47 = .ok (.newarray .int, 2) := by decide +kernel
theorem dX5_init_49 : decode cX5_init 49 = .ok (.putfield 27, 3) := by decide +kernel
theorem dX5_init_52 : decode cX5_init 52 = .ok (.aload_n 0, 1) := by decide +kernel
theorem dX5_init_53 : decode cX5_init 53 = .ok (.aload_n 1, 1) := by decide +kernel
theorem dX5_init_54 : decode cX5_init 54 = .ok (.putfield 30, 3) := by decide +kernel
theorem dX5_init_57 : decode cX5_init 57 = .ok (.aload_n 0, 1) := by decide +kernel
theorem dX5_init_58 : decode cX5_init 58 = .ok (.aload_n 2, 1) := by decide +kernel
theorem dX5_init_59 : decode cX5_init 59 = .ok (.putfield 34, 3) := by decide +kernel
theorem dX5_init_62 : decode cX5_init 62 = .ok (.return_, 1) := by decide +kernel
theorem dX5_build_0 : decode cX5_build 0 = .ok (.iconst 0, 1) := by decide +kernel
theorem dX5_build_1 : decode cX5_build 1 = .ok (.istore_n 1, 1) := by decide +kernel
theorem dX5_build_2 : decode cX5_build 2 = .ok (.iload_n 1, 1) := by decide +kernel
theorem dX5_build_3 : decode cX5_build 3 = .ok (.bipush 20, 2) := by decide +kernel
theorem dX5_build_5 : decode cX5_build 5 = .ok (.if_icmp .ge 37, 3) := by decide +kernel
theorem dX5_build_8 : decode cX5_build 8 = .ok (.aload_n 0, 1) := by decide +kernel
theorem dX5_build_9 : decode cX5_build 9 = .ok (.getfield 9, 3) := by decide +kernel
theorem dX5_build_12 : decode cX5_build 12 = .ok (.iload_n 1, 1) := by decide +kernel
theorem dX5_build_13 : decode cX5_build 13 = .ok (.iconst 1, 1) := by decide +kernel
theorem dX5_build_14 : decode cX5_build 14 = .ok (.iastore, 1) := by decide +kernel
theorem dX5_build_15 : decode cX5_build 15 = .ok (.aload_n 0, 1) := by decide +kernel
theorem dX5_build_16 : decode cX5_build 16 = .ok (.getfield 15, 3) := by decide +kernel
theorem dX5_build_19 : decode cX5_build 19 = .ok (.iload_n 1, 1) := by decide +kernel
theorem dX5_build_20 : decode cX5_build 20 = .ok (.aload_n 0, 1) := by decide +kernel
theorem dX5_build_21 : decode cX5_build 21 = .ok (.getfield 30, 3) := by decide +kernel
theorem dX5_build_24 : decode cX5_build 24 = .ok (.iload_n 1, 1) := by decide +kernel
theorem dX5_build_25 : decode cX5_build 25 = .ok (.invokevirtual 38, 3) := by decide +kernel
theorem dX5_build_28 : decode cX5_build 28 = .ok (.iastore, 1) := by decide +kernel
theorem dX5_build_29 : decode cX5_build 29 = .ok (.aload_n 0, 1) := by decide +kernel
theorem dX5_build_30 : decode cX5_build 30 = .ok (.getfield 18, 3) := by decide +kernel
theorem dX5_build_33 : decode cX5_build 33 = .ok (.iload_n 1, 1) := by decide +kernel
theorem dX5_build_34 : decode cX5_build 34 = .ok (.iconst (-1), 1) := by decide +kernel
theorem dX5_build_35 : decode cX5_build 35 = .ok (.iastore, 1) := by decide +kernel
theorem dX5_build_36 : decode cX5_build 36 = .ok (.iinc 1 1, 3) := by decide +kernel
theorem dX5_build_39 : decode cX5_build 39 = .ok (.goto (-37), 3) := by decide +kernel
theorem dX5_build_42 : decode cX5_build 42 = .ok (.aload_n 0, 1) := by decide +kernel
theorem dX5_build_43 : decode cX5_build 43 = .ok (.getfield 34, 3) := by decide +kernel
theorem dX5_build_46 : decode cX5_build 46 = .ok (.invokevirtual 44, 3) := by decide +kernel
theorem dX5_build_49 : decode cX5_build 49 = .ok (.iconst 1, 1) := by decide +kernel
theorem dX5_build_50 : decode cX5_build 50 = .ok (.isub, 1) := by decide +kernel
theorem dX5_build_51 : decode cX5_build 51 = .ok (.istore_n 1, 1) := by decide +kernel
theorem dX5_build_52 : decode cX5_build 52 = .ok (.iload_n 1, 1) := by decide +kernel
theorem dX5_build_53 : decode cX5_build 53 = .ok (.ifCond .lt 21, 3) := by decide +kernel
theorem dX5_build_56 : decode cX5_build 56 = .ok (.aload_n 0, 1) := by decide +kernel
theorem dX5_build_57 : decode cX5_build 57 = .ok (.aload_n 0, 1) := by decide +kernel
theorem dX5_build_58 : decode cX5_build 58 = .ok (.getfield 34, 3) := by decide +kernel
theorem dX5_build_61 : decode cX5_build 61 = .ok (.iload_n 1, 1) := by decide +kernel
theorem dX5_build_62 : decode cX5_build 62 = .ok (.invokevirtual 50, 3) := by decide +kernel
theorem dX5_build_65 : decode cX5_build 65 = .ok (.invokevirtual 53, 3) := by decide +kernel
theorem dX5_build_68 : decode cX5_build 68 = .ok (.iinc 1 (-1), 3) := by decide +kernel
theorem dX5_build_71 : decode cX5_build 71 = .ok (.goto (-19), 3) := by decide +kernel
theorem dX5_build_74 : decode cX5_build 74 = .ok (.iconst 0, 1) := by decide +kernel
theorem dX5_build_75 : decode cX5_build 75 = .ok (.istore_n 1, 1) := by decide +kernel
theorem dX5_build_76 : decode cX5_build 76 = .ok (.iload_n 1, 1) := by decide +kernel
theorem dX5_build_77 : decode cX5_build 77 = .ok (.aload_n 0, 1) := by decide +kernel
theorem dX5_build_78 : decode cX5_build 78 = .ok (.getfield 34, 3) := by decide +kernel
theorem dX5_build_81 : decode cX5_build 81 = .ok (.invokevirtual 44, 3) := by decide +kernel
theorem dX5_build_84 : decode cX5_build 84 = .ok (.if_icmp .ge 21, 3) := by decide +kernel
theorem dX5_build_87 : decode cX5_build 87 = .ok (.aload_n 0, 1) := by decide +kernel
theorem dX5_build_88 : decode cX5_build 88 = .ok (.aload_n 0, 1) := by decide +kernel
theorem dX5_build_89 : decode cX5_build 89 = .ok (.getfield 34, 3) := by decide +kernel
theorem dX5_build_92 : decode cX5_build 92 = .ok (.iload_n 1, 1) := by decide +kernel
theorem dX5_build_93 : decode cX5_build 93 = .ok (.invokevirtual 50, 3) := by decide +kernel
theorem dX5_build_96 : decode cX5_build 96 = .ok (.invokevirtual 57, 3) := by decide +kernel
theorem dX5_build_99 : decode cX5_build 99 = .ok (.iinc 1 1, 3) := by decide +kernel
theorem dX5_build_102 : decode cX5_build 102 = .ok (.goto (-26), 3) := by decide +kernel
theorem dX5_build_105 : decode cX5_build 105 = .ok (.return_, 1) := by decide +kernel
theorem dX5_handUp_0 : decode cX5_handUp 0 = .ok (.aload_n 0, 1) := by decide +kernel
theorem dX5_handUp_1 : decode cX5_handUp 1 = .ok (.getfield 34, 3) := by decide +kernel
theorem dX5_handUp_4 : decode cX5_handUp 4 = .ok (.iload_n 1, 1) := by decide +kernel
theorem dX5_handUp_5 : decode cX5_handUp 5 = .ok (.invokevirtual 60, 3) := by decide +kernel
theorem dX5_handUp_8 : decode cX5_handUp 8 = .ok (.istore_n 2, 1) := by decide +kernel
theorem dX5_handUp_9 : decode cX5_handUp 9 = .ok (.aload_n 0, 1) := by decide +kernel
theorem dX5_handUp_10 : decode cX5_handUp 10 = .ok (.getfield 30, 3) := by decide +kernel
theorem dX5_handUp_13 : decode cX5_handUp 13 = .ok (.iload_n 1, 1) := by decide +kernel
theorem dX5_handUp_14 : decode cX5_handUp 14 = .ok (.invokevirtual 63, 3) := by decide +kernel
theorem dX5_handUp_17 : decode cX5_handUp 17 = .ok (.ifCond .eq 14, 3) := by decide +kernel
theorem dX5_handUp_20 : decode cX5_handUp 20 = .ok (.aload_n 0, 1) := by decide +kernel
theorem dX5_handUp_21 : decode cX5_handUp 21 = .ok (.getfield 30, 3) := by decide +kernel
theorem dX5_handUp_24 : decode cX5_handUp 24 = .ok (.iload_n 2, 1) := by decide +kernel
theorem dX5_handUp_25 : decode cX5_handUp 25 = .ok (.invokevirtual 63, 3) := by decide +kernel
theorem dX5_handUp_28 : decode cX5_handUp 28 = .ok (.ifCond .ne 4, 3) := by decide +kernel
theorem dX5_handUp_31 : decode cX5_handUp 31 = .ok (.return_, 1) := by decide +kernel
theorem dX5_handUp_32 : decode cX5_handUp 32 = .ok (.aload_n 0, 1) := by decide +kernel
theorem dX5_handUp_33 : decode cX5_handUp 33 = .ok (.getfield 9, 3) := by decide +kernel
theorem dX5_handUp_36 : decode cX5_handUp 36 = .ok (.iload_n 2, 1) := by decide +kernel
theorem dX5_handUp_37 : decode cX5_handUp 37 = .ok (.dup2, 1) := by decide +kernel
theorem dX5_handUp_38 : decode cX5_handUp 38 = .ok (.iaload, 1) := by decide +kernel
theorem dX5_handUp_39 : decode cX5_handUp 39 = .ok (.aload_n 0, 1) := by decide +kernel
theorem dX5_handUp_40 : decode cX5_handUp 40 = .ok (.getfield 9, 3) := by decide +kernel
theorem dX5_handUp_43 : decode cX5_handUp 43 = .ok (.iload_n 1, 1) := by decide +kernel
theorem dX5_handUp_44 : decode cX5_handUp 44 = .ok (.iaload, 1) := by decide +kernel
theorem dX5_handUp_45 : decode cX5_handUp 45 = .ok (.iadd, 1) := by decide +kernel
theorem dX5_handUp_46 : decode cX5_handUp 46 = .ok (.iastore, 1) := by decide +kernel
theorem dX5_handUp_47 : decode cX5_handUp 47 = .ok (.aload_n 0, 1) := by decide +kernel
theorem dX5_handUp_48 : decode cX5_handUp 48 = .ok (.getfield 15, 3) := by decide +kernel
theorem dX5_handUp_51 : decode cX5_handUp 51 = .ok (.iload_n 2, 1) := by decide +kernel
theorem dX5_handUp_52 : decode cX5_handUp 52 = .ok (.dup2, 1) := by decide +kernel
theorem dX5_handUp_53 : decode cX5_handUp 53 = .ok (.iaload, 1) := by decide +kernel
theorem dX5_handUp_54 : decode cX5_handUp 54 = .ok (.aload_n 0, 1) := by decide +kernel
theorem dX5_handUp_55 : decode cX5_handUp 55 = .ok (.getfield 15, 3) := by decide +kernel
theorem dX5_handUp_58 : decode cX5_handUp 58 = .ok (.iload_n 1, 1) := by decide +kernel
theorem dX5_handUp_59 : decode cX5_handUp 59 = .ok (.iaload, 1) := by decide +kernel
theorem dX5_handUp_60 : decode cX5_handUp 60 = .ok (.iadd, 1) := by decide +kernel
theorem dX5_handUp_61 : decode cX5_handUp 61 = .ok (.iastore, 1) := by decide +kernel
theorem dX5_handUp_62 : decode cX5_handUp 62 = .ok (.aload_n 0, 1) := by decide +kernel
theorem dX5_handUp_63 : decode cX5_handUp 63 = .ok (.iload_n 1, 1) := by decide +kernel
theorem dX5_handUp_64 : decode cX5_handUp 64 = .ok (.aload_n 0, 1) := by decide +kernel
theorem dX5_handUp_65 : decode cX5_handUp 65 = .ok (.getfield 18, 3) := by decide +kernel
theorem dX5_handUp_68 : decode cX5_handUp 68 = .ok (.iload_n 2, 1) := by decide +kernel
theorem dX5_handUp_69 : decode cX5_handUp 69 = .ok (.iaload, 1) := by decide +kernel
theorem dX5_handUp_70 : decode cX5_handUp 70 = .ok (.invokevirtual 67, 3) := by decide +kernel
theorem dX5_handUp_73 : decode cX5_handUp 73 = .ok (.ifCond .eq 10, 3) := by decide +kernel
theorem dX5_handUp_76 : decode cX5_handUp 76 = .ok (.aload_n 0, 1) := by decide +kernel
theorem dX5_handUp_77 : decode cX5_handUp 77 = .ok (.getfield 18, 3) := by decide +kernel
theorem dX5_handUp_80 : decode cX5_handUp 80 = .ok (.iload_n 2, 1) := by decide +kernel
theorem dX5_handUp_81 : decode cX5_handUp 81 = .ok (.iload_n 1, 1) := by decide +kernel
theorem dX5_handUp_82 : decode cX5_handUp 82 = .ok (.iastore, 1) := by decide +kernel
theorem dX5_handUp_83 : decode cX5_handUp 83 = .ok (.return_, 1) := by decide +kernel
theorem dX5_isHeavier_0 : decode cX5_isHeavier 0 = .ok (.iload_n 2, 1) := by decide +kernel
theorem dX5_isHeavier_1 : decode cX5_isHeavier 1 = .ok (.iconst (-1), 1) := by decide +kernel
theorem dX5_isHeavier_2 : decode cX5_isHeavier 2 = .ok (.if_icmp .eq 16, 3) := by decide +kernel
theorem dX5_isHeavier_5 : decode cX5_isHeavier 5 = .ok (.aload_n 0, 1) := by decide +kernel
theorem dX5_isHeavier_6 : decode cX5_isHeavier 6 = .ok (.iload_n 1, 1) := by decide +kernel
theorem dX5_isHeavier_7 : decode cX5_isHeavier 7 = .ok (.invokevirtual 71, 3) := by decide +kernel
theorem dX5_isHeavier_10 : decode cX5_isHeavier 10 = .ok (.aload_n 0, 1) := by decide +kernel
theorem dX5_isHeavier_11 : decode cX5_isHeavier 11 = .ok (.iload_n 2, 1) := by decide +kernel
theorem dX5_isHeavier_12 : decode cX5_isHeavier 12 = .ok (.invokevirtual 71, 3) := by decide +kernel
theorem dX5_isHeavier_15 : decode cX5_isHeavier 15 = .ok (.if_icmp .le 5, 3) := by decide +kernel
theorem dX5_isHeavier_18 : decode cX5_isHeavier 18 = .ok (.iconst 1, 1) := by decide +kernel
theorem dX5_isHeavier_19 : decode cX5_isHeavier 19 = .ok (.ireturn, 1) := by decide +kernel
theorem dX5_isHeavier_20 : decode cX5_isHeavier 20 = .ok (.aload_n 0, 1) := by decide +kernel
theorem dX5_isHeavier_21 : decode cX5_isHeavier 21 = .ok (.iload_n 1, 1) := by decide +kernel
theorem dX5_isHeavier_22 : decode cX5_isHeavier 22 = .ok (.invokevirtual 71, 3) := by decide +kernel
theorem dX5_isHeavier_25 : decode cX5_isHeavier 25 = .ok (.aload_n 0, 1) := by decide +kernel
theorem dX5_isHeavier_26 : decode cX5_isHeavier 26 = .ok (.iload_n 2, 1) := by decide +kernel
theorem dX5_isHeavier_27 : decode cX5_isHeavier 27 = .ok (.invokevirtual 71, 3) := by decide +kernel
theorem dX5_isHeavier_30 : decode cX5_isHeavier 30 = .ok (.if_icmp .ne 12, 3) := by decide +kernel
theorem dX5_isHeavier_33 : decode cX5_isHeavier 33 = .ok (.iload_n 1, 1) := by decide +kernel
theorem dX5_isHeavier_34 : decode cX5_isHeavier 34 = .ok (.iload_n 2, 1) := by decide +kernel
theorem dX5_isHeavier_35 : decode cX5_isHeavier 35 = .ok (.if_icmp .ge 7, 3) := by decide +kernel
theorem dX5_isHeavier_38 : decode cX5_isHeavier 38 = .ok (.iconst 1, 1) := by decide +kernel
theorem dX5_isHeavier_39 : decode cX5_isHeavier 39 = .ok (.goto 4, 3) := by decide +kernel
theorem dX5_isHeavier_42 : decode cX5_isHeavier 42 = .ok (.iconst 0, 1) := by decide +kernel
theorem dX5_isHeavier_43 : decode cX5_isHeavier 43 = .ok (.ireturn, 1) := by decide +kernel
theorem dX5_followDown_0 : decode cX5_followDown 0 = .ok (.aload_n 0, 1) := by decide +kernel
theorem dX5_followDown_1 : decode cX5_followDown 1 = .ok (.getfield 30, 3) := by decide +kernel
theorem dX5_followDown_4 : decode cX5_followDown 4 = .ok (.iload_n 1, 1) := by decide +kernel
theorem dX5_followDown_5 : decode cX5_followDown 5 = .ok (.invokevirtual 63, 3) := by decide +kernel
theorem dX5_followDown_8 : decode cX5_followDown 8 = .ok (.ifCond .ne 4, 3) := by decide +kernel
theorem dX5_followDown_11 : decode cX5_followDown 11 = .ok (.return_, 1) := by decide +kernel
theorem dX5_followDown_12 : decode cX5_followDown 12 = .ok (.aload_n 0, 1) := by decide +kernel
theorem dX5_followDown_13 : decode cX5_followDown 13 = .ok (.getfield 34, 3) := by decide +kernel
theorem dX5_followDown_16 : decode cX5_followDown 16 = .ok (.iload_n 1, 1) := by decide +kernel
theorem dX5_followDown_17 : decode cX5_followDown 17 = .ok (.invokevirtual 60, 3) := by decide +kernel
theorem dX5_followDown_20 : decode cX5_followDown 20 = .ok (.istore_n 2, 1) := by decide +kernel
theorem dX5_followDown_21 : decode cX5_followDown 21 = .ok (.iload_n 2, 1) := by decide +kernel
theorem dX5_followDown_22 : decode cX5_followDown 22 = .ok (.iconst (-1), 1) := by decide +kernel
theorem dX5_followDown_23 : decode cX5_followDown 23 = .ok (.if_icmp .eq 16, 3) := by decide +kernel
theorem dX5_followDown_26 : decode cX5_followDown 26 = .ok (.aload_n 0, 1) := by decide +kernel
theorem dX5_followDown_27 : decode cX5_followDown 27 = .ok (.iload_n 2, 1) := by decide +kernel
theorem dX5_followDown_28 : decode cX5_followDown 28 = .ok (.invokevirtual 74, 3) := by decide +kernel
theorem dX5_followDown_31 : decode cX5_followDown 31 = .ok (.iload_n 1, 1) := by decide +kernel
theorem dX5_followDown_32 : decode cX5_followDown 32 = .ok (.if_icmp .ne 7, 3) := by decide +kernel
theorem dX5_followDown_35 : decode cX5_followDown 35 = .ok (.iconst 1, 1) := by decide +kernel
theorem dX5_followDown_36 : decode cX5_followDown 36 = .ok (.goto 4, 3) := by decide +kernel
theorem dX5_followDown_39 : decode cX5_followDown 39 = .ok (.iconst 0, 1) := by decide +kernel
theorem dX5_followDown_40 : decode cX5_followDown 40 = .ok (.istore_n 3, 1) := by decide +kernel
theorem dX5_followDown_41 : decode cX5_followDown 41 = .ok (.iload_n 2, 1) := by decide +kernel
theorem dX5_followDown_42 : decode cX5_followDown 42 = .ok (.iconst (-1), 1) := by decide +kernel
theorem dX5_followDown_43 : decode cX5_followDown 43 = .ok (.if_icmp .eq 11, 3) := by decide +kernel
theorem dX5_followDown_46 : decode cX5_followDown 46 = .ok (.iload_n 3, 1) := by decide +kernel
theorem dX5_followDown_47 : decode cX5_followDown 47 = .ok (.ifCond .ne 7, 3) := by decide +kernel
theorem dX5_followDown_50 : decode cX5_followDown 50 = .ok (.iconst 1, 1) := by decide +kernel
theorem dX5_followDown_51 : decode cX5_followDown 51 = .ok (.goto 4, 3) := by decide +kernel
theorem dX5_followDown_54 : decode cX5_followDown 54 = .ok (.iconst 0, 1) := by decide +kernel
theorem dX5_followDown_55 : decode cX5_followDown 55 = .ok (.istore 4, 2) := by decide +kernel
theorem dX5_followDown_57 : decode cX5_followDown 57 = .ok (.aload_n 0, 1) := by decide +kernel
theorem dX5_followDown_58 : decode cX5_followDown 58 = .ok (.getfield 21, 3) := by decide +kernel
theorem dX5_followDown_61 : decode cX5_followDown 61 = .ok (.iload_n 1, 1) := by decide +kernel
theorem dX5_followDown_62 : decode cX5_followDown 62 = .ok (.iload_n 3, 1) := by decide +kernel
theorem dX5_followDown_63 : decode cX5_followDown 63 = .ok (.ifCond .eq 11, 3) := by decide +kernel
theorem dX5_followDown_66 : decode cX5_followDown 66 = .ok (.aload_n 0, 1) := by decide +kernel
theorem dX5_followDown_67 : decode cX5_followDown 67 = .ok (.iload_n 2, 1) := by decide +kernel
theorem dX5_followDown_68 : decode cX5_followDown 68 = .ok (.invokevirtual 77, 3) := by decide +kernel
theorem dX5_followDown_71 : decode cX5_followDown 71 = .ok (.goto 4, 3) := by decide +kernel
theorem dX5_followDown_74 : decode cX5_followDown 74 = .ok (.iload_n 1, 1) := by decide +kernel
theorem dX5_followDown_75 : decode cX5_followDown 75 = .ok (.iastore, 1) := by decide +kernel
theorem dX5_followDown_76 : decode cX5_followDown 76 = .ok (.aload_n 0, 1) := by decide +kernel
theorem dX5_followDown_77 : decode cX5_followDown 77 = .ok (.getfield 24, 3) := by decide +kernel
theorem dX5_followDown_80 : decode cX5_followDown 80 = .ok (.iload_n 1, 1) := by decide +kernel
theorem dX5_followDown_81 : decode cX5_followDown 81 = .ok (.aload_n 0, 1) := by decide +kernel
theorem dX5_followDown_82 : decode cX5_followDown 82 = .ok (.getfield 30, 3) := by decide +kernel
theorem dX5_followDown_85 : decode cX5_followDown 85 = .ok (.iload_n 1, 1) := by decide +kernel
theorem dX5_followDown_86 : decode cX5_followDown 86 = .ok (.invokevirtual 38, 3) := by decide +kernel
theorem dX5_followDown_89 : decode cX5_followDown 89 = .ok (.iload_n 3, 1) := by decide +kernel
theorem dX5_followDown_90 : decode cX5_followDown 90 = .ok (.ifCond .eq 11, 3) := by decide +kernel
theorem dX5_followDown_93 : decode cX5_followDown 93 = .ok (.aload_n 0, 1) := by decide +kernel
theorem dX5_followDown_94 : decode cX5_followDown 94 = .ok (.iload_n 2, 1) := by decide +kernel
theorem dX5_followDown_95 : decode cX5_followDown 95 = .ok (.invokevirtual 80, 3) := by decide +kernel
theorem dX5_followDown_98 : decode cX5_followDown 98 = .ok (.goto 4, 3) := by decide +kernel
theorem dX5_followDown_101 : decode cX5_followDown 101 = .ok (.iconst 0, 1) := by decide +kernel
theorem dX5_followDown_102 : decode cX5_followDown 102 = .ok (.iadd, 1) := by decide +kernel
theorem dX5_followDown_103 : decode cX5_followDown 103 = .ok (.iastore, 1) := by decide +kernel
theorem dX5_followDown_104 : decode cX5_followDown 104 = .ok (.aload_n 0, 1) := by decide +kernel
theorem dX5_followDown_105 : decode cX5_followDown 105 = .ok (.getfield 27, 3) := by decide +kernel
theorem dX5_followDown_108 : decode cX5_followDown 108 = .ok (.iload_n 1, 1) := by decide +kernel
theorem dX5_followDown_109 : decode cX5_followDown 109 = .ok (.aload_n 0, 1) := by decide +kernel
theorem dX5_followDown_110 : decode cX5_followDown 110 = .ok (.iload_n 2, 1) := by decide +kernel
theorem dX5_followDown_111 : decode cX5_followDown 111 = .ok (.invokevirtual 83, 3) := by decide +kernel
theorem dX5_followDown_114 : decode cX5_followDown 114 = .ok (.iload 4, 2) := by decide +kernel
theorem dX5_followDown_116 : decode cX5_followDown 116 = .ok (.ifCond .eq 7, 3) := by decide +kernel
theorem dX5_followDown_119 : decode cX5_followDown 119 = .ok (.iconst 1, 1) := by decide +kernel
theorem dX5_followDown_120 : decode cX5_followDown 120 = .ok (.goto 4, 3) := by decide +kernel
theorem dX5_followDown_123 : decode cX5_followDown 123 = .ok (.iconst 0, 1) := by decide +kernel
theorem dX5_followDown_124 : decode cX5_followDown 124 = .ok (.iadd, 1) := by decide +kernel
theorem dX5_followDown_125 : decode cX5_followDown 125 = .ok (.iastore, 1) := by decide +kernel
theorem dX5_followDown_126 : decode cX5_followDown 126 = .ok (.return_, 1) := by decide +kernel
theorem dX5_sizeBelow_0 : decode cX5_sizeBelow 0 = .ok (.aload_n 0, 1) := by decide +kernel
theorem dX5_sizeBelow_1 : decode cX5_sizeBelow 1 = .ok (.getfield 30, 3) := by decide +kernel
theorem dX5_sizeBelow_4 : decode cX5_sizeBelow 4 = .ok (.iload_n 1, 1) := by decide +kernel
theorem dX5_sizeBelow_5 : decode cX5_sizeBelow 5 = .ok (.invokevirtual 63, 3) := by decide +kernel
theorem dX5_sizeBelow_8 : decode cX5_sizeBelow 8 = .ok (.ifCond .eq 12, 3) := by decide +kernel
theorem dX5_sizeBelow_11 : decode cX5_sizeBelow 11 = .ok (.aload_n 0, 1) := by decide +kernel
theorem dX5_sizeBelow_12 : decode cX5_sizeBelow 12 = .ok (.getfield 9, 3) := by decide +kernel
theorem dX5_sizeBelow_15 : decode cX5_sizeBelow 15 = .ok (.iload_n 1, 1) := by decide +kernel
theorem dX5_sizeBelow_16 : decode cX5_sizeBelow 16 = .ok (.iaload, 1) := by decide +kernel
theorem dX5_sizeBelow_17 : decode cX5_sizeBelow 17 = .ok (.goto 4, 3) := by decide +kernel
theorem dX5_sizeBelow_20 : decode cX5_sizeBelow 20 = .ok (.iconst 0, 1) := by decide +kernel
theorem dX5_sizeBelow_21 : decode cX5_sizeBelow 21 = .ok (.ireturn, 1) := by decide +kernel
theorem dX5_sumBelow_0 : decode cX5_sumBelow 0 = .ok (.aload_n 0, 1) := by decide +kernel
theorem dX5_sumBelow_1 : decode cX5_sumBelow 1 = .ok (.getfield 30, 3) := by decide +kernel
theorem dX5_sumBelow_4 : decode cX5_sumBelow 4 = .ok (.iload_n 1, 1) := by decide +kernel
theorem dX5_sumBelow_5 : decode cX5_sumBelow 5 = .ok (.invokevirtual 63, 3) := by decide +kernel
theorem dX5_sumBelow_8 : decode cX5_sumBelow 8 = .ok (.ifCond .eq 12, 3) := by decide +kernel
theorem dX5_sumBelow_11 : decode cX5_sumBelow 11 = .ok (.aload_n 0, 1) := by decide +kernel
theorem dX5_sumBelow_12 : decode cX5_sumBelow 12 = .ok (.getfield 15, 3) := by decide +kernel
theorem dX5_sumBelow_15 : decode cX5_sumBelow 15 = .ok (.iload_n 1, 1) := by decide +kernel
theorem dX5_sumBelow_16 : decode cX5_sumBelow 16 = .ok (.iaload, 1) := by decide +kernel
theorem dX5_sumBelow_17 : decode cX5_sumBelow 17 = .ok (.goto 4, 3) := by decide +kernel
theorem dX5_sumBelow_20 : decode cX5_sumBelow 20 = .ok (.iconst 0, 1) := by decide +kernel
theorem dX5_sumBelow_21 : decode cX5_sumBelow 21 = .ok (.ireturn, 1) := by decide +kernel
theorem dX5_heavyBelow_0 : decode cX5_heavyBelow 0 = .ok (.aload_n 0, 1) := by decide +kernel
theorem dX5_heavyBelow_1 : decode cX5_heavyBelow 1 = .ok (.getfield 30, 3) := by decide +kernel
theorem dX5_heavyBelow_4 : decode cX5_heavyBelow 4 = .ok (.iload_n 1, 1) := by decide +kernel
theorem dX5_heavyBelow_5 : decode cX5_heavyBelow 5 = .ok (.invokevirtual 63, 3) := by decide +kernel
theorem dX5_heavyBelow_8 : decode cX5_heavyBelow 8 = .ok (.ifCond .eq 12, 3) := by decide +kernel
theorem dX5_heavyBelow_11 : decode cX5_heavyBelow 11 = .ok (.aload_n 0, 1) := by decide +kernel
theorem dX5_heavyBelow_12 : decode cX5_heavyBelow 12 = .ok (.getfield 18, 3) := by decide +kernel
theorem dX5_heavyBelow_15 : decode cX5_heavyBelow 15 = .ok (.iload_n 1, 1) := by decide +kernel
theorem dX5_heavyBelow_16 : decode cX5_heavyBelow 16 = .ok (.iaload, 1) := by decide +kernel
theorem dX5_heavyBelow_17 : decode cX5_heavyBelow 17 = .ok (.goto 4, 3) := by decide +kernel
theorem dX5_heavyBelow_20 : decode cX5_heavyBelow 20 = .ok (.iconst (-1), 1) := by decide +kernel
theorem dX5_heavyBelow_21 : decode cX5_heavyBelow 21 = .ok (.ireturn, 1) := by decide +kernel
theorem dX5_headOf_0 : decode cX5_headOf 0 = .ok (.aload_n 0, 1) := by decide +kernel
theorem dX5_headOf_1 : decode cX5_headOf 1 = .ok (.getfield 30, 3) := by decide +kernel
theorem dX5_headOf_4 : decode cX5_headOf 4 = .ok (.iload_n 1, 1) := by decide +kernel
theorem dX5_headOf_5 : decode cX5_headOf 5 = .ok (.invokevirtual 63, 3) := by decide +kernel
theorem dX5_headOf_8 : decode cX5_headOf 8 = .ok (.ifCond .eq 12, 3) := by decide +kernel
theorem dX5_headOf_11 : decode cX5_headOf 11 = .ok (.aload_n 0, 1) := by decide +kernel
theorem dX5_headOf_12 : decode cX5_headOf 12 = .ok (.getfield 21, 3) := by decide +kernel
theorem dX5_headOf_15 : decode cX5_headOf 15 = .ok (.iload_n 1, 1) := by decide +kernel
theorem dX5_headOf_16 : decode cX5_headOf 16 = .ok (.iaload, 1) := by decide +kernel
theorem dX5_headOf_17 : decode cX5_headOf 17 = .ok (.goto 4, 3) := by decide +kernel
theorem dX5_headOf_20 : decode cX5_headOf 20 = .ok (.iconst (-1), 1) := by decide +kernel
theorem dX5_headOf_21 : decode cX5_headOf 21 = .ok (.ireturn, 1) := by decide +kernel
theorem dX5_lightAbove_0 : decode cX5_lightAbove 0 = .ok (.aload_n 0, 1) := by decide +kernel
theorem dX5_lightAbove_1 : decode cX5_lightAbove 1 = .ok (.getfield 30, 3) := by decide +kernel
theorem dX5_lightAbove_4 : decode cX5_lightAbove 4 = .ok (.iload_n 1, 1) := by decide +kernel
theorem dX5_lightAbove_5 : decode cX5_lightAbove 5 = .ok (.invokevirtual 63, 3) := by decide +kernel
theorem dX5_lightAbove_8 : decode cX5_lightAbove 8 = .ok (.ifCond .eq 12, 3) := by decide +kernel
theorem dX5_lightAbove_11 : decode cX5_lightAbove 11 = .ok (.aload_n 0, 1) := by decide +kernel
theorem dX5_lightAbove_12 : decode cX5_lightAbove 12 = .ok (.getfield 27, 3) := by decide +kernel
theorem dX5_lightAbove_15 : decode cX5_lightAbove 15 = .ok (.iload_n 1, 1) := by decide +kernel
theorem dX5_lightAbove_16 : decode cX5_lightAbove 16 = .ok (.iaload, 1) := by decide +kernel
theorem dX5_lightAbove_17 : decode cX5_lightAbove 17 = .ok (.goto 4, 3) := by decide +kernel
theorem dX5_lightAbove_20 : decode cX5_lightAbove 20 = .ok (.iconst 0, 1) := by decide +kernel
theorem dX5_lightAbove_21 : decode cX5_lightAbove 21 = .ok (.ireturn, 1) := by decide +kernel
theorem dX5_sumToHead_0 : decode cX5_sumToHead 0 = .ok (.aload_n 0, 1) := by decide +kernel
theorem dX5_sumToHead_1 : decode cX5_sumToHead 1 = .ok (.getfield 30, 3) := by decide +kernel
theorem dX5_sumToHead_4 : decode cX5_sumToHead 4 = .ok (.iload_n 1, 1) := by decide +kernel
theorem dX5_sumToHead_5 : decode cX5_sumToHead 5 = .ok (.invokevirtual 63, 3) := by decide +kernel
theorem dX5_sumToHead_8 : decode cX5_sumToHead 8 = .ok (.ifCond .eq 12, 3) := by decide +kernel
theorem dX5_sumToHead_11 : decode cX5_sumToHead 11 = .ok (.aload_n 0, 1) := by decide +kernel
theorem dX5_sumToHead_12 : decode cX5_sumToHead 12 = .ok (.getfield 24, 3) := by decide +kernel
theorem dX5_sumToHead_15 : decode cX5_sumToHead 15 = .ok (.iload_n 1, 1) := by decide +kernel
theorem dX5_sumToHead_16 : decode cX5_sumToHead 16 = .ok (.iaload, 1) := by decide +kernel
theorem dX5_sumToHead_17 : decode cX5_sumToHead 17 = .ok (.goto 4, 3) := by decide +kernel
theorem dX5_sumToHead_20 : decode cX5_sumToHead 20 = .ok (.iconst 0, 1) := by decide +kernel
theorem dX5_sumToHead_21 : decode cX5_sumToHead 21 = .ok (.ireturn, 1) := by decide +kernel
theorem dX5_sumToRoot_0 : decode cX5_sumToRoot 0 = .ok (.iconst 0, 1) := by decide +kernel
theorem dX5_sumToRoot_1 : decode cX5_sumToRoot 1 = .ok (.istore_n 2, 1) := by decide +kernel
theorem dX5_sumToRoot_2 : decode cX5_sumToRoot 2 = .ok (.iload_n 1, 1) := by decide +kernel
theorem dX5_sumToRoot_3 : decode cX5_sumToRoot 3 = .ok (.istore_n 3, 1) := by decide +kernel
theorem dX5_sumToRoot_4 : decode cX5_sumToRoot 4 = .ok (.iconst 0, 1) := by decide +kernel
theorem dX5_sumToRoot_5 : decode cX5_sumToRoot 5 = .ok (.istore 4, 2) := by decide +kernel
theorem dX5_sumToRoot_7 : decode cX5_sumToRoot 7 = .ok (.iload 4, 2) := by decide +kernel
theorem dX5_sumToRoot_9 : decode cX5_sumToRoot 9 = .ok (.bipush 20, 2) := by decide +kernel
theorem dX5_sumToRoot_11 : decode cX5_sumToRoot 11 = .ok (.if_icmp .ge 35, 3) := by decide +kernel
theorem dX5_sumToRoot_14 : decode cX5_sumToRoot 14 = .ok (.iload_n 3, 1) := by decide +kernel
theorem dX5_sumToRoot_15 : decode cX5_sumToRoot 15 = .ok (.iconst (-1), 1) := by decide +kernel
theorem dX5_sumToRoot_16 : decode cX5_sumToRoot 16 = .ok (.if_icmp .eq 30, 3) := by decide +kernel
theorem dX5_sumToRoot_19 : decode cX5_sumToRoot 19 = .ok (.iload_n 2, 1) := by decide +kernel
theorem dX5_sumToRoot_20 : decode cX5_sumToRoot 20 = .ok (.aload_n 0, 1) := by decide +kernel
theorem dX5_sumToRoot_21 : decode cX5_sumToRoot 21 = .ok (.iload_n 3, 1) := by decide +kernel
theorem dX5_sumToRoot_22 : decode cX5_sumToRoot 22 = .ok (.invokevirtual 80, 3) := by decide +kernel
theorem dX5_sumToRoot_25 : decode cX5_sumToRoot 25 = .ok (.iadd, 1) := by decide +kernel
theorem dX5_sumToRoot_26 : decode cX5_sumToRoot 26 = .ok (.istore_n 2, 1) := by decide +kernel
theorem dX5_sumToRoot_27 : decode cX5_sumToRoot 27 = .ok (.aload_n 0, 1) := by decide +kernel
theorem dX5_sumToRoot_28 : decode cX5_sumToRoot 28 = .ok (.getfield 34, 3) := by decide +kernel
theorem dX5_sumToRoot_31 : decode cX5_sumToRoot 31 = .ok (.aload_n 0, 1) := by decide +kernel
theorem dX5_sumToRoot_32 : decode cX5_sumToRoot 32 = .ok (.iload_n 3, 1) := by decide +kernel
theorem dX5_sumToRoot_33 : decode cX5_sumToRoot 33 = .ok (.invokevirtual 77, 3) := by decide +kernel
theorem dX5_sumToRoot_36 : decode cX5_sumToRoot 36 = .ok (.invokevirtual 60, 3) := by decide +kernel
theorem dX5_sumToRoot_39 : decode cX5_sumToRoot 39 = .ok (.istore_n 3, 1) := by decide +kernel
theorem dX5_sumToRoot_40 : decode cX5_sumToRoot 40 = .ok (.iinc 4 1, 3) := by decide +kernel
theorem dX5_sumToRoot_43 : decode cX5_sumToRoot 43 = .ok (.goto (-36), 3) := by decide +kernel
theorem dX5_sumToRoot_46 : decode cX5_sumToRoot 46 = .ok (.iload_n 2, 1) := by decide +kernel
theorem dX5_sumToRoot_47 : decode cX5_sumToRoot 47 = .ok (.ireturn, 1) := by decide +kernel
theorem dX5_countPaths_0 : decode cX5_countPaths 0 = .ok (.iconst 0, 1) := by decide +kernel
theorem dX5_countPaths_1 : decode cX5_countPaths 1 = .ok (.istore_n 1, 1) := by decide +kernel
theorem dX5_countPaths_2 : decode cX5_countPaths 2 = .ok (.iconst 0, 1) := by decide +kernel
theorem dX5_countPaths_3 : decode cX5_countPaths 3 = .ok (.istore_n 2, 1) := by decide +kernel
theorem dX5_countPaths_4 : decode cX5_countPaths 4 = .ok (.iload_n 2, 1) := by decide +kernel
theorem dX5_countPaths_5 : decode cX5_countPaths 5 = .ok (.aload_n 0, 1) := by decide +kernel
theorem dX5_countPaths_6 : decode cX5_countPaths 6 = .ok (.getfield 34, 3) := by decide +kernel
theorem dX5_countPaths_9 : decode cX5_countPaths 9 = .ok (.invokevirtual 44, 3) := by decide +kernel
theorem dX5_countPaths_12 : decode cX5_countPaths 12 = .ok (.if_icmp .ge 30, 3) := by decide +kernel
theorem dX5_countPaths_15 : decode cX5_countPaths 15 = .ok (.aload_n 0, 1) := by decide +kernel
theorem dX5_countPaths_16 : decode cX5_countPaths 16 = .ok (.getfield 34, 3) := by decide +kernel
theorem dX5_countPaths_19 : decode cX5_countPaths 19 = .ok (.iload_n 2, 1) := by decide +kernel
theorem dX5_countPaths_20 : decode cX5_countPaths 20 = .ok (.invokevirtual 50, 3) := by decide +kernel
theorem dX5_countPaths_23 : decode cX5_countPaths 23 = .ok (.istore_n 3, 1) := by decide +kernel
theorem dX5_countPaths_24 : decode cX5_countPaths 24 = .ok (.aload_n 0, 1) := by decide +kernel
theorem dX5_countPaths_25 : decode cX5_countPaths 25 = .ok (.iload_n 3, 1) := by decide +kernel
theorem dX5_countPaths_26 : decode cX5_countPaths 26 = .ok (.invokevirtual 77, 3) := by decide +kernel
theorem dX5_countPaths_29 : decode cX5_countPaths 29 = .ok (.iload_n 3, 1) := by decide +kernel
theorem dX5_countPaths_30 : decode cX5_countPaths 30 = .ok (.if_icmp .ne 6, 3) := by decide +kernel
theorem dX5_countPaths_33 : decode cX5_countPaths 33 = .ok (.iinc 1 1, 3) := by decide +kernel
theorem dX5_countPaths_36 : decode cX5_countPaths 36 = .ok (.iinc 2 1, 3) := by decide +kernel
theorem dX5_countPaths_39 : decode cX5_countPaths 39 = .ok (.goto (-35), 3) := by decide +kernel
theorem dX5_countPaths_42 : decode cX5_countPaths 42 = .ok (.iload_n 1, 1) := by decide +kernel
theorem dX5_countPaths_43 : decode cX5_countPaths 43 = .ok (.ireturn, 1) := by decide +kernel
theorem dX6_init_0 : decode cX6_init 0 = .ok (.aload_n 0, 1) := by decide +kernel
theorem dX6_init_1 : decode cX6_init 1 = .ok (.invokespecial 3, 3) := by decide +kernel
theorem dX6_init_4 : decode cX6_init 4 = .ok (.aload_n 0, 1) := by decide +kernel
theorem dX6_init_5 : decode cX6_init 5 = .ok (.iconst 5, 1) := by decide +kernel
theorem dX6_init_6 : decode cX6_init 6 = .ok (.bipush 20, 2) := by decide +kernel
theorem dX6_init_8 : decode cX6_init 8 = .ok (.multianewarray 9 2, 4) := by decide +kernel
theorem dX6_init_12 : decode cX6_init 12 = .ok (.putfield 11, 3) := by decide +kernel
theorem dX6_init_15 : decode cX6_init 15 = .ok (.aload_n 0, 1) := by decide +kernel
theorem dX6_init_16 : decode cX6_init 16 = .ok (.aload_n 1, 1) := by decide +kernel
theorem dX6_init_17 : decode cX6_init 17 = .ok (.putfield 16, 3) := by decide +kernel
theorem dX6_init_20 : decode cX6_init 20 = .ok (.aload_n 0, 1) := by decide +kernel
theorem dX6_init_21 : decode cX6_init 21 = .ok (.aload_n 2, 1) := by decide +kernel
theorem dX6_init_22 : decode cX6_init 22 = .ok (.putfield 20, 3) := by decide +kernel
theorem dX6_init_25 : decode cX6_init 25 = .ok (.return_, 1) := by decide +kernel
theorem dX6_build_0 : decode cX6_build 0 = .ok (.iconst 0, 1) := by decide +kernel
theorem dX6_build_1 : decode cX6_build 1 = .ok (.istore_n 1, 1) := by decide +kernel
theorem dX6_build_2 : decode cX6_build 2 = .ok (.iload_n 1, 1) := by decide +kernel
theorem dX6_build_3 : decode cX6_build 3 = .ok (.bipush 20, 2) := by decide +kernel
theorem dX6_build_5 : decode cX6_build 5 = .ok (.if_icmp .ge 25, 3) := by decide +kernel
theorem dX6_build_8 : decode cX6_build 8 = .ok (.aload_n 0, 1) := by decide +kernel
theorem dX6_build_9 : decode cX6_build 9 = .ok (.getfield 11, 3) := by decide +kernel
theorem dX6_build_12 : decode cX6_build 12 = .ok (.iconst 0, 1) := by decide +kernel
theorem dX6_build_13 : decode cX6_build 13 = .ok (.aaload, 1) := by decide +kernel
theorem dX6_build_14 : decode cX6_build 14 = .ok (.iload_n 1, 1) := by decide +kernel
theorem dX6_build_15 : decode cX6_build 15 = .ok (.aload_n 0, 1) := by decide +kernel
theorem dX6_build_16 : decode cX6_build 16 = .ok (.getfield 20, 3) := by decide +kernel
theorem dX6_build_19 : decode cX6_build 19 = .ok (.iload_n 1, 1) := by decide +kernel
theorem dX6_build_20 : decode cX6_build 20 = .ok (.invokevirtual 24, 3) := by decide +kernel
theorem dX6_build_23 : decode cX6_build 23 = .ok (.iastore, 1) := by decide +kernel
theorem dX6_build_24 : decode cX6_build 24 = .ok (.iinc 1 1, 3) := by decide +kernel
theorem dX6_build_27 : decode cX6_build 27 = .ok (.goto (-25), 3) := by decide +kernel
theorem dX6_build_30 : decode cX6_build 30 = .ok (.iconst 1, 1) := by decide +kernel
theorem dX6_build_31 : decode cX6_build 31 = .ok (.istore_n 1, 1) := by decide +kernel
theorem dX6_build_32 : decode cX6_build 32 = .ok (.iload_n 1, 1) := by decide +kernel
theorem dX6_build_33 : decode cX6_build 33 = .ok (.iconst 5, 1) := by decide +kernel
theorem dX6_build_34 : decode cX6_build 34 = .ok (.if_icmp .ge 46, 3) := by decide +kernel
theorem dX6_build_37 : decode cX6_build 37 = .ok (.iconst 0, 1) := by decide +kernel
theorem dX6_build_38 : decode cX6_build 38 = .ok (.istore_n 2, 1) := by decide +kernel
theorem dX6_build_39 : decode cX6_build 39 = .ok (.iload_n 2, 1) := by decide +kernel
theorem dX6_build_40 : decode cX6_build 40 = .ok (.bipush 20, 2) := by decide +kernel
theorem dX6_build_42 : decode cX6_build 42 = .ok (.if_icmp .ge 32, 3) := by decide +kernel
theorem dX6_build_45 : decode cX6_build 45 = .ok (.aload_n 0, 1) := by decide +kernel
theorem dX6_build_46 : decode cX6_build 46 = .ok (.getfield 11, 3) := by decide +kernel
theorem dX6_build_49 : decode cX6_build 49 = .ok (.iload_n 1, 1) := by decide +kernel
theorem dX6_build_50 : decode cX6_build 50 = .ok (.aaload, 1) := by decide +kernel
theorem dX6_build_51 : decode cX6_build 51 = .ok (.iload_n 2, 1) := by decide +kernel
theorem dX6_build_52 : decode cX6_build 52 = .ok (.aload_n 0, 1) := by decide +kernel
theorem dX6_build_53 : decode cX6_build 53 = .ok (.aload_n 0, 1) := by decide +kernel
theorem dX6_build_54 : decode cX6_build 54 = .ok (.iload_n 2, 1) := by decide +kernel
theorem dX6_build_55 : decode cX6_build 55 = .ok (.iload_n 1, 1) := by decide +kernel
theorem dX6_build_56 : decode cX6_build 56 = .ok (.iconst 1, 1) := by decide +kernel
theorem dX6_build_57 : decode cX6_build 57 = .ok (.isub, 1) := by decide +kernel
theorem dX6_build_58 : decode cX6_build 58 = .ok (.invokevirtual 30, 3) := by decide +kernel
theorem dX6_build_61 : decode cX6_build 61 = .ok (.iload_n 1, 1) := by decide +kernel
theorem dX6_build_62 : decode cX6_build 62 = .ok (.iconst 1, 1) := by decide +kernel
theorem dX6_build_63 : decode cX6_build 63 = .ok (.isub, 1) := by decide +kernel
theorem dX6_build_64 : decode cX6_build 64 = .ok (.invokevirtual 30, 3) := by decide +kernel
theorem dX6_build_67 : decode cX6_build 67 = .ok (.iastore, 1) := by decide +kernel
theorem dX6_build_68 : decode cX6_build 68 = .ok (.iinc 2 1, 3) := by decide +kernel
theorem dX6_build_71 : decode cX6_build 71 = .ok (.goto (-32), 3) := by decide +kernel
theorem dX6_build_74 : decode cX6_build 74 = .ok (.iinc 1 1, 3) := by decide +kernel
theorem dX6_build_77 : decode cX6_build 77 = .ok (.goto (-45), 3) := by decide +kernel
theorem dX6_build_80 : decode cX6_build 80 = .ok (.return_, 1) := by decide +kernel
theorem dX6_jump_0 : decode cX6_jump 0 = .ok (.aload_n 0, 1) := by decide +kernel
theorem dX6_jump_1 : decode cX6_jump 1 = .ok (.getfield 16, 3) := by decide +kernel
theorem dX6_jump_4 : decode cX6_jump 4 = .ok (.iload_n 1, 1) := by decide +kernel
theorem dX6_jump_5 : decode cX6_jump 5 = .ok (.invokevirtual 34, 3) := by decide +kernel
theorem dX6_jump_8 : decode cX6_jump 8 = .ok (.ifCond .eq 12, 3) := by decide +kernel
theorem dX6_jump_11 : decode cX6_jump 11 = .ok (.iload_n 2, 1) := by decide +kernel
theorem dX6_jump_12 : decode cX6_jump 12 = .ok (.ifCond .lt 8, 3) := by decide +kernel
theorem dX6_jump_15 : decode cX6_jump 15 = .ok (.iload_n 2, 1) := by decide +kernel
theorem dX6_jump_16 : decode cX6_jump 16 = .ok (.iconst 5, 1) := by decide +kernel
theorem dX6_jump_17 : decode cX6_jump 17 = .ok (.if_icmp .lt 5, 3) := by decide +kernel
theorem dX6_jump_20 : decode cX6_jump 20 = .ok (.iconst (-1), 1) := by decide +kernel
theorem dX6_jump_21 : decode cX6_jump 21 = .ok (.ireturn, 1) := by decide +kernel
theorem dX6_jump_22 : decode cX6_jump 22 = .ok (.aload_n 0, 1) := by decide +kernel
theorem dX6_jump_23 : decode cX6_jump 23 = .ok (.getfield 11, 3) := by decide +kernel
theorem dX6_jump_26 : decode cX6_jump 26 = .ok (.iload_n 2, 1) := by decide +kernel
theorem dX6_jump_27 : decode cX6_jump 27 = .ok (.aaload, 1) := by decide +kernel
theorem dX6_jump_28 : decode cX6_jump 28 = .ok (.iload_n 1, 1) := by decide +kernel
theorem dX6_jump_29 : decode cX6_jump 29 = .ok (.iaload, 1) := by decide +kernel
theorem dX6_jump_30 : decode cX6_jump 30 = .ok (.ireturn, 1) := by decide +kernel
theorem dX6_climb_0 : decode cX6_climb 0 = .ok (.iload_n 1, 1) := by decide +kernel
theorem dX6_climb_1 : decode cX6_climb 1 = .ok (.istore_n 3, 1) := by decide +kernel
theorem dX6_climb_2 : decode cX6_climb 2 = .ok (.iconst 0, 1) := by decide +kernel
theorem dX6_climb_3 : decode cX6_climb 3 = .ok (.istore 4, 2) := by decide +kernel
theorem dX6_climb_5 : decode cX6_climb 5 = .ok (.iload 4, 2) := by decide +kernel
theorem dX6_climb_7 : decode cX6_climb 7 = .ok (.iconst 5, 1) := by decide +kernel
theorem dX6_climb_8 : decode cX6_climb 8 = .ok (.if_icmp .ge 27, 3) := by decide +kernel
theorem dX6_climb_11 : decode cX6_climb 11 = .ok (.iload_n 2, 1) := by decide +kernel
theorem dX6_climb_12 : decode cX6_climb 12 = .ok (.iload 4, 2) := by decide +kernel
theorem dX6_climb_14 : decode cX6_climb 14 = .ok (.ishr, 1) := by decide +kernel
theorem dX6_climb_15 : decode cX6_climb 15 = .ok (.iconst 1, 1) := by decide +kernel
theorem dX6_climb_16 : decode cX6_climb 16 = .ok (.iand, 1) := by decide +kernel
theorem dX6_climb_17 : decode cX6_climb 17 = .ok (.iconst 1, 1) := by decide +kernel
theorem dX6_climb_18 : decode cX6_climb 18 = .ok (.if_icmp .ne 11, 3) := by decide +kernel
theorem dX6_climb_21 : decode cX6_climb 21 = .ok (.aload_n 0, 1) := by decide +kernel
theorem dX6_climb_22 : decode cX6_climb 22 = .ok (.iload_n 3, 1) := by decide +kernel
theorem dX6_climb_23 : decode cX6_climb 23 = .ok (.iload 4, 2) := by decide +kernel
theorem dX6_climb_25 : decode cX6_climb 25 = .ok (.invokevirtual 30, 3) := by decide +kernel
theorem dX6_climb_28 : decode cX6_climb 28 = .ok (.istore_n 3, 1) := by decide +kernel
theorem dX6_climb_29 : decode cX6_climb 29 = .ok (.iinc 4 1, 3) := by decide +kernel
theorem dX6_climb_32 : decode cX6_climb 32 = .ok (.goto (-27), 3) := by decide +kernel
theorem dX6_climb_35 : decode cX6_climb 35 = .ok (.iload_n 3, 1) := by decide +kernel
theorem dX6_climb_36 : decode cX6_climb 36 = .ok (.ireturn, 1) := by decide +kernel
theorem dX6_meet_0 : decode cX6_meet 0 = .ok (.aload_n 0, 1) := by decide +kernel
theorem dX6_meet_1 : decode cX6_meet 1 = .ok (.iload_n 1, 1) := by decide +kernel
theorem dX6_meet_2 : decode cX6_meet 2 = .ok (.iconst 0, 1) := by decide +kernel
theorem dX6_meet_3 : decode cX6_meet 3 = .ok (.aload_n 0, 1) := by decide +kernel
theorem dX6_meet_4 : decode cX6_meet 4 = .ok (.getfield 20, 3) := by decide +kernel
theorem dX6_meet_7 : decode cX6_meet 7 = .ok (.iload_n 1, 1) := by decide +kernel
theorem dX6_meet_8 : decode cX6_meet 8 = .ok (.invokevirtual 40, 3) := by decide +kernel
theorem dX6_meet_11 : decode cX6_meet 11 = .ok (.aload_n 0, 1) := by decide +kernel
theorem dX6_meet_12 : decode cX6_meet 12 = .ok (.getfield 20, 3) := by decide +kernel
theorem dX6_meet_15 : decode cX6_meet 15 = .ok (.iload_n 2, 1) := by decide +kernel
theorem dX6_meet_16 : decode cX6_meet 16 = .ok (.invokevirtual 40, 3) := by decide +kernel
theorem dX6_meet_19 : decode cX6_meet 19 = .ok (.isub, 1) := by decide +kernel
theorem dX6_meet_20 : decode cX6_meet 20 = .ok (.invokestatic 43, 3) := by decide +kernel
theorem dX6_meet_23 : decode cX6_meet 23 = .ok (.invokevirtual 48, 3) := by decide +kernel
theorem dX6_meet_26 : decode cX6_meet 26 = .ok (.istore_n 3, 1) := by decide +kernel
theorem dX6_meet_27 : decode cX6_meet 27 = .ok (.aload_n 0, 1) := by decide +kernel
theorem dX6_meet_28 : decode cX6_meet 28 = .ok (.iload_n 2, 1) := by decide +kernel
theorem dX6_meet_29 : decode cX6_meet 29 = .ok (.iconst 0, 1) := by decide +kernel
theorem dX6_meet_30 : decode cX6_meet 30 = .ok (.aload_n 0, 1) := by decide +kernel
theorem dX6_meet_31 : decode cX6_meet 31 = .ok (.getfield 20, 3) := by decide +kernel
theorem dX6_meet_34 : decode cX6_meet 34 = .ok (.iload_n 2, 1) := by decide +kernel
theorem dX6_meet_35 : decode cX6_meet 35 = .ok (.invokevirtual 40, 3) := by decide +kernel
theorem dX6_meet_38 : decode cX6_meet 38 = .ok (.aload_n 0, 1) := by decide +kernel
theorem dX6_meet_39 : decode cX6_meet 39 = .ok (.getfield 20, 3) := by decide +kernel
theorem dX6_meet_42 : decode cX6_meet 42 = .ok (.iload_n 1, 1) := by decide +kernel
theorem dX6_meet_43 : decode cX6_meet 43 = .ok (.invokevirtual 40, 3) := by decide +kernel
theorem dX6_meet_46 : decode cX6_meet 46 = .ok (.isub, 1) := by decide +kernel
theorem dX6_meet_47 : decode cX6_meet 47 = .ok (.invokestatic 43, 3) := by decide +kernel
theorem dX6_meet_50 : decode cX6_meet 50 = .ok (.invokevirtual 48, 3) := by decide +kernel
theorem dX6_meet_53 : decode cX6_meet 53 = .ok (.istore 4, 2) := by decide +kernel
theorem dX6_meet_55 : decode cX6_meet 55 = .ok (.iload_n 3, 1) := by decide +kernel
theorem dX6_meet_56 : decode cX6_meet 56 = .ok (.iload 4, 2) := by decide +kernel
theorem dX6_meet_58 : decode cX6_meet 58 = .ok (.if_icmp .ne 5, 3) := by decide +kernel
theorem dX6_meet_61 : decode cX6_meet 61 = .ok (.iload_n 3, 1) := by decide +kernel
theorem dX6_meet_62 : decode cX6_meet 62 = .ok (.ireturn, 1) := by decide +kernel
theorem dX6_meet_63 : decode cX6_meet 63 = .ok (.iconst 4, 1) := by decide +kernel
theorem dX6_meet_64 : decode cX6_meet 64 = .ok (.istore 5, 2) := by decide +kernel
theorem dX6_meet_66 : decode cX6_meet 66 = .ok (.iload 5, 2) := by decide +kernel
theorem dX6_meet_68 : decode cX6_meet 68 = .ok (.ifCond .lt 45, 3) := by decide +kernel
theorem dX6_meet_71 : decode cX6_meet 71 = .ok (.aload_n 0, 1) := by decide +kernel
theorem dX6_meet_72 : decode cX6_meet 72 = .ok (.iload_n 3, 1) := by decide +kernel
theorem dX6_meet_73 : decode cX6_meet 73 = .ok (.iload 5, 2) := by decide +kernel
theorem dX6_meet_75 : decode cX6_meet 75 = .ok (.invokevirtual 30, 3) := by decide +kernel
theorem dX6_meet_78 : decode cX6_meet 78 = .ok (.aload_n 0, 1) := by decide +kernel
theorem dX6_meet_79 : decode cX6_meet 79 = .ok (.iload 4, 2) := by decide +kernel
theorem dX6_meet_81 : decode cX6_meet 81 = .ok (.iload 5, 2) := by decide +kernel
theorem dX6_meet_83 : decode cX6_meet 83 = .ok (.invokevirtual 30, 3) := by decide +kernel
theorem dX6_meet_86 : decode cX6_meet 86 = .ok (.if_icmp .eq 21, 3) := by decide +kernel
theorem dX6_meet_89 : decode cX6_meet 89 = .ok (.aload_n 0, 1) := by decide +kernel
theorem dX6_meet_90 : decode cX6_meet 90 = .ok (.iload_n 3, 1) := by decide +kernel
theorem dX6_meet_91 : decode cX6_meet 91 = .ok (.iload 5, 2) := by decide +kernel
theorem dX6_meet_93 : decode cX6_meet 93 = .ok (.invokevirtual 30, 3) := by decide +kernel
theorem dX6_meet_96 : decode cX6_meet 96 = .ok (.istore_n 3, 1) := by decide +kernel
theorem dX6_meet_97 : decode cX6_meet 97 = .ok (.aload_n 0, 1) := by decide +kernel
theorem dX6_meet_98 : decode cX6_meet 98 = .ok (.iload 4, 2) := by decide +kernel
theorem dX6_meet_100 : decode cX6_meet 100 = .ok (.iload 5, 2) := by decide +kernel
theorem dX6_meet_102 : decode cX6_meet 102 = .ok (.invokevirtual 30, 3) := by decide +kernel
theorem dX6_meet_105 : decode cX6_meet 105 = .ok (.istore 4, 2) := by decide +kernel
theorem dX6_meet_107 : decode cX6_meet 107 = .ok (.iinc 5 (-1), 3) := by decide +kernel
theorem dX6_meet_110 : decode cX6_meet 110 = .ok (.goto (-44), 3) := by decide +kernel
theorem dX6_meet_113 : decode cX6_meet 113 = .ok (.aload_n 0, 1) := by decide +kernel
theorem dX6_meet_114 : decode cX6_meet 114 = .ok (.iload_n 3, 1) := by decide +kernel
theorem dX6_meet_115 : decode cX6_meet 115 = .ok (.iconst 0, 1) := by decide +kernel
theorem dX6_meet_116 : decode cX6_meet 116 = .ok (.invokevirtual 30, 3) := by decide +kernel
theorem dX6_meet_119 : decode cX6_meet 119 = .ok (.ireturn, 1) := by decide +kernel
theorem dX7_init_0 : decode cX7_init 0 = .ok (.aload_n 0, 1) := by decide +kernel
theorem dX7_init_1 : decode cX7_init 1 = .ok (.invokespecial 3, 3) := by decide +kernel
theorem dX7_init_4 : decode cX7_init 4 = .ok (.aload_n 0, 1) := by decide +kernel
theorem dX7_init_5 : decode cX7_init 5 = .ok (.bipush 20, 2) := by decide +kernel
theorem dX7_init_7 : decode cX7_init 7 = .ok (.newarray .int, 2) := by decide +kernel
theorem dX7_init_9 : decode cX7_init 9 = .ok (.putfield 9, 3) := by decide +kernel
theorem dX7_init_12 : decode cX7_init 12 = .ok (.aload_n 0, 1) := by decide +kernel
theorem dX7_init_13 : decode cX7_init 13 = .ok (.bipush 20, 2) := by decide +kernel
theorem dX7_init_15 : decode cX7_init 15 = .ok (.newarray .int, 2) := by decide +kernel
theorem dX7_init_17 : decode cX7_init 17 = .ok (.putfield 15, 3) := by decide +kernel
theorem dX7_init_20 : decode cX7_init 20 = .ok (.aload_n 0, 1) := by decide +kernel
theorem dX7_init_21 : decode cX7_init 21 = .ok (.bipush 20, 2) := by decide +kernel
theorem dX7_init_23 : decode cX7_init 23 = .ok (.newarray .int, 2) := by decide +kernel
theorem dX7_init_25 : decode cX7_init 25 = .ok (.putfield 18, 3) := by decide +kernel
theorem dX7_init_28 : decode cX7_init 28 = .ok (.aload_n 0, 1) := by decide +kernel
theorem dX7_init_29 : decode cX7_init 29 = .ok (.bipush 20, 2) := by decide +kernel
theorem dX7_init_31 : decode cX7_init 31 = .ok (.newarray .int, 2) := by decide +kernel
theorem dX7_init_33 : decode cX7_init 33 = .ok (.putfield 21, 3) := by decide +kernel
theorem dX7_init_36 : decode cX7_init 36 = .ok (.aload_n 0, 1) := by decide +kernel
theorem dX7_init_37 : decode cX7_init 37 = .ok (.bipush 20, 2) := by decide +kernel
theorem dX7_init_39 : decode cX7_init 39 = .ok (.newarray .int, 2) := by decide +kernel
theorem dX7_init_41 : decode cX7_init 41 = .ok (.putfield 24, 3) := by decide +kernel
theorem dX7_init_44 : decode cX7_init 44 = .ok (.aload_n 0, 1) := by decide +kernel
theorem dX7_init_45 : decode cX7_init 45 = .ok (.iconst 0, 1) := by decide +kernel
theorem dX7_init_46 : decode cX7_init 46 = .ok (.putfield 27, 3) := by decide +kernel
theorem dX7_init_49 : decode cX7_init 49 = .ok (.aload_n 0, 1) := by decide +kernel
theorem dX7_init_50 : decode cX7_init 50 = .ok (.aload_n 1, 1) := by decide +kernel
theorem dX7_init_51 : decode cX7_init 51 = .ok (.putfield 31, 3) := by decide +kernel
theorem dX7_init_54 : decode cX7_init 54 = .ok (.aload_n 0, 1) := by decide +kernel
theorem dX7_init_55 : decode cX7_init 55 = .ok (.aload_n 2, 1) := by decide +kernel
theorem dX7_init_56 : decode cX7_init 56 = .ok (.putfield 35, 3) := by decide +kernel
theorem dX7_init_59 : decode cX7_init 59 = .ok (.return_, 1) := by decide +kernel
theorem dX7_plant_0 : decode cX7_plant 0 = .ok (.aload_n 0, 1) := by decide +kernel
theorem dX7_plant_1 : decode cX7_plant 1 = .ok (.iconst 0, 1) := by decide +kernel
theorem dX7_plant_2 : decode cX7_plant 2 = .ok (.putfield 27, 3) := by decide +kernel
theorem dX7_plant_5 : decode cX7_plant 5 = .ok (.aload_n 0, 1) := by decide +kernel
theorem dX7_plant_6 : decode cX7_plant 6 = .ok (.getfield 15, 3) := by decide +kernel
theorem dX7_plant_9 : decode cX7_plant 9 = .ok (.iconst (-1), 1) := by decide +kernel
theorem dX7_plant_10 : decode cX7_plant 10 = .ok (.invokestatic 39, 3) := by decide +kernel
theorem dX7_plant_13 : decode cX7_plant 13 = .ok (.aload_n 0, 1) := by decide +kernel
theorem dX7_plant_14 : decode cX7_plant 14 = .ok (.getfield 18, 3) := by decide +kernel
theorem dX7_plant_17 : decode cX7_plant 17 = .ok (.iconst (-1), 1) := by decide +kernel
theorem dX7_plant_18 : decode cX7_plant 18 = .ok (.invokestatic 39, 3) := by decide +kernel
theorem dX7_plant_21 : decode cX7_plant 21 = .ok (.aload_n 0, 1) := by decide +kernel
theorem dX7_plant_22 : decode cX7_plant 22 = .ok (.iload_n 1, 1) := by decide +kernel
theorem dX7_plant_23 : decode cX7_plant 23 = .ok (.iconst (-1), 1) := by decide +kernel
theorem dX7_plant_24 : decode cX7_plant 24 = .ok (.iconst (-1), 1) := by decide +kernel
theorem dX7_plant_25 : decode cX7_plant 25 = .ok (.invokevirtual 45, 3) := by decide +kernel
theorem dX7_plant_28 : decode cX7_plant 28 = .ok (.iconst 0, 1) := by decide +kernel
theorem dX7_plant_29 : decode cX7_plant 29 = .ok (.istore_n 3, 1) := by decide +kernel
theorem dX7_plant_30 : decode cX7_plant 30 = .ok (.iload_n 3, 1) := by decide +kernel
theorem dX7_plant_31 : decode cX7_plant 31 = .ok (.bipush 20, 2) := by decide +kernel
theorem dX7_plant_33 : decode cX7_plant 33 = .ok (.if_icmp .ge 81, 3) := by decide +kernel
theorem dX7_plant_36 : decode cX7_plant 36 = .ok (.iload_n 3, 1) := by decide +kernel
theorem dX7_plant_37 : decode cX7_plant 37 = .ok (.aload_n 0, 1) := by decide +kernel
theorem dX7_plant_38 : decode cX7_plant 38 = .ok (.getfield 27, 3) := by decide +kernel
theorem dX7_plant_41 : decode cX7_plant 41 = .ok (.if_icmp .ge 73, 3) := by decide +kernel
theorem dX7_plant_44 : decode cX7_plant 44 = .ok (.iconst 0, 1) := by decide +kernel
theorem dX7_plant_45 : decode cX7_plant 45 = .ok (.istore 4, 2) := by decide +kernel
theorem dX7_plant_47 : decode cX7_plant 47 = .ok (.iload 4, 2) := by decide +kernel
theorem dX7_plant_49 : decode cX7_plant 49 = .ok (.aload_n 0, 1) := by decide +kernel
theorem dX7_plant_50 : decode cX7_plant 50 = .ok (.getfield 31, 3) := by decide +kernel
theorem dX7_plant_53 : decode cX7_plant 53 = .ok (.invokevirtual 49, 3) := by decide +kernel
theorem dX7_plant_56 : decode cX7_plant 56 = .ok (.if_icmp .ge 52, 3) := by decide +kernel
theorem dX7_plant_59 : decode cX7_plant 59 = .ok (.aload_n 0, 1) := by decide +kernel
theorem dX7_plant_60 : decode cX7_plant 60 = .ok (.getfield 35, 3) := by decide +kernel
theorem dX7_plant_63 : decode cX7_plant 63 = .ok (.aload_n 0, 1) := by decide +kernel
theorem dX7_plant_64 : decode cX7_plant 64 = .ok (.getfield 9, 3) := by decide +kernel
theorem dX7_plant_67 : decode cX7_plant 67 = .ok (.iload_n 3, 1) := by decide +kernel
theorem dX7_plant_68 : decode cX7_plant 68 = .ok (.iaload, 1) := by decide +kernel
theorem dX7_plant_69 : decode cX7_plant 69 = .ok (.iload 4, 2) := by decide +kernel
theorem dX7_plant_71 : decode cX7_plant 71 = .ok (.invokevirtual 55, 3) := by decide +kernel
theorem dX7_plant_74 : decode cX7_plant 74 = .ok (.istore 5, 2) := by decide +kernel
theorem dX7_plant_76 : decode cX7_plant 76 = .ok (.iload 5, 2) := by decide +kernel
theorem dX7_plant_78 : decode cX7_plant 78 = .ok (.iconst (-1), 1) := by decide +kernel
theorem dX7_plant_79 : decode cX7_plant 79 = .ok (.if_icmp .eq 23, 3) := by decide +kernel
theorem dX7_plant_82 : decode cX7_plant 82 = .ok (.iload 5, 2) := by decide +kernel
theorem dX7_plant_84 : decode cX7_plant 84 = .ok (.iload_n 2, 1) := by decide +kernel
theorem dX7_plant_85 : decode cX7_plant 85 = .ok (.if_icmp .eq 17, 3) := by decide +kernel
theorem dX7_plant_88 : decode cX7_plant 88 = .ok (.aload_n 0, 1) := by decide +kernel
theorem dX7_plant_89 : decode cX7_plant 89 = .ok (.iload 4, 2) := by decide +kernel
theorem dX7_plant_91 : decode cX7_plant 91 = .ok (.aload_n 0, 1) := by decide +kernel
theorem dX7_plant_92 : decode cX7_plant 92 = .ok (.getfield 9, 3) := by decide +kernel
theorem dX7_plant_95 : decode cX7_plant 95 = .ok (.iload_n 3, 1) := by decide +kernel
theorem dX7_plant_96 : decode cX7_plant 96 = .ok (.iaload, 1) := by decide +kernel
theorem dX7_plant_97 : decode cX7_plant 97 = .ok (.iload 5, 2) := by decide +kernel
theorem dX7_plant_99 : decode cX7_plant 99 = .ok (.invokevirtual 45, 3) := by decide +kernel
theorem dX7_plant_102 : decode cX7_plant 102 = .ok (.iinc 4 1, 3) := by decide +kernel
theorem dX7_plant_105 : decode cX7_plant 105 = .ok (.goto (-58), 3) := by decide +kernel
theorem dX7_plant_108 : decode cX7_plant 108 = .ok (.iinc 3 1, 3) := by decide +kernel
theorem dX7_plant_111 : decode cX7_plant 111 = .ok (.goto (-81), 3) := by decide +kernel
theorem dX7_plant_114 : decode cX7_plant 114 = .ok (.return_, 1) := by decide +kernel
theorem dX7_reach_0 : decode cX7_reach 0 = .ok (.aload_n 0, 1) := by decide +kernel
theorem dX7_reach_1 : decode cX7_reach 1 = .ok (.getfield 31, 3) := by decide +kernel
theorem dX7_reach_4 : decode cX7_reach 4 = .ok (.iload_n 1, 1) := by decide +kernel
theorem dX7_reach_5 : decode cX7_reach 5 = .ok (.invokevirtual 61, 3) := by decide +kernel
theorem dX7_reach_8 : decode cX7_reach 8 = .ok (.ifCond .eq 22, 3) := by decide +kernel
theorem dX7_reach_11 : decode cX7_reach 11 = .ok (.aload_n 0, 1) := by decide +kernel
theorem dX7_reach_12 : decode cX7_reach 12 = .ok (.getfield 15, 3) := by decide +kernel
theorem dX7_reach_15 : decode cX7_reach 15 = .ok (.iload_n 1, 1) := by decide +kernel
theorem dX7_reach_16 : decode cX7_reach 16 = .ok (.iaload, 1) := by decide +kernel
theorem dX7_reach_17 : decode cX7_reach 17 = .ok (.iconst (-1), 1) := by decide +kernel
theorem dX7_reach_18 : decode cX7_reach 18 = .ok (.if_icmp .ne 12, 3) := by decide +kernel
theorem dX7_reach_21 : decode cX7_reach 21 = .ok (.aload_n 0, 1) := by decide +kernel
theorem dX7_reach_22 : decode cX7_reach 22 = .ok (.getfield 27, 3) := by decide +kernel
theorem dX7_reach_25 : decode cX7_reach 25 = .ok (.bipush 20, 2) := by decide +kernel
theorem dX7_reach_27 : decode cX7_reach 27 = .ok (.if_icmp .lt 4, 3) := by decide +kernel
theorem dX7_reach_30 : decode cX7_reach 30 = .ok (.return_, 1) := by decide +kernel
theorem dX7_reach_31 : decode cX7_reach 31 = .ok (.aload_n 0, 1) := by decide +kernel
theorem dX7_reach_32 : decode cX7_reach 32 = .ok (.getfield 9, 3) := by decide +kernel
theorem dX7_reach_35 : decode cX7_reach 35 = .ok (.aload_n 0, 1) := by decide +kernel
theorem dX7_reach_36 : decode cX7_reach 36 = .ok (.getfield 27, 3) := by decide +kernel
theorem dX7_reach_39 : decode cX7_reach 39 = .ok (.iload_n 1, 1) := by decide +kernel
theorem dX7_reach_40 : decode cX7_reach 40 = .ok (.iastore, 1) := by decide +kernel
theorem dX7_reach_41 : decode cX7_reach 41 = .ok (.aload_n 0, 1) := by decide +kernel
theorem dX7_reach_42 : decode cX7_reach 42 = .ok (.dup, 1) := by decide +kernel
theorem dX7_reach_43 : decode cX7_reach 43 = .ok (.getfield 27, 3) := by decide +kernel
theorem dX7_reach_46 : decode cX7_reach 46 = .ok (.iconst 1, 1) := by decide +kernel
theorem dX7_reach_47 : decode cX7_reach 47 = .ok (.iadd, 1) := by decide +kernel
theorem dX7_reach_48 : decode cX7_reach 48 = .ok (.putfield 27, 3) := by decide +kernel
theorem dX7_reach_51 : decode cX7_reach 51 = .ok (.aload_n 0, 1) := by decide +kernel
theorem dX7_reach_52 : decode cX7_reach 52 = .ok (.getfield 15, 3) := by decide +kernel
theorem dX7_reach_55 : decode cX7_reach 55 = .ok (.iload_n 1, 1) := by decide +kernel
theorem dX7_reach_56 : decode cX7_reach 56 = .ok (.iconst 0, 1) := by decide +kernel
theorem dX7_reach_57 : decode cX7_reach 57 = .ok (.iastore, 1) := by decide +kernel
theorem dX7_reach_58 : decode cX7_reach 58 = .ok (.aload_n 0, 1) := by decide +kernel
theorem dX7_reach_59 : decode cX7_reach 59 = .ok (.getfield 18, 3) := by decide +kernel
theorem dX7_reach_62 : decode cX7_reach 62 = .ok (.iload_n 1, 1) := by decide +kernel
theorem dX7_reach_63 : decode cX7_reach 63 = .ok (.iload_n 2, 1) := by decide +kernel
theorem dX7_reach_64 : decode cX7_reach 64 = .ok (.iastore, 1) := by decide +kernel
theorem dX7_reach_65 : decode cX7_reach 65 = .ok (.aload_n 0, 1) := by decide +kernel
theorem dX7_reach_66 : decode cX7_reach 66 = .ok (.getfield 21, 3) := by decide +kernel
theorem dX7_reach_69 : decode cX7_reach 69 = .ok (.iload_n 1, 1) := by decide +kernel
theorem dX7_reach_70 : decode cX7_reach 70 = .ok (.aload_n 0, 1) := by decide +kernel
theorem dX7_reach_71 : decode cX7_reach 71 = .ok (.getfield 31, 3) := by decide +kernel
theorem dX7_reach_74 : decode cX7_reach 74 = .ok (.iload_n 1, 1) := by decide +kernel
theorem dX7_reach_75 : decode cX7_reach 75 = .ok (.invokevirtual 65, 3) := by decide +kernel
theorem dX7_reach_78 : decode cX7_reach 78 = .ok (.iastore, 1) := by decide +kernel
theorem dX7_reach_79 : decode cX7_reach 79 = .ok (.aload_n 0, 1) := by decide +kernel
theorem dX7_reach_80 : decode cX7_reach 80 = .ok (.getfield 24, 3) := by decide +kernel
theorem dX7_reach_83 : decode cX7_reach 83 = .ok (.iload_n 1, 1) := by decide +kernel
theorem dX7_reach_84 : decode cX7_reach 84 = .ok (.iload_n 3, 1) := by decide +kernel
theorem dX7_reach_85 : decode cX7_reach 85 = .ok (.iastore, 1) := by decide +kernel
theorem dX7_reach_86 : decode cX7_reach 86 = .ok (.aload_n 0, 1) := by decide +kernel
theorem dX7_reach_87 : decode cX7_reach 87 = .ok (.getfield 31, 3) := by decide +kernel
theorem dX7_reach_90 : decode cX7_reach 90 = .ok (.iload_n 2, 1) := by decide +kernel
theorem dX7_reach_91 : decode cX7_reach 91 = .ok (.invokevirtual 61, 3) := by decide +kernel
theorem dX7_reach_94 : decode cX7_reach 94 = .ok (.ifCond .eq 67, 3) := by decide +kernel
theorem dX7_reach_97 : decode cX7_reach 97 = .ok (.aload_n 0, 1) := by decide +kernel
theorem dX7_reach_98 : decode cX7_reach 98 = .ok (.getfield 24, 3) := by decide +kernel
theorem dX7_reach_101 : decode cX7_reach 101 = .ok (.iload_n 2, 1) := by decide +kernel
theorem dX7_reach_102 : decode cX7_reach 102 = .ok (.iaload, 1) := by decide +kernel
theorem dX7_reach_103 : decode cX7_reach 103 = .ok (.istore 4, 2) := by decide +kernel
theorem dX7_reach_105 : decode cX7_reach 105 = .ok (.aload_n 0, 1) := by decide +kernel
theorem dX7_reach_106 : decode cX7_reach 106 = .ok (.getfield 15, 3) := by decide +kernel
theorem dX7_reach_109 : decode cX7_reach 109 = .ok (.iload_n 1, 1) := by decide +kernel
theorem dX7_reach_110 : decode cX7_reach 110 = .ok (.aload_n 0, 1) := by decide +kernel
theorem dX7_reach_111 : decode cX7_reach 111 = .ok (.getfield 15, 3) := by decide +kernel
theorem dX7_reach_114 : decode cX7_reach 114 = .ok (.iload_n 2, 1) := by decide +kernel
theorem dX7_reach_115 : decode cX7_reach 115 = .ok (.iaload, 1) := by decide +kernel
theorem dX7_reach_116 : decode cX7_reach 116 = .ok (.iconst 1, 1) := by decide +kernel
theorem dX7_reach_117 : decode cX7_reach 117 = .ok (.iadd, 1) := by decide +kernel
theorem dX7_reach_118 : decode cX7_reach 118 = .ok (.iastore, 1) := by decide +kernel
theorem dX7_reach_119 : decode cX7_reach 119 = .ok (.aload_n 0, 1) := by decide +kernel
theorem dX7_reach_120 : decode cX7_reach 120 = .ok (.getfield 21, 3) := by decide +kernel
theorem dX7_reach_123 : decode cX7_reach 123 = .ok (.iload_n 1, 1) := by decide +kernel
theorem dX7_reach_124 : decode cX7_reach 124 = .ok (.dup2, 1) := by decide +kernel
theorem dX7_reach_125 : decode cX7_reach 125 = .ok (.iaload, 1) := by decide +kernel
theorem dX7_reach_126 : decode cX7_reach 126 = .ok (.aload_n 0, 1) := by decide +kernel
theorem dX7_reach_127 : decode cX7_reach 127 = .ok (.getfield 21, 3) := by decide +kernel
theorem dX7_reach_130 : decode cX7_reach 130 = .ok (.iload_n 2, 1) := by decide +kernel
theorem dX7_reach_131 : decode cX7_reach 131 = .ok (.iaload, 1) := by decide +kernel
theorem dX7_reach_132 : decode cX7_reach 132 = .ok (.iadd, 1) := by decide +kernel
theorem dX7_reach_133 : decode cX7_reach 133 = .ok (.iastore, 1) := by decide +kernel
theorem dX7_reach_134 : decode cX7_reach 134 = .ok (.iload 4, 2) := by decide +kernel
theorem dX7_reach_136 : decode cX7_reach 136 = .ok (.iconst (-1), 1) := by decide +kernel
theorem dX7_reach_137 : decode cX7_reach 137 = .ok (.if_icmp .eq 24, 3) := by decide +kernel
theorem dX7_reach_140 : decode cX7_reach 140 = .ok (.aload_n 0, 1) := by decide +kernel
theorem dX7_reach_141 : decode cX7_reach 141 = .ok (.getfield 31, 3) := by decide +kernel
theorem dX7_reach_144 : decode cX7_reach 144 = .ok (.iload_n 3, 1) := by decide +kernel
theorem dX7_reach_145 : decode cX7_reach 145 = .ok (.iload 4, 2) := by decide +kernel
theorem dX7_reach_147 : decode cX7_reach 147 = .ok (.invokevirtual 69, 3) := by decide +kernel
theorem dX7_reach_150 : decode cX7_reach 150 = .ok (.ifCond .eq 11, 3) := by decide +kernel
theorem dX7_reach_153 : decode cX7_reach 153 = .ok (.aload_n 0, 1) := by decide +kernel
theorem dX7_reach_154 : decode cX7_reach 154 = .ok (.getfield 24, 3) := by decide +kernel
theorem dX7_reach_157 : decode cX7_reach 157 = .ok (.iload_n 1, 1) := by decide +kernel
theorem dX7_reach_158 : decode cX7_reach 158 = .ok (.iload 4, 2) := by decide +kernel
theorem dX7_reach_160 : decode cX7_reach 160 = .ok (.iastore, 1) := by decide +kernel
theorem dX7_reach_161 : decode cX7_reach 161 = .ok (.return_, 1) := by decide +kernel
theorem dX7_count_0 : decode cX7_count 0 = .ok (.aload_n 0, 1) := by decide +kernel
theorem dX7_count_1 : decode cX7_count 1 = .ok (.getfield 27, 3) := by decide +kernel
theorem dX7_count_4 : decode cX7_count 4 = .ok (.ireturn, 1) := by decide +kernel
theorem dX7_vertexAt_0 : decode cX7_vertexAt 0 = .ok (.iload_n 1, 1) := by decide +kernel
theorem dX7_vertexAt_1 : decode cX7_vertexAt 1 = .ok (.ifCond .lt 26, 3) := by decide +kernel
theorem dX7_vertexAt_4 : decode cX7_vertexAt 4 = .ok (.iload_n 1, 1) := by decide +kernel
theorem dX7_vertexAt_5 : decode cX7_vertexAt 5 = .ok (.aload_n 0, 1) := by decide +kernel
theorem dX7_vertexAt_6 : decode cX7_vertexAt 6 = .ok (.getfield 27, 3) := by decide +kernel
theorem dX7_vertexAt_9 : decode cX7_vertexAt 9 = .ok (.if_icmp .ge 18, 3) := by decide +kernel
theorem dX7_vertexAt_12 : decode cX7_vertexAt 12 = .ok (.iload_n 1, 1) := by decide +kernel
theorem dX7_vertexAt_13 : decode cX7_vertexAt 13 = .ok (.bipush 20, 2) := by decide +kernel
theorem dX7_vertexAt_15 : decode cX7_vertexAt 15 = .ok (.if_icmp .ge 12, 3) := by decide +kernel
theorem dX7_vertexAt_18 : decode cX7_vertexAt 18 = .ok (.aload_n 0, 1) := by decide +kernel
theorem dX7_vertexAt_19 : decode cX7_vertexAt 19 = .ok (.getfield 9, 3) := by decide +kernel
theorem dX7_vertexAt_22 : decode cX7_vertexAt 22 = .ok (.iload_n 1, 1) := by decide +kernel
theorem dX7_vertexAt_23 : decode cX7_vertexAt 23 = .ok (.iaload, 1) := by decide +kernel
theorem dX7_vertexAt_24 : decode cX7_vertexAt 24 = .ok (.goto 4, 3) := by decide +kernel
theorem dX7_vertexAt_27 : decode cX7_vertexAt 27 = .ok (.iconst (-1), 1) := by decide +kernel
theorem dX7_vertexAt_28 : decode cX7_vertexAt 28 = .ok (.ireturn, 1) := by decide +kernel
theorem dX7_deepest_0 : decode cX7_deepest 0 = .ok (.aload_n 0, 1) := by decide +kernel
theorem dX7_deepest_1 : decode cX7_deepest 1 = .ok (.aload_n 0, 1) := by decide +kernel
theorem dX7_deepest_2 : decode cX7_deepest 2 = .ok (.getfield 27, 3) := by decide +kernel
theorem dX7_deepest_5 : decode cX7_deepest 5 = .ok (.iconst 1, 1) := by decide +kernel
theorem dX7_deepest_6 : decode cX7_deepest 6 = .ok (.isub, 1) := by decide +kernel
theorem dX7_deepest_7 : decode cX7_deepest 7 = .ok (.invokevirtual 73, 3) := by decide +kernel
theorem dX7_deepest_10 : decode cX7_deepest 10 = .ok (.ireturn, 1) := by decide +kernel
theorem dX7_holds_0 : decode cX7_holds 0 = .ok (.aload_n 0, 1) := by decide +kernel
theorem dX7_holds_1 : decode cX7_holds 1 = .ok (.iload_n 1, 1) := by decide +kernel
theorem dX7_holds_2 : decode cX7_holds 2 = .ok (.invokevirtual 76, 3) := by decide +kernel
theorem dX7_holds_5 : decode cX7_holds 5 = .ok (.iconst (-1), 1) := by decide +kernel
theorem dX7_holds_6 : decode cX7_holds 6 = .ok (.if_icmp .eq 7, 3) := by decide +kernel
theorem dX7_holds_9 : decode cX7_holds 9 = .ok (.iconst 1, 1) := by decide +kernel
theorem dX7_holds_10 : decode cX7_holds 10 = .ok (.goto 4, 3) := by decide +kernel
theorem dX7_holds_13 : decode cX7_holds 13 = .ok (.iconst 0, 1) := by decide +kernel
theorem dX7_holds_14 : decode cX7_holds 14 = .ok (.ireturn, 1) := by decide +kernel
theorem dX7_depthOf_0 : decode cX7_depthOf 0 = .ok (.aload_n 0, 1) := by decide +kernel
theorem dX7_depthOf_1 : decode cX7_depthOf 1 = .ok (.getfield 31, 3) := by decide +kernel
theorem dX7_depthOf_4 : decode cX7_depthOf 4 = .ok (.iload_n 1, 1) := by decide +kernel
theorem dX7_depthOf_5 : decode cX7_depthOf 5 = .ok (.invokevirtual 61, 3) := by decide +kernel
theorem dX7_depthOf_8 : decode cX7_depthOf 8 = .ok (.ifCond .eq 12, 3) := by decide +kernel
theorem dX7_depthOf_11 : decode cX7_depthOf 11 = .ok (.aload_n 0, 1) := by decide +kernel
theorem dX7_depthOf_12 : decode cX7_depthOf 12 = .ok (.getfield 15, 3) := by decide +kernel
theorem dX7_depthOf_15 : decode cX7_depthOf 15 = .ok (.iload_n 1, 1) := by decide +kernel
theorem dX7_depthOf_16 : decode cX7_depthOf 16 = .ok (.iaload, 1) := by decide +kernel
theorem dX7_depthOf_17 : decode cX7_depthOf 17 = .ok (.goto 4, 3) := by decide +kernel
theorem dX7_depthOf_20 : decode cX7_depthOf 20 = .ok (.iconst (-1), 1) := by decide +kernel
theorem dX7_depthOf_21 : decode cX7_depthOf 21 = .ok (.ireturn, 1) := by decide +kernel
theorem dX7_above_0 : decode cX7_above 0 = .ok (.aload_n 0, 1) := by decide +kernel
theorem dX7_above_1 : decode cX7_above 1 = .ok (.getfield 31, 3) := by decide +kernel
theorem dX7_above_4 : decode cX7_above 4 = .ok (.iload_n 1, 1) := by decide +kernel
theorem dX7_above_5 : decode cX7_above 5 = .ok (.invokevirtual 61, 3) := by decide +kernel
theorem dX7_above_8 : decode cX7_above 8 = .ok (.ifCond .eq 12, 3) := by decide +kernel
theorem dX7_above_11 : decode cX7_above 11 = .ok (.aload_n 0, 1) := by decide +kernel
theorem dX7_above_12 : decode cX7_above 12 = .ok (.getfield 18, 3) := by decide +kernel
theorem dX7_above_15 : decode cX7_above 15 = .ok (.iload_n 1, 1) := by decide +kernel
theorem dX7_above_16 : decode cX7_above 16 = .ok (.iaload, 1) := by decide +kernel
theorem dX7_above_17 : decode cX7_above 17 = .ok (.goto 4, 3) := by decide +kernel
theorem dX7_above_20 : decode cX7_above 20 = .ok (.iconst (-1), 1) := by decide +kernel
theorem dX7_above_21 : decode cX7_above 21 = .ok (.ireturn, 1) := by decide +kernel
theorem dX7_sumFromRoot_0 : decode cX7_sumFromRoot 0 = .ok (.aload_n 0, 1) := by decide +kernel
theorem dX7_sumFromRoot_1 : decode cX7_sumFromRoot 1 = .ok (.iload_n 1, 1) := by decide +kernel
theorem dX7_sumFromRoot_2 : decode cX7_sumFromRoot 2 = .ok (.invokevirtual 79, 3) := by decide +kernel
theorem dX7_sumFromRoot_5 : decode cX7_sumFromRoot 5 = .ok (.ifCond .eq 12, 3) := by decide +kernel
theorem dX7_sumFromRoot_8 : decode cX7_sumFromRoot 8 = .ok (.aload_n 0, 1) := by decide +kernel
theorem dX7_sumFromRoot_9 : decode cX7_sumFromRoot 9 = .ok (.getfield 21, 3) := by decide +kernel
theorem dX7_sumFromRoot_12 : decode cX7_sumFromRoot 12 = .ok (.iload_n 1, 1) := by decide +kernel
theorem dX7_sumFromRoot_13 : decode cX7_sumFromRoot 13 = .ok (.iaload, 1) := by decide +kernel
theorem dX7_sumFromRoot_14 : decode cX7_sumFromRoot 14 = .ok (.goto 4, 3) := by decide +kernel
theorem dX7_sumFromRoot_17 : decode cX7_sumFromRoot 17 = .ok (.iconst 0, 1) := by decide +kernel
theorem dX7_sumFromRoot_18 : decode cX7_sumFromRoot 18 = .ok (.ireturn, 1) := by decide +kernel
theorem dX7_lastFromRoot_0 : decode cX7_lastFromRoot 0 = .ok (.aload_n 0, 1) := by decide +kernel
theorem dX7_lastFromRoot_1 : decode cX7_lastFromRoot 1 = .ok (.iload_n 1, 1) := by decide +kernel
theorem dX7_lastFromRoot_2 : decode cX7_lastFromRoot 2 = .ok (.invokevirtual 79, 3) := by decide +kernel
theorem dX7_lastFromRoot_5 : decode cX7_lastFromRoot 5 = .ok (.ifCond .eq 12, 3) := by decide +kernel
theorem dX7_lastFromRoot_8 : decode cX7_lastFromRoot 8 = .ok (.aload_n 0, 1) := by decide +kernel
theorem dX7_lastFromRoot_9 : decode cX7_lastFromRoot 9 = .ok (.getfield 24, 3) := by decide +kernel
theorem dX7_lastFromRoot_12 : decode cX7_lastFromRoot 12 = .ok (.iload_n 1, 1) := by decide +kernel
theorem dX7_lastFromRoot_13 : decode cX7_lastFromRoot 13 = .ok (.iaload, 1) := by decide +kernel
theorem dX7_lastFromRoot_14 : decode cX7_lastFromRoot 14 = .ok (.goto 4, 3) := by decide +kernel
theorem dX7_lastFromRoot_17 : decode cX7_lastFromRoot 17 = .ok (.iconst (-1), 1) := by decide +kernel
theorem dX7_lastFromRoot_18 : decode cX7_lastFromRoot 18 = .ok (.ireturn, 1) := by decide +kernel
theorem dX7_climb_0 : decode cX7_climb 0 = .ok (.iload_n 1, 1) := by decide +kernel
theorem dX7_climb_1 : decode cX7_climb 1 = .ok (.istore_n 3, 1) := by decide +kernel
theorem dX7_climb_2 : decode cX7_climb 2 = .ok (.iconst 0, 1) := by decide +kernel
theorem dX7_climb_3 : decode cX7_climb 3 = .ok (.istore 4, 2) := by decide +kernel
theorem dX7_climb_5 : decode cX7_climb 5 = .ok (.iload 4, 2) := by decide +kernel
theorem dX7_climb_7 : decode cX7_climb 7 = .ok (.iload_n 2, 1) := by decide +kernel
theorem dX7_climb_8 : decode cX7_climb 8 = .ok (.if_icmp .ge 22, 3) := by decide +kernel
theorem dX7_climb_11 : decode cX7_climb 11 = .ok (.iload 4, 2) := by decide +kernel
theorem dX7_climb_13 : decode cX7_climb 13 = .ok (.bipush 20, 2) := by decide +kernel
theorem dX7_climb_15 : decode cX7_climb 15 = .ok (.if_icmp .ge 15, 3) := by decide +kernel
theorem dX7_climb_18 : decode cX7_climb 18 = .ok (.aload_n 0, 1) := by decide +kernel
theorem dX7_climb_19 : decode cX7_climb 19 = .ok (.iload_n 3, 1) := by decide +kernel
theorem dX7_climb_20 : decode cX7_climb 20 = .ok (.invokevirtual 82, 3) := by decide +kernel
theorem dX7_climb_23 : decode cX7_climb 23 = .ok (.istore_n 3, 1) := by decide +kernel
theorem dX7_climb_24 : decode cX7_climb 24 = .ok (.iinc 4 1, 3) := by decide +kernel
theorem dX7_climb_27 : decode cX7_climb 27 = .ok (.goto (-22), 3) := by decide +kernel
theorem dX7_climb_30 : decode cX7_climb 30 = .ok (.iload_n 3, 1) := by decide +kernel
theorem dX7_climb_31 : decode cX7_climb 31 = .ok (.ireturn, 1) := by decide +kernel
theorem dX7_addOnWayToRoot_0 : decode cX7_addOnWayToRoot 0 = .ok (.iload_n 1, 1) := by decide +kernel
theorem dX7_addOnWayToRoot_1 : decode cX7_addOnWayToRoot 1 = .ok (.istore_n 3, 1) := by decide +kernel
theorem dX7_addOnWayToRoot_2 : decode cX7_addOnWayToRoot 2 = .ok (.iconst 0, 1) := by decide +kernel
theorem dX7_addOnWayToRoot_3 : decode cX7_addOnWayToRoot 3 = .ok (.istore 4, 2) := by decide +kernel
theorem dX7_addOnWayToRoot_5 : decode cX7_addOnWayToRoot 5 = .ok (.iload 4, 2) := by decide +kernel
theorem dX7_addOnWayToRoot_7 : decode cX7_addOnWayToRoot 7 = .ok (.bipush 20, 2) := by decide +kernel
theorem dX7_addOnWayToRoot_9 : decode cX7_addOnWayToRoot 9 = .ok (.if_icmp .ge 38, 3) := by decide +kernel
theorem dX7_addOnWayToRoot_12 : decode cX7_addOnWayToRoot 12 = .ok (.iload_n 3, 1) := by decide +kernel
theorem dX7_addOnWayToRoot_13 : decode cX7_addOnWayToRoot 13 = .ok (.iconst (-1), 1) := by decide +kernel
theorem dX7_addOnWayToRoot_14 : decode cX7_addOnWayToRoot 14 = .ok (.if_icmp .eq 33, 3) := by decide +kernel
theorem dX7_addOnWayToRoot_17 : decode cX7_addOnWayToRoot 17 = .ok (.aload_n 0, 1) := by decide +kernel
theorem dX7_addOnWayToRoot_18 : decode cX7_addOnWayToRoot 18 = .ok (.getfield 31, 3) := by decide +kernel
theorem dX7_addOnWayToRoot_21 : decode cX7_addOnWayToRoot 21 = .ok (.iload_n 3, 1) := by decide +kernel
theorem dX7_addOnWayToRoot_22 : decode cX7_addOnWayToRoot 22 = .ok (.aload_n 0, 1) := by decide +kernel
theorem dX7_addOnWayToRoot_23 : decode cX7_addOnWayToRoot 23 = .ok (.getfield 31, 3) := by decide +kernel
theorem dX7_addOnWayToRoot_26 : decode cX7_addOnWayToRoot 26 = .ok (.iload_n 3, 1) := by decide +kernel
theorem dX7_addOnWayToRoot_27 : decode cX7_addOnWayToRoot 27 = .ok (.invokevirtual 65, 3) := by decide +kernel
theorem dX7_addOnWayToRoot_30 : decode cX7_addOnWayToRoot 30 = .ok (.iload_n 2, 1) := by decide +kernel
theorem dX7_addOnWayToRoot_31 : decode cX7_addOnWayToRoot 31 = .ok (.iadd, 1) := by decide +kernel
theorem dX7_addOnWayToRoot_32 : decode cX7_addOnWayToRoot 32 = .ok (.invokevirtual 85, 3) := by decide +kernel
theorem dX7_addOnWayToRoot_35 : decode cX7_addOnWayToRoot 35 = .ok (.aload_n 0, 1) := by decide +kernel
theorem dX7_addOnWayToRoot_36 : decode cX7_addOnWayToRoot 36 = .ok (.iload_n 3, 1) := by decide +kernel
theorem dX7_addOnWayToRoot_37 : decode cX7_addOnWayToRoot 37 = .ok (.invokevirtual 82, 3) := by decide +kernel
theorem dX7_addOnWayToRoot_40 : decode cX7_addOnWayToRoot 40 = .ok (.istore_n 3, 1) := by decide +kernel
theorem dX7_addOnWayToRoot_41 : decode cX7_addOnWayToRoot 41 = .ok (.iinc 4 1, 3) := by decide +kernel
theorem dX7_addOnWayToRoot_44 : decode cX7_addOnWayToRoot 44 = .ok (.goto (-39), 3) := by decide +kernel
theorem dX7_addOnWayToRoot_47 : decode cX7_addOnWayToRoot 47 = .ok (.return_, 1) := by decide +kernel
theorem dX7_sumByClimbing_0 : decode cX7_sumByClimbing 0 = .ok (.iconst 0, 1) := by decide +kernel
theorem dX7_sumByClimbing_1 : decode cX7_sumByClimbing 1 = .ok (.istore_n 2, 1) := by decide +kernel
theorem dX7_sumByClimbing_2 : decode cX7_sumByClimbing 2 = .ok (.iload_n 1, 1) := by decide +kernel
theorem dX7_sumByClimbing_3 : decode cX7_sumByClimbing 3 = .ok (.istore_n 3, 1) := by decide +kernel
theorem dX7_sumByClimbing_4 : decode cX7_sumByClimbing 4 = .ok (.iconst 0, 1) := by decide +kernel
theorem dX7_sumByClimbing_5 : decode cX7_sumByClimbing 5 = .ok (.istore 4, 2) := by decide +kernel
theorem dX7_sumByClimbing_7 : decode cX7_sumByClimbing 7 = .ok (.iload 4, 2) := by decide +kernel
theorem dX7_sumByClimbing_9 : decode cX7_sumByClimbing 9 = .ok (.bipush 20, 2) := by decide +kernel
theorem dX7_sumByClimbing_11 : decode cX7_sumByClimbing 11 = .ok (.if_icmp .ge 31, 3) := by decide +kernel
theorem dX7_sumByClimbing_14 : decode cX7_sumByClimbing 14 = .ok (.iload_n 3, 1) := by decide +kernel
theorem dX7_sumByClimbing_15 : decode cX7_sumByClimbing 15 = .ok (.iconst (-1), 1) := by decide +kernel
theorem dX7_sumByClimbing_16 : decode cX7_sumByClimbing 16 = .ok (.if_icmp .eq 26, 3) := by decide +kernel
theorem dX7_sumByClimbing_19 : decode cX7_sumByClimbing 19 = .ok (.iload_n 2, 1) := by decide +kernel
theorem dX7_sumByClimbing_20 : decode cX7_sumByClimbing 20 = .ok (.aload_n 0, 1) := by decide +kernel
theorem dX7_sumByClimbing_21 : decode cX7_sumByClimbing 21 = .ok (.getfield 31, 3) := by decide +kernel
theorem dX7_sumByClimbing_24 : decode cX7_sumByClimbing 24 = .ok (.iload_n 3, 1) := by decide +kernel
theorem dX7_sumByClimbing_25 : decode cX7_sumByClimbing 25 = .ok (.invokevirtual 65, 3) := by decide +kernel
theorem dX7_sumByClimbing_28 : decode cX7_sumByClimbing 28 = .ok (.iadd, 1) := by decide +kernel
theorem dX7_sumByClimbing_29 : decode cX7_sumByClimbing 29 = .ok (.istore_n 2, 1) := by decide +kernel
theorem dX7_sumByClimbing_30 : decode cX7_sumByClimbing 30 = .ok (.aload_n 0, 1) := by decide +kernel
theorem dX7_sumByClimbing_31 : decode cX7_sumByClimbing 31 = .ok (.iload_n 3, 1) := by decide +kernel
theorem dX7_sumByClimbing_32 : decode cX7_sumByClimbing 32 = .ok (.invokevirtual 82, 3) := by decide +kernel
theorem dX7_sumByClimbing_35 : decode cX7_sumByClimbing 35 = .ok (.istore_n 3, 1) := by decide +kernel
theorem dX7_sumByClimbing_36 : decode cX7_sumByClimbing 36 = .ok (.iinc 4 1, 3) := by decide +kernel
theorem dX7_sumByClimbing_39 : decode cX7_sumByClimbing 39 = .ok (.goto (-32), 3) := by decide +kernel
theorem dX7_sumByClimbing_42 : decode cX7_sumByClimbing 42 = .ok (.iload_n 2, 1) := by decide +kernel
theorem dX7_sumByClimbing_43 : decode cX7_sumByClimbing 43 = .ok (.ireturn, 1) := by decide +kernel
theorem dX7_lastByClimbing_0 : decode cX7_lastByClimbing 0 = .ok (.iconst (-1), 1) := by decide +kernel
theorem dX7_lastByClimbing_1 : decode cX7_lastByClimbing 1 = .ok (.istore_n 2, 1) := by decide +kernel
theorem dX7_lastByClimbing_2 : decode cX7_lastByClimbing 2 = .ok (.iload_n 1, 1) := by decide +kernel
theorem dX7_lastByClimbing_3 : decode cX7_lastByClimbing 3 = .ok (.istore_n 3, 1) := by decide +kernel
theorem dX7_lastByClimbing_4 : decode cX7_lastByClimbing 4 = .ok (.iconst 0, 1) := by decide +kernel
theorem dX7_lastByClimbing_5 : decode cX7_lastByClimbing 5 = .ok (.istore 4, 2) := by decide +kernel
theorem dX7_lastByClimbing_7 : decode cX7_lastByClimbing 7 = .ok (.iload 4, 2) := by decide +kernel
theorem dX7_lastByClimbing_9 : decode cX7_lastByClimbing 9 = .ok (.bipush 20, 2) := by decide +kernel
theorem dX7_lastByClimbing_11 : decode cX7_lastByClimbing 11 = .ok (.if_icmp .ge 60, 3) := by decide +kernel
theorem dX7_lastByClimbing_14 : decode cX7_lastByClimbing 14 = .ok (.aload_n 0, 1) := by decide +kernel
theorem dX7_lastByClimbing_15 : decode cX7_lastByClimbing 15 = .ok (.iload_n 3, 1) := by decide +kernel
theorem dX7_lastByClimbing_16 : decode cX7_lastByClimbing 16 = .ok (.invokevirtual 82, 3) := by decide +kernel
theorem dX7_lastByClimbing_19 : decode cX7_lastByClimbing 19 = .ok (.iconst (-1), 1) := by decide +kernel
theorem dX7_lastByClimbing_20 : decode cX7_lastByClimbing 20 = .ok (.if_icmp .eq 51, 3) := by decide +kernel
theorem dX7_lastByClimbing_23 : decode cX7_lastByClimbing 23 = .ok (.aload_n 0, 1) := by decide +kernel
theorem dX7_lastByClimbing_24 : decode cX7_lastByClimbing 24 = .ok (.getfield 35, 3) := by decide +kernel
theorem dX7_lastByClimbing_27 : decode cX7_lastByClimbing 27 = .ok (.iload_n 3, 1) := by decide +kernel
theorem dX7_lastByClimbing_28 : decode cX7_lastByClimbing 28 = .ok (.aload_n 0, 1) := by decide +kernel
theorem dX7_lastByClimbing_29 : decode cX7_lastByClimbing 29 = .ok (.iload_n 3, 1) := by decide +kernel
theorem dX7_lastByClimbing_30 : decode cX7_lastByClimbing 30 = .ok (.invokevirtual 82, 3) := by decide +kernel
theorem dX7_lastByClimbing_33 : decode cX7_lastByClimbing 33 = .ok (.invokevirtual 55, 3) := by decide +kernel
theorem dX7_lastByClimbing_36 : decode cX7_lastByClimbing 36 = .ok (.istore 5, 2) := by decide +kernel
theorem dX7_lastByClimbing_38 : decode cX7_lastByClimbing 38 = .ok (.iload_n 2, 1) := by decide +kernel
theorem dX7_lastByClimbing_39 : decode cX7_lastByClimbing 39 = .ok (.iconst (-1), 1) := by decide +kernel
theorem dX7_lastByClimbing_40 : decode cX7_lastByClimbing 40 = .ok (.if_icmp .eq 16, 3) := by decide +kernel
theorem dX7_lastByClimbing_43 : decode cX7_lastByClimbing 43 = .ok (.aload_n 0, 1) := by decide +kernel
theorem dX7_lastByClimbing_44 : decode cX7_lastByClimbing 44 = .ok (.getfield 31, 3) := by decide +kernel
theorem dX7_lastByClimbing_47 : decode cX7_lastByClimbing 47 = .ok (.iload_n 2, 1) := by decide +kernel
theorem dX7_lastByClimbing_48 : decode cX7_lastByClimbing 48 = .ok (.iload 5, 2) := by decide +kernel
theorem dX7_lastByClimbing_50 : decode cX7_lastByClimbing 50 = .ok (.invokevirtual 69, 3) := by decide +kernel
theorem dX7_lastByClimbing_53 : decode cX7_lastByClimbing 53 = .ok (.ifCond .eq 6, 3) := by decide +kernel
theorem dX7_lastByClimbing_56 : decode cX7_lastByClimbing 56 = .ok (.iload 5, 2) := by decide +kernel
theorem dX7_lastByClimbing_58 : decode cX7_lastByClimbing 58 = .ok (.istore_n 2, 1) := by decide +kernel
theorem dX7_lastByClimbing_59 : decode cX7_lastByClimbing 59 = .ok (.aload_n 0, 1) := by decide +kernel
theorem dX7_lastByClimbing_60 : decode cX7_lastByClimbing 60 = .ok (.iload_n 3, 1) := by decide +kernel
theorem dX7_lastByClimbing_61 : decode cX7_lastByClimbing 61 = .ok (.invokevirtual 82, 3) := by decide +kernel
theorem dX7_lastByClimbing_64 : decode cX7_lastByClimbing 64 = .ok (.istore_n 3, 1) := by decide +kernel
theorem dX7_lastByClimbing_65 : decode cX7_lastByClimbing 65 = .ok (.iinc 4 1, 3) := by decide +kernel
theorem dX7_lastByClimbing_68 : decode cX7_lastByClimbing 68 = .ok (.goto (-61), 3) := by decide +kernel
theorem dX7_lastByClimbing_71 : decode cX7_lastByClimbing 71 = .ok (.iload_n 2, 1) := by decide +kernel
theorem dX7_lastByClimbing_72 : decode cX7_lastByClimbing 72 = .ok (.ireturn, 1) := by decide +kernel
theorem dX7_meetByClimbing_0 : decode cX7_meetByClimbing 0 = .ok (.iload_n 1, 1) := by decide +kernel
theorem dX7_meetByClimbing_1 : decode cX7_meetByClimbing 1 = .ok (.istore_n 3, 1) := by decide +kernel
theorem dX7_meetByClimbing_2 : decode cX7_meetByClimbing 2 = .ok (.iload_n 2, 1) := by decide +kernel
theorem dX7_meetByClimbing_3 : decode cX7_meetByClimbing 3 = .ok (.istore 4, 2) := by decide +kernel
theorem dX7_meetByClimbing_5 : decode cX7_meetByClimbing 5 = .ok (.iconst 0, 1) := by decide +kernel
theorem dX7_meetByClimbing_6 : decode cX7_meetByClimbing 6 = .ok (.istore 5, 2) := by decide +kernel
theorem dX7_meetByClimbing_8 : decode cX7_meetByClimbing 8 = .ok (.iload 5, 2) := by decide +kernel
theorem dX7_meetByClimbing_10 : decode cX7_meetByClimbing 10 = .ok (.bipush 40, 2) := by decide +kernel
theorem dX7_meetByClimbing_12 : decode cX7_meetByClimbing 12 = .ok (.if_icmp .ge 46, 3) := by decide +kernel
theorem dX7_meetByClimbing_15 : decode cX7_meetByClimbing 15 = .ok (.iload_n 3, 1) := by decide +kernel
theorem dX7_meetByClimbing_16 : decode cX7_meetByClimbing 16 = .ok (.iload 4, 2) := by decide +kernel
theorem dX7_meetByClimbing_18 : decode cX7_meetByClimbing 18 = .ok (.if_icmp .eq 40, 3) := by decide +kernel
theorem dX7_meetByClimbing_21 : decode cX7_meetByClimbing 21 = .ok (.aload_n 0, 1) := by decide +kernel
theorem dX7_meetByClimbing_22 : decode cX7_meetByClimbing 22 = .ok (.iload_n 3, 1) := by decide +kernel
theorem dX7_meetByClimbing_23 : decode cX7_meetByClimbing 23 = .ok (.invokevirtual 76, 3) := by decide +kernel
theorem dX7_meetByClimbing_26 : decode cX7_meetByClimbing 26 = .ok (.aload_n 0, 1) := by decide +kernel
theorem dX7_meetByClimbing_27 : decode cX7_meetByClimbing 27 = .ok (.iload 4, 2) := by decide +kernel
theorem dX7_meetByClimbing_29 : decode cX7_meetByClimbing 29 = .ok (.invokevirtual 76, 3) := by decide +kernel
theorem dX7_meetByClimbing_32 : decode cX7_meetByClimbing 32 = .ok (.if_icmp .lt 12, 3) := by decide +kernel
theorem dX7_meetByClimbing_35 : decode cX7_meetByClimbing 35 = .ok (.aload_n 0, 1) := by decide +kernel
theorem dX7_meetByClimbing_36 : decode cX7_meetByClimbing 36 = .ok (.iload_n 3, 1) := by decide +kernel
theorem dX7_meetByClimbing_37 : decode cX7_meetByClimbing 37 = .ok (.invokevirtual 82, 3) := by decide +kernel
theorem dX7_meetByClimbing_40 : decode cX7_meetByClimbing 40 = .ok (.istore_n 3, 1) := by decide +kernel
theorem dX7_meetByClimbing_41 : decode cX7_meetByClimbing 41 = .ok (.goto 11, 3) := by decide +kernel
theorem dX7_meetByClimbing_44 : decode cX7_meetByClimbing 44 = .ok (.aload_n 0, 1) := by decide +kernel
theorem dX7_meetByClimbing_45 : decode cX7_meetByClimbing 45 = .ok (.iload 4, 2) := by decide +kernel
theorem dX7_meetByClimbing_47 : decode cX7_meetByClimbing 47 = .ok (.invokevirtual 82, 3) := by decide +kernel
theorem dX7_meetByClimbing_50 : decode cX7_meetByClimbing 50 = .ok (.istore 4, 2) := by decide +kernel
theorem dX7_meetByClimbing_52 : decode cX7_meetByClimbing 52 = .ok (.iinc 5 1, 3) := by decide +kernel
theorem dX7_meetByClimbing_55 : decode cX7_meetByClimbing 55 = .ok (.goto (-47), 3) := by decide +kernel
theorem dX7_meetByClimbing_58 : decode cX7_meetByClimbing 58 = .ok (.iload_n 3, 1) := by decide +kernel
theorem dX7_meetByClimbing_59 : decode cX7_meetByClimbing 59 = .ok (.ireturn, 1) := by decide +kernel
theorem dJ9_max_7cf53_0 : decode cJ9_max_7cf53 0 = .ok (.iload_n 0, 1) := by decide +kernel
theorem dJ9_max_7cf53_1 : decode cJ9_max_7cf53 1 = .ok (.iload_n 1, 1) := by decide +kernel
theorem dJ9_max_7cf53_2 : decode cJ9_max_7cf53 2 = .ok (.if_icmp .lt 7, 3) := by decide +kernel
theorem dJ9_max_7cf53_5 : decode cJ9_max_7cf53 5 = .ok (.iload_n 0, 1) := by decide +kernel
theorem dJ9_max_7cf53_6 : decode cJ9_max_7cf53 6 = .ok (.goto 4, 3) := by decide +kernel
theorem dJ9_max_7cf53_9 : decode cJ9_max_7cf53 9 = .ok (.iload_n 1, 1) := by decide +kernel
theorem dJ9_max_7cf53_10 : decode cJ9_max_7cf53 10 = .ok (.ireturn, 1) := by decide +kernel
theorem dJ7_fill_53178_0 : decode cJ7_fill_53178 0 = .ok (.iconst 0, 1) := by decide +kernel
theorem dJ7_fill_53178_1 : decode cJ7_fill_53178 1 = .ok (.istore_n 2, 1) := by decide +kernel
theorem dJ7_fill_53178_2 : decode cJ7_fill_53178 2 = .ok (.aload_n 0, 1) := by decide +kernel
theorem dJ7_fill_53178_3 : decode cJ7_fill_53178 3 = .ok (.arraylength, 1) := by decide +kernel
theorem dJ7_fill_53178_4 : decode cJ7_fill_53178 4 = .ok (.istore_n 3, 1) := by decide +kernel
theorem dJ7_fill_53178_5 : decode cJ7_fill_53178 5 = .ok (.iload_n 2, 1) := by decide +kernel
theorem dJ7_fill_53178_6 : decode cJ7_fill_53178 6 = .ok (.iload_n 3, 1) := by decide +kernel
theorem dJ7_fill_53178_7 : decode cJ7_fill_53178 7 = .ok (.if_icmp .ge 13, 3) := by decide +kernel
theorem dJ7_fill_53178_10 : decode cJ7_fill_53178 10 = .ok (.aload_n 0, 1) := by decide +kernel
theorem dJ7_fill_53178_11 : decode cJ7_fill_53178 11 = .ok (.iload_n 2, 1) := by decide +kernel
theorem dJ7_fill_53178_12 : decode cJ7_fill_53178 12 = .ok (.iload_n 1, 1) := by decide +kernel
theorem dJ7_fill_53178_13 : decode cJ7_fill_53178 13 = .ok (.iastore, 1) := by decide +kernel
theorem dJ7_fill_53178_14 : decode cJ7_fill_53178 14 = .ok (.iinc 2 1, 3) := by decide +kernel
theorem dJ7_fill_53178_17 : decode cJ7_fill_53178 17 = .ok (.goto (-12), 3) := by decide +kernel
theorem dJ7_fill_53178_20 : decode cJ7_fill_53178 20 = .ok (.return_, 1) := by decide +kernel
