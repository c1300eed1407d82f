theorem dL_addVertex_0 : decode cL_addVertex 0 = .ok (.aload_n 2, 1) := by decide +kernel
theorem dL_addVertex_1 : decode cL_addVertex 1 = .ok (.iconst 0, 1) := by decide +kernel
theorem dL_addVertex_2 : decode cL_addVertex 2 = .ok (.aload_n 0, 1) := by decide +kernel
theorem dL_addVertex_3 : decode cL_addVertex 3 = .ok (.iload_n 1, 1) := by decide +kernel
theorem dL_addVertex_4 : decode cL_addVertex 4 = .ok (.invokevirtual 7, 3) := by decide +kernel
theorem dL_addVertex_7 : decode cL_addVertex 7 = .ok (.i2l, 1) := by decide +kernel
theorem dL_addVertex_8 : decode cL_addVertex 8 = .ok (.lastore, 1) := by decide +kernel
theorem dL_addVertex_9 : decode cL_addVertex 9 = .ok (.goto 9, 3) := by decide +kernel
theorem dL_addVertex_12 : decode cL_addVertex 12 = .ok (.astore_n 3, 1) := by decide +kernel
theorem dL_addVertex_13 : decode cL_addVertex 13 = .ok (.iconst 1, 1) := by decide +kernel
theorem dL_addVertex_14 : decode cL_addVertex 14 = .ok (.ireturn, 1) := by decide +kernel
theorem dL_addVertex_15 : decode cL_addVertex 15 = .ok (.astore_n 3, 1) := by decide +kernel
theorem dL_addVertex_16 : decode cL_addVertex 16 = .ok (.iconst 2, 1) := by decide +kernel
theorem dL_addVertex_17 : decode cL_addVertex 17 = .ok (.ireturn, 1) := by decide +kernel
theorem dL_addVertex_18 : decode cL_addVertex 18 = .ok (.iconst 0, 1) := by decide +kernel
theorem dL_addVertex_19 : decode cL_addVertex 19 = .ok (.ireturn, 1) := by decide +kernel
theorem dL_setValue_0 : decode cL_setValue 0 = .ok (.aload_n 3, 1) := by decide +kernel
theorem dL_setValue_1 : decode cL_setValue 1 = .ok (.iconst 0, 1) := by decide +kernel
theorem dL_setValue_2 : decode cL_setValue 2 = .ok (.aload_n 0, 1) := by decide +kernel
theorem dL_setValue_3 : decode cL_setValue 3 = .ok (.iload_n 1, 1) := by decide +kernel
theorem dL_setValue_4 : decode cL_setValue 4 = .ok (.iload_n 2, 1) := by decide +kernel
theorem dL_setValue_5 : decode cL_setValue 5 = .ok (.invokevirtual 17, 3) := by decide +kernel
theorem dL_setValue_8 : decode cL_setValue 8 = .ok (.i2l, 1) := by decide +kernel
theorem dL_setValue_9 : decode cL_setValue 9 = .ok (.lastore, 1) := by decide +kernel
theorem dL_setValue_10 : decode cL_setValue 10 = .ok (.goto 11, 3) := by decide +kernel
theorem dL_setValue_13 : decode cL_setValue 13 = .ok (.astore 4, 2) := by decide +kernel
theorem dL_setValue_15 : decode cL_setValue 15 = .ok (.iconst 1, 1) := by decide +kernel
theorem dL_setValue_16 : decode cL_setValue 16 = .ok (.ireturn, 1) := by decide +kernel
theorem dL_setValue_17 : decode cL_setValue 17 = .ok (.astore 4, 2) := by decide +kernel
theorem dL_setValue_19 : decode cL_setValue 19 = .ok (.iconst 2, 1) := by decide +kernel
theorem dL_setValue_20 : decode cL_setValue 20 = .ok (.ireturn, 1) := by decide +kernel
theorem dL_setValue_21 : decode cL_setValue 21 = .ok (.iconst 0, 1) := by decide +kernel
theorem dL_setValue_22 : decode cL_setValue 22 = .ok (.ireturn, 1) := by decide +kernel
theorem dL_addEdge_0 : decode cL_addEdge 0 = .ok (.aload 4, 2) := by decide +kernel
theorem dL_addEdge_2 : decode cL_addEdge 2 = .ok (.iconst 0, 1) := by decide +kernel
theorem dL_addEdge_3 : decode cL_addEdge 3 = .ok (.aload_n 0, 1) := by decide +kernel
theorem dL_addEdge_4 : decode cL_addEdge 4 = .ok (.iload_n 1, 1) := by decide +kernel
theorem dL_addEdge_5 : decode cL_addEdge 5 = .ok (.iload_n 2, 1) := by decide +kernel
theorem dL_addEdge_6 : decode cL_addEdge 6 = .ok (.iload_n 3, 1) := by decide +kernel
theorem dL_addEdge_7 : decode cL_addEdge 7 = .ok (.invokevirtual 23, 3) := by decide +kernel
theorem dL_addEdge_10 : decode cL_addEdge 10 = .ok (.i2l, 1) := by decide +kernel
theorem dL_addEdge_11 : decode cL_addEdge 11 = .ok (.lastore, 1) := by decide +kernel
theorem dL_addEdge_12 : decode cL_addEdge 12 = .ok (.goto 19, 3) := by decide +kernel
theorem dL_addEdge_15 : decode cL_addEdge 15 = .ok (.astore 5, 2) := by decide +kernel
theorem dL_addEdge_17 : decode cL_addEdge 17 = .ok (.iconst 1, 1) := by decide +kernel
theorem dL_addEdge_18 : decode cL_addEdge 18 = .ok (.ireturn, 1) := by decide +kernel
theorem dL_addEdge_19 : decode cL_addEdge 19 = .ok (.astore 5, 2) := by decide +kernel
theorem dL_addEdge_21 : decode cL_addEdge 21 = .ok (.iconst 2, 1) := by decide +kernel
theorem dL_addEdge_22 : decode cL_addEdge 22 = .ok (.ireturn, 1) := by decide +kernel
theorem dL_addEdge_23 : decode cL_addEdge 23 = .ok (.astore 5, 2) := by decide +kernel
theorem dL_addEdge_25 : decode cL_addEdge 25 = .ok (.iconst 3, 1) := by decide +kernel
theorem dL_addEdge_26 : decode cL_addEdge 26 = .ok (.ireturn, 1) := by decide +kernel
theorem dL_addEdge_27 : decode cL_addEdge 27 = .ok (.astore 5, 2) := by decide +kernel
theorem dL_addEdge_29 : decode cL_addEdge 29 = .ok (.iconst 4, 1) := by decide +kernel
theorem dL_addEdge_30 : decode cL_addEdge 30 = .ok (.ireturn, 1) := by decide +kernel
theorem dL_addEdge_31 : decode cL_addEdge 31 = .ok (.iconst 0, 1) := by decide +kernel
theorem dL_addEdge_32 : decode cL_addEdge 32 = .ok (.ireturn, 1) := by decide +kernel
theorem dL_removeEdge_0 : decode cL_removeEdge 0 = .ok (.aload_n 2, 1) := by decide +kernel
theorem dL_removeEdge_1 : decode cL_removeEdge 1 = .ok (.iconst 0, 1) := by decide +kernel
theorem dL_removeEdge_2 : decode cL_removeEdge 2 = .ok (.aload_n 0, 1) := by decide +kernel
theorem dL_removeEdge_3 : decode cL_removeEdge 3 = .ok (.iload_n 1, 1) := by decide +kernel
theorem dL_removeEdge_4 : decode cL_removeEdge 4 = .ok (.invokevirtual 29, 3) := by decide +kernel
theorem dL_removeEdge_7 : decode cL_removeEdge 7 = .ok (.i2l, 1) := by decide +kernel
theorem dL_removeEdge_8 : decode cL_removeEdge 8 = .ok (.lastore, 1) := by decide +kernel
theorem dL_removeEdge_9 : decode cL_removeEdge 9 = .ok (.goto 9, 3) := by decide +kernel
theorem dL_removeEdge_12 : decode cL_removeEdge 12 = .ok (.astore_n 3, 1) := by decide +kernel
theorem dL_removeEdge_13 : decode cL_removeEdge 13 = .ok (.iconst 1, 1) := by decide +kernel
theorem dL_removeEdge_14 : decode cL_removeEdge 14 = .ok (.ireturn, 1) := by decide +kernel
theorem dL_removeEdge_15 : decode cL_removeEdge 15 = .ok (.astore_n 3, 1) := by decide +kernel
theorem dL_removeEdge_16 : decode cL_removeEdge 16 = .ok (.iconst 2, 1) := by decide +kernel
theorem dL_removeEdge_17 : decode cL_removeEdge 17 = .ok (.ireturn, 1) := by decide +kernel
theorem dL_removeEdge_18 : decode cL_removeEdge 18 = .ok (.iconst 0, 1) := by decide +kernel
theorem dL_removeEdge_19 : decode cL_removeEdge 19 = .ok (.ireturn, 1) := by decide +kernel
theorem dL_setWeight_0 : decode cL_setWeight 0 = .ok (.aload_n 3, 1) := by decide +kernel
theorem dL_setWeight_1 : decode cL_setWeight 1 = .ok (.iconst 0, 1) := by decide +kernel
theorem dL_setWeight_2 : decode cL_setWeight 2 = .ok (.aload_n 0, 1) := by decide +kernel
theorem dL_setWeight_3 : decode cL_setWeight 3 = .ok (.iload_n 1, 1) := by decide +kernel
theorem dL_setWeight_4 : decode cL_setWeight 4 = .ok (.iload_n 2, 1) := by decide +kernel
theorem dL_setWeight_5 : decode cL_setWeight 5 = .ok (.invokevirtual 32, 3) := by decide +kernel
theorem dL_setWeight_8 : decode cL_setWeight 8 = .ok (.i2l, 1) := by decide +kernel
theorem dL_setWeight_9 : decode cL_setWeight 9 = .ok (.lastore, 1) := by decide +kernel
theorem dL_setWeight_10 : decode cL_setWeight 10 = .ok (.goto 15, 3) := by decide +kernel
theorem dL_setWeight_13 : decode cL_setWeight 13 = .ok (.astore 4, 2) := by decide +kernel
theorem dL_setWeight_15 : decode cL_setWeight 15 = .ok (.iconst 1, 1) := by decide +kernel
theorem dL_setWeight_16 : decode cL_setWeight 16 = .ok (.ireturn, 1) := by decide +kernel
theorem dL_setWeight_17 : decode cL_setWeight 17 = .ok (.astore 4, 2) := by decide +kernel
theorem dL_setWeight_19 : decode cL_setWeight 19 = .ok (.iconst 2, 1) := by decide +kernel
theorem dL_setWeight_20 : decode cL_setWeight 20 = .ok (.ireturn, 1) := by decide +kernel
theorem dL_setWeight_21 : decode cL_setWeight 21 = .ok (.astore 4, 2) := by decide +kernel
theorem dL_setWeight_23 : decode cL_setWeight 23 = .ok (.iconst 3, 1) := by decide +kernel
theorem dL_setWeight_24 : decode cL_setWeight 24 = .ok (.ireturn, 1) := by decide +kernel
theorem dL_setWeight_25 : decode cL_setWeight 25 = .ok (.iconst 0, 1) := by decide +kernel
theorem dL_setWeight_26 : decode cL_setWeight 26 = .ok (.ireturn, 1) := by decide +kernel
theorem dL_addOnPath_0 : decode cL_addOnPath 0 = .ok (.aload 4, 2) := by decide +kernel
theorem dL_addOnPath_2 : decode cL_addOnPath 2 = .ok (.iconst 0, 1) := by decide +kernel
theorem dL_addOnPath_3 : decode cL_addOnPath 3 = .ok (.aload_n 0, 1) := by decide +kernel
theorem dL_addOnPath_4 : decode cL_addOnPath 4 = .ok (.iload_n 1, 1) := by decide +kernel
theorem dL_addOnPath_5 : decode cL_addOnPath 5 = .ok (.iload_n 2, 1) := by decide +kernel
theorem dL_addOnPath_6 : decode cL_addOnPath 6 = .ok (.iload_n 3, 1) := by decide +kernel
theorem dL_addOnPath_7 : decode cL_addOnPath 7 = .ok (.invokevirtual 35, 3) := by decide +kernel
theorem dL_addOnPath_10 : decode cL_addOnPath 10 = .ok (.i2l, 1) := by decide +kernel
theorem dL_addOnPath_11 : decode cL_addOnPath 11 = .ok (.lastore, 1) := by decide +kernel
theorem dL_addOnPath_12 : decode cL_addOnPath 12 = .ok (.goto 15, 3) := by decide +kernel
theorem dL_addOnPath_15 : decode cL_addOnPath 15 = .ok (.astore 5, 2) := by decide +kernel
theorem dL_addOnPath_17 : decode cL_addOnPath 17 = .ok (.iconst 1, 1) := by decide +kernel
theorem dL_addOnPath_18 : decode cL_addOnPath 18 = .ok (.ireturn, 1) := by decide +kernel
theorem dL_addOnPath_19 : decode cL_addOnPath 19 = .ok (.astore 5, 2) := by decide +kernel
theorem dL_addOnPath_21 : decode cL_addOnPath 21 = .ok (.iconst 2, 1) := by decide +kernel
theorem dL_addOnPath_22 : decode cL_addOnPath 22 = .ok (.ireturn, 1) := by decide +kernel
theorem dL_addOnPath_23 : decode cL_addOnPath 23 = .ok (.astore 5, 2) := by decide +kernel
theorem dL_addOnPath_25 : decode cL_addOnPath 25 = .ok (.iconst 3, 1) := by decide +kernel
theorem dL_addOnPath_26 : decode cL_addOnPath 26 = .ok (.ireturn, 1) := by decide +kernel
theorem dL_addOnPath_27 : decode cL_addOnPath 27 = .ok (.iconst 0, 1) := by decide +kernel
theorem dL_addOnPath_28 : decode cL_addOnPath 28 = .ok (.ireturn, 1) := by decide +kernel
theorem dL_value_0 : decode cL_value 0 = .ok (.aload_n 2, 1) := by decide +kernel
theorem dL_value_1 : decode cL_value 1 = .ok (.iconst 0, 1) := by decide +kernel
theorem dL_value_2 : decode cL_value 2 = .ok (.aload_n 0, 1) := by decide +kernel
theorem dL_value_3 : decode cL_value 3 = .ok (.iload_n 1, 1) := by decide +kernel
theorem dL_value_4 : decode cL_value 4 = .ok (.invokevirtual 40, 3) := by decide +kernel
theorem dL_value_7 : decode cL_value 7 = .ok (.i2l, 1) := by decide +kernel
theorem dL_value_8 : decode cL_value 8 = .ok (.lastore, 1) := by decide +kernel
theorem dL_value_9 : decode cL_value 9 = .ok (.goto 6, 3) := by decide +kernel
theorem dL_value_12 : decode cL_value 12 = .ok (.astore_n 3, 1) := by decide +kernel
theorem dL_value_13 : decode cL_value 13 = .ok (.iconst 1, 1) := by decide +kernel
theorem dL_value_14 : decode cL_value 14 = .ok (.ireturn, 1) := by decide +kernel
theorem dL_value_15 : decode cL_value 15 = .ok (.iconst 0, 1) := by decide +kernel
theorem dL_value_16 : decode cL_value 16 = .ok (.ireturn, 1) := by decide +kernel
theorem dL_weight_0 : decode cL_weight 0 = .ok (.aload_n 2, 1) := by decide +kernel
theorem dL_weight_1 : decode cL_weight 1 = .ok (.iconst 0, 1) := by decide +kernel
theorem dL_weight_2 : decode cL_weight 2 = .ok (.aload_n 0, 1) := by decide +kernel
theorem dL_weight_3 : decode cL_weight 3 = .ok (.iload_n 1, 1) := by decide +kernel
theorem dL_weight_4 : decode cL_weight 4 = .ok (.invokevirtual 43, 3) := by decide +kernel
theorem dL_weight_7 : decode cL_weight 7 = .ok (.i2l, 1) := by decide +kernel
theorem dL_weight_8 : decode cL_weight 8 = .ok (.lastore, 1) := by decide +kernel
theorem dL_weight_9 : decode cL_weight 9 = .ok (.goto 6, 3) := by decide +kernel
theorem dL_weight_12 : decode cL_weight 12 = .ok (.astore_n 3, 1) := by decide +kernel
theorem dL_weight_13 : decode cL_weight 13 = .ok (.iconst 1, 1) := by decide +kernel
theorem dL_weight_14 : decode cL_weight 14 = .ok (.ireturn, 1) := by decide +kernel
theorem dL_weight_15 : decode cL_weight 15 = .ok (.iconst 0, 1) := by decide +kernel
theorem dL_weight_16 : decode cL_weight 16 = .ok (.ireturn, 1) := by decide +kernel
theorem dL_state_0 : decode cL_state 0 = .ok (.aload_n 2, 1) := by decide +kernel
theorem dL_state_1 : decode cL_state 1 = .ok (.iconst 0, 1) := by decide +kernel
theorem dL_state_2 : decode cL_state 2 = .ok (.aload_n 0, 1) := by decide +kernel
theorem dL_state_3 : decode cL_state 3 = .ok (.iload_n 1, 1) := by decide +kernel
theorem dL_state_4 : decode cL_state 4 = .ok (.invokevirtual 46, 3) := by decide +kernel
theorem dL_state_7 : decode cL_state 7 = .ok (.i2l, 1) := by decide +kernel
theorem dL_state_8 : decode cL_state 8 = .ok (.lastore, 1) := by decide +kernel
theorem dL_state_9 : decode cL_state 9 = .ok (.goto 6, 3) := by decide +kernel
theorem dL_state_12 : decode cL_state 12 = .ok (.astore_n 3, 1) := by decide +kernel
theorem dL_state_13 : decode cL_state 13 = .ok (.iconst 1, 1) := by decide +kernel
theorem dL_state_14 : decode cL_state 14 = .ok (.ireturn, 1) := by decide +kernel
theorem dL_state_15 : decode cL_state 15 = .ok (.iconst 0, 1) := by decide +kernel
theorem dL_state_16 : decode cL_state 16 = .ok (.ireturn, 1) := by decide +kernel
theorem dL_otherEnd_0 : decode cL_otherEnd 0 = .ok (.aload_n 3, 1) := by decide +kernel
theorem dL_otherEnd_1 : decode cL_otherEnd 1 = .ok (.iconst 0, 1) := by decide +kernel
theorem dL_otherEnd_2 : decode cL_otherEnd 2 = .ok (.aload_n 0, 1) := by decide +kernel
theorem dL_otherEnd_3 : decode cL_otherEnd 3 = .ok (.iload_n 1, 1) := by decide +kernel
theorem dL_otherEnd_4 : decode cL_otherEnd 4 = .ok (.iload_n 2, 1) := by decide +kernel
theorem dL_otherEnd_5 : decode cL_otherEnd 5 = .ok (.invokevirtual 50, 3) := by decide +kernel
theorem dL_otherEnd_8 : decode cL_otherEnd 8 = .ok (.i2l, 1) := by decide +kernel
theorem dL_otherEnd_9 : decode cL_otherEnd 9 = .ok (.lastore, 1) := by decide +kernel
theorem dL_otherEnd_10 : decode cL_otherEnd 10 = .ok (.goto 11, 3) := by decide +kernel
theorem dL_otherEnd_13 : decode cL_otherEnd 13 = .ok (.astore 4, 2) := by decide +kernel
theorem dL_otherEnd_15 : decode cL_otherEnd 15 = .ok (.iconst 1, 1) := by decide +kernel
theorem dL_otherEnd_16 : decode cL_otherEnd 16 = .ok (.ireturn, 1) := by decide +kernel
theorem dL_otherEnd_17 : decode cL_otherEnd 17 = .ok (.astore 4, 2) := by decide +kernel
theorem dL_otherEnd_19 : decode cL_otherEnd 19 = .ok (.iconst 2, 1) := by decide +kernel
theorem dL_otherEnd_20 : decode cL_otherEnd 20 = .ok (.ireturn, 1) := by decide +kernel
theorem dL_otherEnd_21 : decode cL_otherEnd 21 = .ok (.iconst 0, 1) := by decide +kernel
theorem dL_otherEnd_22 : decode cL_otherEnd 22 = .ok (.ireturn, 1) := by decide +kernel
theorem dL_parallel_0 : decode cL_parallel 0 = .ok (.aload_n 3, 1) := by decide +kernel
theorem dL_parallel_1 : decode cL_parallel 1 = .ok (.iconst 0, 1) := by decide +kernel
theorem dL_parallel_2 : decode cL_parallel 2 = .ok (.aload_n 0, 1) := by decide +kernel
theorem dL_parallel_3 : decode cL_parallel 3 = .ok (.iload_n 1, 1) := by decide +kernel
theorem dL_parallel_4 : decode cL_parallel 4 = .ok (.iload_n 2, 1) := by decide +kernel
theorem dL_parallel_5 : decode cL_parallel 5 = .ok (.invokevirtual 53, 3) := by decide +kernel
theorem dL_parallel_8 : decode cL_parallel 8 = .ok (.i2l, 1) := by decide +kernel
theorem dL_parallel_9 : decode cL_parallel 9 = .ok (.lastore, 1) := by decide +kernel
theorem dL_parallel_10 : decode cL_parallel 10 = .ok (.goto 7, 3) := by decide +kernel
theorem dL_parallel_13 : decode cL_parallel 13 = .ok (.astore 4, 2) := by decide +kernel
theorem dL_parallel_15 : decode cL_parallel 15 = .ok (.iconst 1, 1) := by decide +kernel
theorem dL_parallel_16 : decode cL_parallel 16 = .ok (.ireturn, 1) := by decide +kernel
theorem dL_parallel_17 : decode cL_parallel 17 = .ok (.iconst 0, 1) := by decide +kernel
theorem dL_parallel_18 : decode cL_parallel 18 = .ok (.ireturn, 1) := by decide +kernel
theorem dL_lightest_0 : decode cL_lightest 0 = .ok (.aload_n 3, 1) := by decide +kernel
theorem dL_lightest_1 : decode cL_lightest 1 = .ok (.iconst 0, 1) := by decide +kernel
theorem dL_lightest_2 : decode cL_lightest 2 = .ok (.aload_n 0, 1) := by decide +kernel
theorem dL_lightest_3 : decode cL_lightest 3 = .ok (.iload_n 1, 1) := by decide +kernel
theorem dL_lightest_4 : decode cL_lightest 4 = .ok (.iload_n 2, 1) := by decide +kernel
theorem dL_lightest_5 : decode cL_lightest 5 = .ok (.invokevirtual 56, 3) := by decide +kernel
theorem dL_lightest_8 : decode cL_lightest 8 = .ok (.i2l, 1) := by decide +kernel
theorem dL_lightest_9 : decode cL_lightest 9 = .ok (.lastore, 1) := by decide +kernel
theorem dL_lightest_10 : decode cL_lightest 10 = .ok (.goto 11, 3) := by decide +kernel
theorem dL_lightest_13 : decode cL_lightest 13 = .ok (.astore 4, 2) := by decide +kernel
theorem dL_lightest_15 : decode cL_lightest 15 = .ok (.iconst 1, 1) := by decide +kernel
theorem dL_lightest_16 : decode cL_lightest 16 = .ok (.ireturn, 1) := by decide +kernel
theorem dL_lightest_17 : decode cL_lightest 17 = .ok (.astore 4, 2) := by decide +kernel
theorem dL_lightest_19 : decode cL_lightest 19 = .ok (.iconst 2, 1) := by decide +kernel
theorem dL_lightest_20 : decode cL_lightest 20 = .ok (.ireturn, 1) := by decide +kernel
theorem dL_lightest_21 : decode cL_lightest 21 = .ok (.iconst 0, 1) := by decide +kernel
theorem dL_lightest_22 : decode cL_lightest 22 = .ok (.ireturn, 1) := by decide +kernel
theorem dL_degree_0 : decode cL_degree 0 = .ok (.aload_n 2, 1) := by decide +kernel
theorem dL_degree_1 : decode cL_degree 1 = .ok (.iconst 0, 1) := by decide +kernel
theorem dL_degree_2 : decode cL_degree 2 = .ok (.aload_n 0, 1) := by decide +kernel
theorem dL_degree_3 : decode cL_degree 3 = .ok (.iload_n 1, 1) := by decide +kernel
theorem dL_degree_4 : decode cL_degree 4 = .ok (.invokevirtual 59, 3) := by decide +kernel
theorem dL_degree_7 : decode cL_degree 7 = .ok (.i2l, 1) := by decide +kernel
theorem dL_degree_8 : decode cL_degree 8 = .ok (.lastore, 1) := by decide +kernel
theorem dL_degree_9 : decode cL_degree 9 = .ok (.goto 6, 3) := by decide +kernel
theorem dL_degree_12 : decode cL_degree 12 = .ok (.astore_n 3, 1) := by decide +kernel
theorem dL_degree_13 : decode cL_degree 13 = .ok (.iconst 1, 1) := by decide +kernel
theorem dL_degree_14 : decode cL_degree 14 = .ok (.ireturn, 1) := by decide +kernel
theorem dL_degree_15 : decode cL_degree 15 = .ok (.iconst 0, 1) := by decide +kernel
theorem dL_degree_16 : decode cL_degree 16 = .ok (.ireturn, 1) := by decide +kernel
theorem dL_neighbour_0 : decode cL_neighbour 0 = .ok (.aload_n 3, 1) := by decide +kernel
theorem dL_neighbour_1 : decode cL_neighbour 1 = .ok (.iconst 0, 1) := by decide +kernel
theorem dL_neighbour_2 : decode cL_neighbour 2 = .ok (.aload_n 0, 1) := by decide +kernel
theorem dL_neighbour_3 : decode cL_neighbour 3 = .ok (.iload_n 1, 1) := by decide +kernel
theorem dL_neighbour_4 : decode cL_neighbour 4 = .ok (.iload_n 2, 1) := by decide +kernel
theorem dL_neighbour_5 : decode cL_neighbour 5 = .ok (.invokevirtual 62, 3) := by decide +kernel
theorem dL_neighbour_8 : decode cL_neighbour 8 = .ok (.i2l, 1) := by decide +kernel
theorem dL_neighbour_9 : decode cL_neighbour 9 = .ok (.lastore, 1) := by decide +kernel
theorem dL_neighbour_10 : decode cL_neighbour 10 = .ok (.goto 11, 3) := by decide +kernel
theorem dL_neighbour_13 : decode cL_neighbour 13 = .ok (.astore 4, 2) := by decide +kernel
theorem dL_neighbour_15 : decode cL_neighbour 15 = .ok (.iconst 1, 1) := by decide +kernel
theorem dL_neighbour_16 : decode cL_neighbour 16 = .ok (.ireturn, 1) := by decide +kernel
theorem dL_neighbour_17 : decode cL_neighbour 17 = .ok (.astore 4, 2) := by decide +kernel
theorem dL_neighbour_19 : decode cL_neighbour 19 = .ok (.iconst 2, 1) := by decide +kernel
theorem dL_neighbour_20 : decode cL_neighbour 20 = .ok (.ireturn, 1) := by decide +kernel
theorem dL_neighbour_21 : decode cL_neighbour 21 = .ok (.iconst 0, 1) := by decide +kernel
theorem dL_neighbour_22 : decode cL_neighbour 22 = .ok (.ireturn, 1) := by decide +kernel
theorem dL_isConnected_0 : decode cL_isConnected 0 = .ok (.aload_n 3, 1) := by decide +kernel
theorem dL_isConnected_1 : decode cL_isConnected 1 = .ok (.iconst 0, 1) := by decide +kernel
theorem dL_isConnected_2 : decode cL_isConnected 2 = .ok (.aload_n 0, 1) := by decide +kernel
theorem dL_isConnected_3 : decode cL_isConnected 3 = .ok (.iload_n 1, 1) := by decide +kernel
theorem dL_isConnected_4 : decode cL_isConnected 4 = .ok (.iload_n 2, 1) := by decide +kernel
theorem dL_isConnected_5 : decode cL_isConnected 5 = .ok (.invokevirtual 65, 3) := by decide +kernel
theorem dL_isConnected_8 : decode cL_isConnected 8 = .ok (.ifCond .eq 7, 3) := by decide +kernel
theorem dL_isConnected_11 : decode cL_isConnected 11 = .ok (.lconst 1, 1) := by decide +kernel
theorem dL_isConnected_12 : decode cL_isConnected 12 = .ok (.goto 4, 3) := by decide +kernel
theorem dL_isConnected_15 : decode cL_isConnected 15 = .ok (.lconst 0, 1) := by decide +kernel
theorem dL_isConnected_16 : decode cL_isConnected 16 = .ok (.lastore, 1) := by decide +kernel
theorem dL_isConnected_17 : decode cL_isConnected 17 = .ok (.goto 7, 3) := by decide +kernel
theorem dL_isConnected_20 : decode cL_isConnected 20 = .ok (.astore 4, 2) := by decide +kernel
theorem dL_isConnected_22 : decode cL_isConnected 22 = .ok (.iconst 1, 1) := by decide +kernel
theorem dL_isConnected_23 : decode cL_isConnected 23 = .ok (.ireturn, 1) := by decide +kernel
theorem dL_isConnected_24 : decode cL_isConnected 24 = .ok (.iconst 0, 1) := by decide +kernel
theorem dL_isConnected_25 : decode cL_isConnected 25 = .ok (.ireturn, 1) := by decide +kernel
theorem dL_isConnectedByWalk_0 : decode cL_isConnectedByWalk 0 = .ok (.aload_n 3, 1) := by decide +kernel
theorem dL_isConnectedByWalk_1 : decode cL_isConnectedByWalk 1 = .ok (.iconst 0, 1) := by decide +kernel
theorem dL_isConnectedByWalk_2 : decode cL_isConnectedByWalk 2 = .ok (.aload_n 0, 1) := by decide +kernel
theorem dL_isConnectedByWalk_3 : decode cL_isConnectedByWalk 3 = .ok (.iload_n 1, 1) := by decide +kernel
theorem dL_isConnectedByWalk_4 : decode cL_isConnectedByWalk 4 = .ok (.iload_n 2, 1) := by decide +kernel
theorem dL_isConnectedByWalk_5 : decode cL_isConnectedByWalk 5 = .ok (.invokevirtual 69, 3) := by decide +kernel
theorem dL_isConnectedByWalk_8 : decode cL_isConnectedByWalk 8 = .ok (.ifCond .eq 7, 3) := by decide +kernel
theorem dL_isConnectedByWalk_11 : decode cL_isConnectedByWalk 11 = .ok (.lconst 1, 1) := by decide +kernel
theorem dL_isConnectedByWalk_12 : decode cL_isConnectedByWalk 12 = .ok (.goto 4, 3) := by decide +kernel
theorem dL_isConnectedByWalk_15 : decode cL_isConnectedByWalk 15 = .ok (.lconst 0, 1) := by decide +kernel
theorem dL_isConnectedByWalk_16 : decode cL_isConnectedByWalk 16 = .ok (.lastore, 1) := by decide +kernel
theorem dL_isConnectedByWalk_17 : decode cL_isConnectedByWalk 17 = .ok (.goto 7, 3) := by decide +kernel
theorem dL_isConnectedByWalk_20 : decode cL_isConnectedByWalk 20 = .ok (.astore 4, 2) := by decide +kernel
theorem dL_isConnectedByWalk_22 : decode cL_isConnectedByWalk 22 = .ok (.iconst 1, 1) := by decide +kernel
theorem dL_isConnectedByWalk_23 : decode cL_isConnectedByWalk 23 = .ok (.ireturn, 1) := by decide +kernel
theorem dL_isConnectedByWalk_24 : decode cL_isConnectedByWalk 24 = .ok (.iconst 0, 1) := by decide +kernel
theorem dL_isConnectedByWalk_25 : decode cL_isConnectedByWalk 25 = .ok (.ireturn, 1) := by decide +kernel
theorem dL_replacement_0 : decode cL_replacement 0 = .ok (.aload_n 2, 1) := by decide +kernel
theorem dL_replacement_1 : decode cL_replacement 1 = .ok (.iconst 0, 1) := by decide +kernel
theorem dL_replacement_2 : decode cL_replacement 2 = .ok (.aload_n 0, 1) := by decide +kernel
theorem dL_replacement_3 : decode cL_replacement 3 = .ok (.iload_n 1, 1) := by decide +kernel
theorem dL_replacement_4 : decode cL_replacement 4 = .ok (.invokevirtual 72, 3) := by decide +kernel
theorem dL_replacement_7 : decode cL_replacement 7 = .ok (.i2l, 1) := by decide +kernel
theorem dL_replacement_8 : decode cL_replacement 8 = .ok (.lastore, 1) := by decide +kernel
theorem dL_replacement_9 : decode cL_replacement 9 = .ok (.goto 12, 3) := by decide +kernel
theorem dL_replacement_12 : decode cL_replacement 12 = .ok (.astore_n 3, 1) := by decide +kernel
theorem dL_replacement_13 : decode cL_replacement 13 = .ok (.iconst 1, 1) := by decide +kernel
theorem dL_replacement_14 : decode cL_replacement 14 = .ok (.ireturn, 1) := by decide +kernel
theorem dL_replacement_15 : decode cL_replacement 15 = .ok (.astore_n 3, 1) := by decide +kernel
theorem dL_replacement_16 : decode cL_replacement 16 = .ok (.iconst 2, 1) := by decide +kernel
theorem dL_replacement_17 : decode cL_replacement 17 = .ok (.ireturn, 1) := by decide +kernel
theorem dL_replacement_18 : decode cL_replacement 18 = .ok (.astore_n 3, 1) := by decide +kernel
theorem dL_replacement_19 : decode cL_replacement 19 = .ok (.iconst 3, 1) := by decide +kernel
theorem dL_replacement_20 : decode cL_replacement 20 = .ok (.ireturn, 1) := by decide +kernel
theorem dL_replacement_21 : decode cL_replacement 21 = .ok (.iconst 0, 1) := by decide +kernel
theorem dL_replacement_22 : decode cL_replacement 22 = .ok (.ireturn, 1) := by decide +kernel
theorem dL_replacementAnew_0 : decode cL_replacementAnew 0 = .ok (.aload_n 2, 1) := by decide +kernel
theorem dL_replacementAnew_1 : decode cL_replacementAnew 1 = .ok (.iconst 0, 1) := by decide +kernel
theorem dL_replacementAnew_2 : decode cL_replacementAnew 2 = .ok (.aload_n 0, 1) := by decide +kernel
theorem dL_replacementAnew_3 : decode cL_replacementAnew 3 = .ok (.iload_n 1, 1) := by decide +kernel
theorem dL_replacementAnew_4 : decode cL_replacementAnew 4 = .ok (.invokevirtual 75, 3) := by decide +kernel
theorem dL_replacementAnew_7 : decode cL_replacementAnew 7 = .ok (.i2l, 1) := by decide +kernel
theorem dL_replacementAnew_8 : decode cL_replacementAnew 8 = .ok (.lastore, 1) := by decide +kernel
theorem dL_replacementAnew_9 : decode cL_replacementAnew 9 = .ok (.goto 12, 3) := by decide +kernel
theorem dL_replacementAnew_12 : decode cL_replacementAnew 12 = .ok (.astore_n 3, 1) := by decide +kernel
theorem dL_replacementAnew_13 : decode cL_replacementAnew 13 = .ok (.iconst 1, 1) := by decide +kernel
theorem dL_replacementAnew_14 : decode cL_replacementAnew 14 = .ok (.ireturn, 1) := by decide +kernel
theorem dL_replacementAnew_15 : decode cL_replacementAnew 15 = .ok (.astore_n 3, 1) := by decide +kernel
theorem dL_replacementAnew_16 : decode cL_replacementAnew 16 = .ok (.iconst 2, 1) := by decide +kernel
theorem dL_replacementAnew_17 : decode cL_replacementAnew 17 = .ok (.ireturn, 1) := by decide +kernel
theorem dL_replacementAnew_18 : decode cL_replacementAnew 18 = .ok (.astore_n 3, 1) := by decide +kernel
theorem dL_replacementAnew_19 : decode cL_replacementAnew 19 = .ok (.iconst 3, 1) := by decide +kernel
theorem dL_replacementAnew_20 : decode cL_replacementAnew 20 = .ok (.ireturn, 1) := by decide +kernel
theorem dL_replacementAnew_21 : decode cL_replacementAnew 21 = .ok (.iconst 0, 1) := by decide +kernel
theorem dL_replacementAnew_22 : decode cL_replacementAnew 22 = .ok (.ireturn, 1) := by decide +kernel
theorem dL_pathVertices_0 : decode cL_pathVertices 0 = .ok (.aload_n 3, 1) := by decide +kernel
theorem dL_pathVertices_1 : decode cL_pathVertices 1 = .ok (.iconst 0, 1) := by decide +kernel
theorem dL_pathVertices_2 : decode cL_pathVertices 2 = .ok (.aload_n 0, 1) := by decide +kernel
theorem dL_pathVertices_3 : decode cL_pathVertices 3 = .ok (.iload_n 1, 1) := by decide +kernel
theorem dL_pathVertices_4 : decode cL_pathVertices 4 = .ok (.iload_n 2, 1) := by decide +kernel
theorem dL_pathVertices_5 : decode cL_pathVertices 5 = .ok (.invokevirtual 78, 3) := by decide +kernel
theorem dL_pathVertices_8 : decode cL_pathVertices 8 = .ok (.i2l, 1) := by decide +kernel
theorem dL_pathVertices_9 : decode cL_pathVertices 9 = .ok (.lastore, 1) := by decide +kernel
theorem dL_pathVertices_10 : decode cL_pathVertices 10 = .ok (.goto 11, 3) := by decide +kernel
theorem dL_pathVertices_13 : decode cL_pathVertices 13 = .ok (.astore 4, 2) := by decide +kernel
theorem dL_pathVertices_15 : decode cL_pathVertices 15 = .ok (.iconst 1, 1) := by decide +kernel
theorem dL_pathVertices_16 : decode cL_pathVertices 16 = .ok (.ireturn, 1) := by decide +kernel
theorem dL_pathVertices_17 : decode cL_pathVertices 17 = .ok (.astore 4, 2) := by decide +kernel
theorem dL_pathVertices_19 : decode cL_pathVertices 19 = .ok (.iconst 2, 1) := by decide +kernel
theorem dL_pathVertices_20 : decode cL_pathVertices 20 = .ok (.ireturn, 1) := by decide +kernel
theorem dL_pathVertices_21 : decode cL_pathVertices 21 = .ok (.iconst 0, 1) := by decide +kernel
theorem dL_pathVertices_22 : decode cL_pathVertices 22 = .ok (.ireturn, 1) := by decide +kernel
theorem dL_pathVertex_0 : decode cL_pathVertex 0 = .ok (.aload 4, 2) := by decide +kernel
theorem dL_pathVertex_2 : decode cL_pathVertex 2 = .ok (.iconst 0, 1) := by decide +kernel
theorem dL_pathVertex_3 : decode cL_pathVertex 3 = .ok (.aload_n 0, 1) := by decide +kernel
theorem dL_pathVertex_4 : decode cL_pathVertex 4 = .ok (.iload_n 1, 1) := by decide +kernel
theorem dL_pathVertex_5 : decode cL_pathVertex 5 = .ok (.iload_n 2, 1) := by decide +kernel
theorem dL_pathVertex_6 : decode cL_pathVertex 6 = .ok (.iload_n 3, 1) := by decide +kernel
theorem dL_pathVertex_7 : decode cL_pathVertex 7 = .ok (.invokevirtual 81, 3) := by decide +kernel
theorem dL_pathVertex_10 : decode cL_pathVertex 10 = .ok (.i2l, 1) := by decide +kernel
theorem dL_pathVertex_11 : decode cL_pathVertex 11 = .ok (.lastore, 1) := by decide +kernel
theorem dL_pathVertex_12 : decode cL_pathVertex 12 = .ok (.goto 15, 3) := by decide +kernel
theorem dL_pathVertex_15 : decode cL_pathVertex 15 = .ok (.astore 5, 2) := by decide +kernel
theorem dL_pathVertex_17 : decode cL_pathVertex 17 = .ok (.iconst 1, 1) := by decide +kernel
theorem dL_pathVertex_18 : decode cL_pathVertex 18 = .ok (.ireturn, 1) := by decide +kernel
theorem dL_pathVertex_19 : decode cL_pathVertex 19 = .ok (.astore 5, 2) := by decide +kernel
theorem dL_pathVertex_21 : decode cL_pathVertex 21 = .ok (.iconst 2, 1) := by decide +kernel
theorem dL_pathVertex_22 : decode cL_pathVertex 22 = .ok (.ireturn, 1) := by decide +kernel
theorem dL_pathVertex_23 : decode cL_pathVertex 23 = .ok (.astore 5, 2) := by decide +kernel
theorem dL_pathVertex_25 : decode cL_pathVertex 25 = .ok (.iconst 3, 1) := by decide +kernel
theorem dL_pathVertex_26 : decode cL_pathVertex 26 = .ok (.ireturn, 1) := by decide +kernel
theorem dL_pathVertex_27 : decode cL_pathVertex 27 = .ok (.iconst 0, 1) := by decide +kernel
theorem dL_pathVertex_28 : decode cL_pathVertex 28 = .ok (.ireturn, 1) := by decide +kernel
theorem dL_pathSum_0 : decode cL_pathSum 0 = .ok (.aload_n 3, 1) := by decide +kernel
theorem dL_pathSum_1 : decode cL_pathSum 1 = .ok (.iconst 0, 1) := by decide +kernel
theorem dL_pathSum_2 : decode cL_pathSum 2 = .ok (.aload_n 0, 1) := by decide +kernel
theorem dL_pathSum_3 : decode cL_pathSum 3 = .ok (.iload_n 1, 1) := by decide +kernel
theorem dL_pathSum_4 : decode cL_pathSum 4 = .ok (.iload_n 2, 1) := by decide +kernel
theorem dL_pathSum_5 : decode cL_pathSum 5 = .ok (.invokevirtual 84, 3) := by decide +kernel
theorem dL_pathSum_8 : decode cL_pathSum 8 = .ok (.i2l, 1) := by decide +kernel
theorem dL_pathSum_9 : decode cL_pathSum 9 = .ok (.lastore, 1) := by decide +kernel
theorem dL_pathSum_10 : decode cL_pathSum 10 = .ok (.goto 11, 3) := by decide +kernel
theorem dL_pathSum_13 : decode cL_pathSum 13 = .ok (.astore 4, 2) := by decide +kernel
theorem dL_pathSum_15 : decode cL_pathSum 15 = .ok (.iconst 1, 1) := by decide +kernel
theorem dL_pathSum_16 : decode cL_pathSum 16 = .ok (.ireturn, 1) := by decide +kernel
theorem dL_pathSum_17 : decode cL_pathSum 17 = .ok (.astore 4, 2) := by decide +kernel
theorem dL_pathSum_19 : decode cL_pathSum 19 = .ok (.iconst 2, 1) := by decide +kernel
theorem dL_pathSum_20 : decode cL_pathSum 20 = .ok (.ireturn, 1) := by decide +kernel
theorem dL_pathSum_21 : decode cL_pathSum 21 = .ok (.iconst 0, 1) := by decide +kernel
theorem dL_pathSum_22 : decode cL_pathSum 22 = .ok (.ireturn, 1) := by decide +kernel
theorem dL_pathSumByHeavyPaths_0 : decode cL_pathSumByHeavyPaths 0 = .ok (.aload_n 3, 1) := by decide +kernel
theorem dL_pathSumByHeavyPaths_1 : decode cL_pathSumByHeavyPaths 1 = .ok (.iconst 0, 1) := by decide +kernel
theorem dL_pathSumByHeavyPaths_2 : decode cL_pathSumByHeavyPaths 2 = .ok (.aload_n 0, 1) := by decide +kernel
theorem dL_pathSumByHeavyPaths_3 : decode cL_pathSumByHeavyPaths 3 = .ok (.iload_n 1, 1) := by decide +kernel
theorem dL_pathSumByHeavyPaths_4 : decode cL_pathSumByHeavyPaths 4 = .ok (.iload_n 2, 1) := by decide +kernel
theorem dL_pathSumByHeavyPaths_5 : decode cL_pathSumByHeavyPaths 5 = .ok (.invokevirtual 87, 3) := by decide +kernel
theorem dL_pathSumByHeavyPaths_8 : decode cL_pathSumByHeavyPaths 8 = .ok (.i2l, 1) := by decide +kernel
theorem dL_pathSumByHeavyPaths_9 : decode cL_pathSumByHeavyPaths 9 = .ok (.lastore, 1) := by decide +kernel
theorem dL_pathSumByHeavyPaths_10 : decode cL_pathSumByHeavyPaths 10 = .ok (.goto 11, 3) := by decide +kernel
theorem dL_pathSumByHeavyPaths_13 : decode cL_pathSumByHeavyPaths 13 = .ok (.astore 4, 2) := by decide +kernel
theorem dL_pathSumByHeavyPaths_15 : decode cL_pathSumByHeavyPaths 15 = .ok (.iconst 1, 1) := by decide +kernel
theorem dL_pathSumByHeavyPaths_16 : decode cL_pathSumByHeavyPaths 16 = .ok (.ireturn, 1) := by decide +kernel
theorem dL_pathSumByHeavyPaths_17 : decode cL_pathSumByHeavyPaths 17 = .ok (.astore 4, 2) := by decide +kernel
theorem dL_pathSumByHeavyPaths_19 : decode cL_pathSumByHeavyPaths 19 = .ok (.iconst 2, 1) := by decide +kernel
theorem dL_pathSumByHeavyPaths_20 : decode cL_pathSumByHeavyPaths 20 = .ok (.ireturn, 1) := by decide +kernel
theorem dL_pathSumByHeavyPaths_21 : decode cL_pathSumByHeavyPaths 21 = .ok (.iconst 0, 1) := by decide +kernel
theorem dL_pathSumByHeavyPaths_22 : decode cL_pathSumByHeavyPaths 22 = .ok (.ireturn, 1) := by decide +kernel
theorem dL_pathSumByWalk_0 : decode cL_pathSumByWalk 0 = .ok (.aload_n 3, 1) := by decide +kernel
theorem dL_pathSumByWalk_1 : decode cL_pathSumByWalk 1 = .ok (.iconst 0, 1) := by decide +kernel
theorem dL_pathSumByWalk_2 : decode cL_pathSumByWalk 2 = .ok (.aload_n 0, 1) := by decide +kernel
theorem dL_pathSumByWalk_3 : decode cL_pathSumByWalk 3 = .ok (.iload_n 1, 1) := by decide +kernel
theorem dL_pathSumByWalk_4 : decode cL_pathSumByWalk 4 = .ok (.iload_n 2, 1) := by decide +kernel
theorem dL_pathSumByWalk_5 : decode cL_pathSumByWalk 5 = .ok (.invokevirtual 90, 3) := by decide +kernel
theorem dL_pathSumByWalk_8 : decode cL_pathSumByWalk 8 = .ok (.i2l, 1) := by decide +kernel
theorem dL_pathSumByWalk_9 : decode cL_pathSumByWalk 9 = .ok (.lastore, 1) := by decide +kernel
theorem dL_pathSumByWalk_10 : decode cL_pathSumByWalk 10 = .ok (.goto 11, 3) := by decide +kernel
theorem dL_pathSumByWalk_13 : decode cL_pathSumByWalk 13 = .ok (.astore 4, 2) := by decide +kernel
theorem dL_pathSumByWalk_15 : decode cL_pathSumByWalk 15 = .ok (.iconst 1, 1) := by decide +kernel
theorem dL_pathSumByWalk_16 : decode cL_pathSumByWalk 16 = .ok (.ireturn, 1) := by decide +kernel
theorem dL_pathSumByWalk_17 : decode cL_pathSumByWalk 17 = .ok (.astore 4, 2) := by decide +kernel
theorem dL_pathSumByWalk_19 : decode cL_pathSumByWalk 19 = .ok (.iconst 2, 1) := by decide +kernel
theorem dL_pathSumByWalk_20 : decode cL_pathSumByWalk 20 = .ok (.ireturn, 1) := by decide +kernel
theorem dL_pathSumByWalk_21 : decode cL_pathSumByWalk 21 = .ok (.iconst 0, 1) := by decide +kernel
theorem dL_pathSumByWalk_22 : decode cL_pathSumByWalk 22 = .ok (.ireturn, 1) := by decide +kernel
theorem dL_last_0 : decode cL_last 0 = .ok (.aload_n 3, 1) := by decide +kernel
theorem dL_last_1 : decode cL_last 1 = .ok (.iconst 0, 1) := by decide +kernel
theorem dL_last_2 : decode cL_last 2 = .ok (.aload_n 0, 1) := by decide +kernel
theorem dL_last_3 : decode cL_last 3 = .ok (.iload_n 1, 1) := by decide +kernel
theorem dL_last_4 : decode cL_last 4 = .ok (.iload_n 2, 1) := by decide +kernel
theorem dL_last_5 : decode cL_last 5 = .ok (.invokevirtual 93, 3) := by decide +kernel
theorem dL_last_8 : decode cL_last 8 = .ok (.i2l, 1) := by decide +kernel
theorem dL_last_9 : decode cL_last 9 = .ok (.lastore, 1) := by decide +kernel
theorem dL_last_10 : decode cL_last 10 = .ok (.goto 15, 3) := by decide +kernel
theorem dL_last_13 : decode cL_last 13 = .ok (.astore 4, 2) := by decide +kernel
theorem dL_last_15 : decode cL_last 15 = .ok (.iconst 1, 1) := by decide +kernel
theorem dL_last_16 : decode cL_last 16 = .ok (.ireturn, 1) := by decide +kernel
theorem dL_last_17 : decode cL_last 17 = .ok (.astore 4, 2) := by decide +kernel
theorem dL_last_19 : decode cL_last 19 = .ok (.iconst 2, 1) := by decide +kernel
theorem dL_last_20 : decode cL_last 20 = .ok (.ireturn, 1) := by decide +kernel
theorem dL_last_21 : decode cL_last 21 = .ok (.astore 4, 2) := by decide +kernel
theorem dL_last_23 : decode cL_last 23 = .ok (.iconst 3, 1) := by decide +kernel
theorem dL_last_24 : decode cL_last 24 = .ok (.ireturn, 1) := by decide +kernel
theorem dL_last_25 : decode cL_last 25 = .ok (.iconst 0, 1) := by decide +kernel
theorem dL_last_26 : decode cL_last 26 = .ok (.ireturn, 1) := by decide +kernel
theorem dL_lastByWalk_0 : decode cL_lastByWalk 0 = .ok (.aload_n 3, 1) := by decide +kernel
theorem dL_lastByWalk_1 : decode cL_lastByWalk 1 = .ok (.iconst 0, 1) := by decide +kernel
theorem dL_lastByWalk_2 : decode cL_lastByWalk 2 = .ok (.aload_n 0, 1) := by decide +kernel
theorem dL_lastByWalk_3 : decode cL_lastByWalk 3 = .ok (.iload_n 1, 1) := by decide +kernel
theorem dL_lastByWalk_4 : decode cL_lastByWalk 4 = .ok (.iload_n 2, 1) := by decide +kernel
theorem dL_lastByWalk_5 : decode cL_lastByWalk 5 = .ok (.invokevirtual 96, 3) := by decide +kernel
theorem dL_lastByWalk_8 : decode cL_lastByWalk 8 = .ok (.i2l, 1) := by decide +kernel
theorem dL_lastByWalk_9 : decode cL_lastByWalk 9 = .ok (.lastore, 1) := by decide +kernel
theorem dL_lastByWalk_10 : decode cL_lastByWalk 10 = .ok (.goto 15, 3) := by decide +kernel
theorem dL_lastByWalk_13 : decode cL_lastByWalk 13 = .ok (.astore 4, 2) := by decide +kernel
theorem dL_lastByWalk_15 : decode cL_lastByWalk 15 = .ok (.iconst 1, 1) := by decide +kernel
theorem dL_lastByWalk_16 : decode cL_lastByWalk 16 = .ok (.ireturn, 1) := by decide +kernel
theorem dL_lastByWalk_17 : decode cL_lastByWalk 17 = .ok (.astore 4, 2) := by decide +kernel
theorem dL_lastByWalk_19 : decode cL_lastByWalk 19 = .ok (.iconst 2, 1) := by decide +kernel
theorem dL_lastByWalk_20 : decode cL_lastByWalk 20 = .ok (.ireturn, 1) := by decide +kernel
theorem dL_lastByWalk_21 : decode cL_lastByWalk 21 = .ok (.astore 4, 2) := by decide +kernel
theorem dL_lastByWalk_23 : decode cL_lastByWalk 23 = .ok (.iconst 3, 1) := by decide +kernel
theorem dL_lastByWalk_24 : decode cL_lastByWalk 24 = .ok (.ireturn, 1) := by decide +kernel
theorem dL_lastByWalk_25 : decode cL_lastByWalk 25 = .ok (.iconst 0, 1) := by decide +kernel
theorem dL_lastByWalk_26 : decode cL_lastByWalk 26 = .ok (.ireturn, 1) := by decide +kernel
theorem dL_mean_0 : decode cL_mean 0 = .ok (.aload_n 3, 1) := by decide +kernel
theorem dL_mean_1 : decode cL_mean 1 = .ok (.iconst 0, 1) := by decide +kernel
theorem dL_mean_2 : decode cL_mean 2 = .ok (.aload_n 0, 1) := by decide +kernel
theorem dL_mean_3 : decode cL_mean 3 = .ok (.iload_n 1, 1) := by decide +kernel
theorem dL_mean_4 : decode cL_mean 4 = .ok (.iload_n 2, 1) := by decide +kernel
theorem dL_mean_5 : decode cL_mean 5 = .ok (.invokevirtual 99, 3) := by decide +kernel
theorem dL_mean_8 : decode cL_mean 8 = .ok (.f2d, 1) := by decide +kernel
theorem dL_mean_9 : decode cL_mean 9 = .ok (.dastore, 1) := by decide +kernel
theorem dL_mean_10 : decode cL_mean 10 = .ok (.goto 11, 3) := by decide +kernel
theorem dL_mean_13 : decode cL_mean 13 = .ok (.astore 4, 2) := by decide +kernel
theorem dL_mean_15 : decode cL_mean 15 = .ok (.iconst 1, 1) := by decide +kernel
theorem dL_mean_16 : decode cL_mean 16 = .ok (.ireturn, 1) := by decide +kernel
theorem dL_mean_17 : decode cL_mean 17 = .ok (.astore 4, 2) := by decide +kernel
theorem dL_mean_19 : decode cL_mean 19 = .ok (.iconst 2, 1) := by decide +kernel
theorem dL_mean_20 : decode cL_mean 20 = .ok (.ireturn, 1) := by decide +kernel
theorem dL_mean_21 : decode cL_mean 21 = .ok (.iconst 0, 1) := by decide +kernel
theorem dL_mean_22 : decode cL_mean 22 = .ok (.ireturn, 1) := by decide +kernel
theorem dL_parent_0 : decode cL_parent 0 = .ok (.aload_n 3, 1) := by decide +kernel
theorem dL_parent_1 : decode cL_parent 1 = .ok (.iconst 0, 1) := by decide +kernel
theorem dL_parent_2 : decode cL_parent 2 = .ok (.aload_n 0, 1) := by decide +kernel
theorem dL_parent_3 : decode cL_parent 3 = .ok (.iload_n 1, 1) := by decide +kernel
theorem dL_parent_4 : decode cL_parent 4 = .ok (.iload_n 2, 1) := by decide +kernel
theorem dL_parent_5 : decode cL_parent 5 = .ok (.invokevirtual 103, 3) := by decide +kernel
theorem dL_parent_8 : decode cL_parent 8 = .ok (.i2l, 1) := by decide +kernel
theorem dL_parent_9 : decode cL_parent 9 = .ok (.lastore, 1) := by decide +kernel
theorem dL_parent_10 : decode cL_parent 10 = .ok (.goto 15, 3) := by decide +kernel
theorem dL_parent_13 : decode cL_parent 13 = .ok (.astore 4, 2) := by decide +kernel
theorem dL_parent_15 : decode cL_parent 15 = .ok (.iconst 1, 1) := by decide +kernel
theorem dL_parent_16 : decode cL_parent 16 = .ok (.ireturn, 1) := by decide +kernel
theorem dL_parent_17 : decode cL_parent 17 = .ok (.astore 4, 2) := by decide +kernel
theorem dL_parent_19 : decode cL_parent 19 = .ok (.iconst 2, 1) := by decide +kernel
theorem dL_parent_20 : decode cL_parent 20 = .ok (.ireturn, 1) := by decide +kernel
theorem dL_parent_21 : decode cL_parent 21 = .ok (.astore 4, 2) := by decide +kernel
theorem dL_parent_23 : decode cL_parent 23 = .ok (.iconst 3, 1) := by decide +kernel
theorem dL_parent_24 : decode cL_parent 24 = .ok (.ireturn, 1) := by decide +kernel
theorem dL_parent_25 : decode cL_parent 25 = .ok (.iconst 0, 1) := by decide +kernel
theorem dL_parent_26 : decode cL_parent 26 = .ok (.ireturn, 1) := by decide +kernel
theorem dL_depth_0 : decode cL_depth 0 = .ok (.aload_n 3, 1) := by decide +kernel
theorem dL_depth_1 : decode cL_depth 1 = .ok (.iconst 0, 1) := by decide +kernel
theorem dL_depth_2 : decode cL_depth 2 = .ok (.aload_n 0, 1) := by decide +kernel
theorem dL_depth_3 : decode cL_depth 3 = .ok (.iload_n 1, 1) := by decide +kernel
theorem dL_depth_4 : decode cL_depth 4 = .ok (.iload_n 2, 1) := by decide +kernel
theorem dL_depth_5 : decode cL_depth 5 = .ok (.invokevirtual 106, 3) := by decide +kernel
theorem dL_depth_8 : decode cL_depth 8 = .ok (.i2l, 1) := by decide +kernel
theorem dL_depth_9 : decode cL_depth 9 = .ok (.lastore, 1) := by decide +kernel
theorem dL_depth_10 : decode cL_depth 10 = .ok (.goto 11, 3) := by decide +kernel
theorem dL_depth_13 : decode cL_depth 13 = .ok (.astore 4, 2) := by decide +kernel
theorem dL_depth_15 : decode cL_depth 15 = .ok (.iconst 1, 1) := by decide +kernel
theorem dL_depth_16 : decode cL_depth 16 = .ok (.ireturn, 1) := by decide +kernel
theorem dL_depth_17 : decode cL_depth 17 = .ok (.astore 4, 2) := by decide +kernel
theorem dL_depth_19 : decode cL_depth 19 = .ok (.iconst 2, 1) := by decide +kernel
theorem dL_depth_20 : decode cL_depth 20 = .ok (.ireturn, 1) := by decide +kernel
theorem dL_depth_21 : decode cL_depth 21 = .ok (.iconst 0, 1) := by decide +kernel
theorem dL_depth_22 : decode cL_depth 22 = .ok (.ireturn, 1) := by decide +kernel
theorem dL_ancestor_0 : decode cL_ancestor 0 = .ok (.aload 4, 2) := by decide +kernel
theorem dL_ancestor_2 : decode cL_ancestor 2 = .ok (.iconst 0, 1) := by decide +kernel
theorem dL_ancestor_3 : decode cL_ancestor 3 = .ok (.aload_n 0, 1) := by decide +kernel
theorem dL_ancestor_4 : decode cL_ancestor 4 = .ok (.iload_n 1, 1) := by decide +kernel
theorem dL_ancestor_5 : decode cL_ancestor 5 = .ok (.iload_n 2, 1) := by decide +kernel
theorem dL_ancestor_6 : decode cL_ancestor 6 = .ok (.iload_n 3, 1) := by decide +kernel
theorem dL_ancestor_7 : decode cL_ancestor 7 = .ok (.invokevirtual 109, 3) := by decide +kernel
theorem dL_ancestor_10 : decode cL_ancestor 10 = .ok (.i2l, 1) := by decide +kernel
theorem dL_ancestor_11 : decode cL_ancestor 11 = .ok (.lastore, 1) := by decide +kernel
theorem dL_ancestor_12 : decode cL_ancestor 12 = .ok (.goto 15, 3) := by decide +kernel
theorem dL_ancestor_15 : decode cL_ancestor 15 = .ok (.astore 5, 2) := by decide +kernel
theorem dL_ancestor_17 : decode cL_ancestor 17 = .ok (.iconst 1, 1) := by decide +kernel
theorem dL_ancestor_18 : decode cL_ancestor 18 = .ok (.ireturn, 1) := by decide +kernel
theorem dL_ancestor_19 : decode cL_ancestor 19 = .ok (.astore 5, 2) := by decide +kernel
theorem dL_ancestor_21 : decode cL_ancestor 21 = .ok (.iconst 2, 1) := by decide +kernel
theorem dL_ancestor_22 : decode cL_ancestor 22 = .ok (.ireturn, 1) := by decide +kernel
theorem dL_ancestor_23 : decode cL_ancestor 23 = .ok (.astore 5, 2) := by decide +kernel
theorem dL_ancestor_25 : decode cL_ancestor 25 = .ok (.iconst 3, 1) := by decide +kernel
theorem dL_ancestor_26 : decode cL_ancestor 26 = .ok (.ireturn, 1) := by decide +kernel
theorem dL_ancestor_27 : decode cL_ancestor 27 = .ok (.iconst 0, 1) := by decide +kernel
theorem dL_ancestor_28 : decode cL_ancestor 28 = .ok (.ireturn, 1) := by decide +kernel
theorem dL_ancestorByWalk_0 : decode cL_ancestorByWalk 0 = .ok (.aload 4, 2) := by decide +kernel
theorem dL_ancestorByWalk_2 : decode cL_ancestorByWalk 2 = .ok (.iconst 0, 1) := by decide +kernel
theorem dL_ancestorByWalk_3 : decode cL_ancestorByWalk 3 = .ok (.aload_n 0, 1) := by decide +kernel
theorem dL_ancestorByWalk_4 : decode cL_ancestorByWalk 4 = .ok (.iload_n 1, 1) := by decide +kernel
theorem dL_ancestorByWalk_5 : decode cL_ancestorByWalk 5 = .ok (.iload_n 2, 1) := by decide +kernel
theorem dL_ancestorByWalk_6 : decode cL_ancestorByWalk 6 = .ok (.iload_n 3, 1) := by decide +kernel
theorem dL_ancestorByWalk_7 : decode cL_ancestorByWalk 7 = .ok (.invokevirtual 112, 3) := by decide +kernel
theorem dL_ancestorByWalk_10 : decode cL_ancestorByWalk 10 = .ok (.i2l, 1) := by decide +kernel
theorem dL_ancestorByWalk_11 : decode cL_ancestorByWalk 11 = .ok (.lastore, 1) := by decide +kernel
theorem dL_ancestorByWalk_12 : decode cL_ancestorByWalk 12 = .ok (.goto 15, 3) := by decide +kernel
theorem dL_ancestorByWalk_15 : decode cL_ancestorByWalk 15 = .ok (.astore 5, 2) := by decide +kernel
theorem dL_ancestorByWalk_17 : decode cL_ancestorByWalk 17 = .ok (.iconst 1, 1) := by decide +kernel
theorem dL_ancestorByWalk_18 : decode cL_ancestorByWalk 18 = .ok (.ireturn, 1) := by decide +kernel
theorem dL_ancestorByWalk_19 : decode cL_ancestorByWalk 19 = .ok (.astore 5, 2) := by decide +kernel
theorem dL_ancestorByWalk_21 : decode cL_ancestorByWalk 21 = .ok (.iconst 2, 1) := by decide +kernel
theorem dL_ancestorByWalk_22 : decode cL_ancestorByWalk 22 = .ok (.ireturn, 1) := by decide +kernel
theorem dL_ancestorByWalk_23 : decode cL_ancestorByWalk 23 = .ok (.astore 5, 2) := by decide +kernel
theorem dL_ancestorByWalk_25 : decode cL_ancestorByWalk 25 = .ok (.iconst 3, 1) := by decide +kernel
theorem dL_ancestorByWalk_26 : decode cL_ancestorByWalk 26 = .ok (.ireturn, 1) := by decide +kernel
theorem dL_ancestorByWalk_27 : decode cL_ancestorByWalk 27 = .ok (.iconst 0, 1) := by decide +kernel
theorem dL_ancestorByWalk_28 : decode cL_ancestorByWalk 28 = .ok (.ireturn, 1) := by decide +kernel
theorem dL_common_0 : decode cL_common 0 = .ok (.aload 4, 2) := by decide +kernel
theorem dL_common_2 : decode cL_common 2 = .ok (.iconst 0, 1) := by decide +kernel
theorem dL_common_3 : decode cL_common 3 = .ok (.aload_n 0, 1) := by decide +kernel
theorem dL_common_4 : decode cL_common 4 = .ok (.iload_n 1, 1) := by decide +kernel
theorem dL_common_5 : decode cL_common 5 = .ok (.iload_n 2, 1) := by decide +kernel
theorem dL_common_6 : decode cL_common 6 = .ok (.iload_n 3, 1) := by decide +kernel
theorem dL_common_7 : decode cL_common 7 = .ok (.invokevirtual 115, 3) := by decide +kernel
theorem dL_common_10 : decode cL_common 10 = .ok (.i2l, 1) := by decide +kernel
theorem dL_common_11 : decode cL_common 11 = .ok (.lastore, 1) := by decide +kernel
theorem dL_common_12 : decode cL_common 12 = .ok (.goto 11, 3) := by decide +kernel
theorem dL_common_15 : decode cL_common 15 = .ok (.astore 5, 2) := by decide +kernel
theorem dL_common_17 : decode cL_common 17 = .ok (.iconst 1, 1) := by decide +kernel
theorem dL_common_18 : decode cL_common 18 = .ok (.ireturn, 1) := by decide +kernel
theorem dL_common_19 : decode cL_common 19 = .ok (.astore 5, 2) := by decide +kernel
theorem dL_common_21 : decode cL_common 21 = .ok (.iconst 2, 1) := by decide +kernel
theorem dL_common_22 : decode cL_common 22 = .ok (.ireturn, 1) := by decide +kernel
theorem dL_common_23 : decode cL_common 23 = .ok (.iconst 0, 1) := by decide +kernel
theorem dL_common_24 : decode cL_common 24 = .ok (.ireturn, 1) := by decide +kernel
theorem dL_commonByWalk_0 : decode cL_commonByWalk 0 = .ok (.aload 4, 2) := by decide +kernel
theorem dL_commonByWalk_2 : decode cL_commonByWalk 2 = .ok (.iconst 0, 1) := by decide +kernel
theorem dL_commonByWalk_3 : decode cL_commonByWalk 3 = .ok (.aload_n 0, 1) := by decide +kernel
theorem dL_commonByWalk_4 : decode cL_commonByWalk 4 = .ok (.iload_n 1, 1) := by decide +kernel
theorem dL_commonByWalk_5 : decode cL_commonByWalk 5 = .ok (.iload_n 2, 1) := by decide +kernel
theorem dL_commonByWalk_6 : decode cL_commonByWalk 6 = .ok (.iload_n 3, 1) := by decide +kernel
theorem dL_commonByWalk_7 : decode cL_commonByWalk 7 = .ok (.invokevirtual 118, 3) := by decide +kernel
theorem dL_commonByWalk_10 : decode cL_commonByWalk 10 = .ok (.i2l, 1) := by decide +kernel
theorem dL_commonByWalk_11 : decode cL_commonByWalk 11 = .ok (.lastore, 1) := by decide +kernel
theorem dL_commonByWalk_12 : decode cL_commonByWalk 12 = .ok (.goto 11, 3) := by decide +kernel
theorem dL_commonByWalk_15 : decode cL_commonByWalk 15 = .ok (.astore 5, 2) := by decide +kernel
theorem dL_commonByWalk_17 : decode cL_commonByWalk 17 = .ok (.iconst 1, 1) := by decide +kernel
theorem dL_commonByWalk_18 : decode cL_commonByWalk 18 = .ok (.ireturn, 1) := by decide +kernel
theorem dL_commonByWalk_19 : decode cL_commonByWalk 19 = .ok (.astore 5, 2) := by decide +kernel
theorem dL_commonByWalk_21 : decode cL_commonByWalk 21 = .ok (.iconst 2, 1) := by decide +kernel
theorem dL_commonByWalk_22 : decode cL_commonByWalk 22 = .ok (.ireturn, 1) := by decide +kernel
theorem dL_commonByWalk_23 : decode cL_commonByWalk 23 = .ok (.iconst 0, 1) := by decide +kernel
theorem dL_commonByWalk_24 : decode cL_commonByWalk 24 = .ok (.ireturn, 1) := by decide +kernel
theorem dL_subtreeSize_0 : decode cL_subtreeSize 0 = .ok (.aload_n 3, 1) := by decide +kernel
theorem dL_subtreeSize_1 : decode cL_subtreeSize 1 = .ok (.iconst 0, 1) := by decide +kernel
theorem dL_subtreeSize_2 : decode cL_subtreeSize 2 = .ok (.aload_n 0, 1) := by decide +kernel
theorem dL_subtreeSize_3 : decode cL_subtreeSize 3 = .ok (.iload_n 1, 1) := by decide +kernel
theorem dL_subtreeSize_4 : decode cL_subtreeSize 4 = .ok (.iload_n 2, 1) := by decide +kernel
theorem dL_subtreeSize_5 : decode cL_subtreeSize 5 = .ok (.invokevirtual 121, 3) := by decide +kernel
theorem dL_subtreeSize_8 : decode cL_subtreeSize 8 = .ok (.i2l, 1) := by decide +kernel
theorem dL_subtreeSize_9 : decode cL_subtreeSize 9 = .ok (.lastore, 1) := by decide +kernel
theorem dL_subtreeSize_10 : decode cL_subtreeSize 10 = .ok (.goto 11, 3) := by decide +kernel
theorem dL_subtreeSize_13 : decode cL_subtreeSize 13 = .ok (.astore 4, 2) := by decide +kernel
theorem dL_subtreeSize_15 : decode cL_subtreeSize 15 = .ok (.iconst 1, 1) := by decide +kernel
theorem dL_subtreeSize_16 : decode cL_subtreeSize 16 = .ok (.ireturn, 1) := by decide +kernel
theorem dL_subtreeSize_17 : decode cL_subtreeSize 17 = .ok (.astore 4, 2) := by decide +kernel
theorem dL_subtreeSize_19 : decode cL_subtreeSize 19 = .ok (.iconst 2, 1) := by decide +kernel
theorem dL_subtreeSize_20 : decode cL_subtreeSize 20 = .ok (.ireturn, 1) := by decide +kernel
theorem dL_subtreeSize_21 : decode cL_subtreeSize 21 = .ok (.iconst 0, 1) := by decide +kernel
theorem dL_subtreeSize_22 : decode cL_subtreeSize 22 = .ok (.ireturn, 1) := by decide +kernel
theorem dL_subtreeSum_0 : decode cL_subtreeSum 0 = .ok (.aload_n 3, 1) := by decide +kernel
theorem dL_subtreeSum_1 : decode cL_subtreeSum 1 = .ok (.iconst 0, 1) := by decide +kernel
theorem dL_subtreeSum_2 : decode cL_subtreeSum 2 = .ok (.aload_n 0, 1) := by decide +kernel
theorem dL_subtreeSum_3 : decode cL_subtreeSum 3 = .ok (.iload_n 1, 1) := by decide +kernel
theorem dL_subtreeSum_4 : decode cL_subtreeSum 4 = .ok (.iload_n 2, 1) := by decide +kernel
theorem dL_subtreeSum_5 : decode cL_subtreeSum 5 = .ok (.invokevirtual 124, 3) := by decide +kernel
theorem dL_subtreeSum_8 : decode cL_subtreeSum 8 = .ok (.i2l, 1) := by decide +kernel
theorem dL_subtreeSum_9 : decode cL_subtreeSum 9 = .ok (.lastore, 1) := by decide +kernel
theorem dL_subtreeSum_10 : decode cL_subtreeSum 10 = .ok (.goto 11, 3) := by decide +kernel
theorem dL_subtreeSum_13 : decode cL_subtreeSum 13 = .ok (.astore 4, 2) := by decide +kernel
theorem dL_subtreeSum_15 : decode cL_subtreeSum 15 = .ok (.iconst 1, 1) := by decide +kernel
theorem dL_subtreeSum_16 : decode cL_subtreeSum 16 = .ok (.ireturn, 1) := by decide +kernel
theorem dL_subtreeSum_17 : decode cL_subtreeSum 17 = .ok (.astore 4, 2) := by decide +kernel
theorem dL_subtreeSum_19 : decode cL_subtreeSum 19 = .ok (.iconst 2, 1) := by decide +kernel
theorem dL_subtreeSum_20 : decode cL_subtreeSum 20 = .ok (.ireturn, 1) := by decide +kernel
theorem dL_subtreeSum_21 : decode cL_subtreeSum 21 = .ok (.iconst 0, 1) := by decide +kernel
theorem dL_subtreeSum_22 : decode cL_subtreeSum 22 = .ok (.ireturn, 1) := by decide +kernel
theorem dL_heavyChild_0 : decode cL_heavyChild 0 = .ok (.aload_n 3, 1) := by decide +kernel
theorem dL_heavyChild_1 : decode cL_heavyChild 1 = .ok (.iconst 0, 1) := by decide +kernel
theorem dL_heavyChild_2 : decode cL_heavyChild 2 = .ok (.aload_n 0, 1) := by decide +kernel
theorem dL_heavyChild_3 : decode cL_heavyChild 3 = .ok (.iload_n 1, 1) := by decide +kernel
theorem dL_heavyChild_4 : decode cL_heavyChild 4 = .ok (.iload_n 2, 1) := by decide +kernel
theorem dL_heavyChild_5 : decode cL_heavyChild 5 = .ok (.invokevirtual 127, 3) := by decide +kernel
theorem dL_heavyChild_8 : decode cL_heavyChild 8 = .ok (.i2l, 1) := by decide +kernel
theorem dL_heavyChild_9 : decode cL_heavyChild 9 = .ok (.lastore, 1) := by decide +kernel
theorem dL_heavyChild_10 : decode cL_heavyChild 10 = .ok (.goto 15, 3) := by decide +kernel
theorem dL_heavyChild_13 : decode cL_heavyChild 13 = .ok (.astore 4, 2) := by decide +kernel
theorem dL_heavyChild_15 : decode cL_heavyChild 15 = .ok (.iconst 1, 1) := by decide +kernel
theorem dL_heavyChild_16 : decode cL_heavyChild 16 = .ok (.ireturn, 1) := by decide +kernel
theorem dL_heavyChild_17 : decode cL_heavyChild 17 = .ok (.astore 4, 2) := by decide +kernel
theorem dL_heavyChild_19 : decode cL_heavyChild 19 = .ok (.iconst 2, 1) := by decide +kernel
theorem dL_heavyChild_20 : decode cL_heavyChild 20 = .ok (.ireturn, 1) := by decide +kernel
theorem dL_heavyChild_21 : decode cL_heavyChild 21 = .ok (.astore 4, 2) := by decide +kernel
theorem dL_heavyChild_23 : decode cL_heavyChild 23 = .ok (.iconst 3, 1) := by decide +kernel
theorem dL_heavyChild_24 : decode cL_heavyChild 24 = .ok (.ireturn, 1) := by decide +kernel
theorem dL_heavyChild_25 : decode cL_heavyChild 25 = .ok (.iconst 0, 1) := by decide +kernel
theorem dL_heavyChild_26 : decode cL_heavyChild 26 = .ok (.ireturn, 1) := by decide +kernel
theorem dL_head_0 : decode cL_head 0 = .ok (.aload_n 3, 1) := by decide +kernel
theorem dL_head_1 : decode cL_head 1 = .ok (.iconst 0, 1) := by decide +kernel
theorem dL_head_2 : decode cL_head 2 = .ok (.aload_n 0, 1) := by decide +kernel
theorem dL_head_3 : decode cL_head 3 = .ok (.iload_n 1, 1) := by decide +kernel
theorem dL_head_4 : decode cL_head 4 = .ok (.iload_n 2, 1) := by decide +kernel
theorem dL_head_5 : decode cL_head 5 = .ok (.invokevirtual 130, 3) := by decide +kernel
theorem dL_head_8 : decode cL_head 8 = .ok (.i2l, 1) := by decide +kernel
theorem dL_head_9 : decode cL_head 9 = .ok (.lastore, 1) := by decide +kernel
theorem dL_head_10 : decode cL_head 10 = .ok (.goto 11, 3) := by decide +kernel
theorem dL_head_13 : decode cL_head 13 = .ok (.astore 4, 2) := by decide +kernel
theorem dL_head_15 : decode cL_head 15 = .ok (.iconst 1, 1) := by decide +kernel
theorem dL_head_16 : decode cL_head 16 = .ok (.ireturn, 1) := by decide +kernel
theorem dL_head_17 : decode cL_head 17 = .ok (.astore 4, 2) := by decide +kernel
theorem dL_head_19 : decode cL_head 19 = .ok (.iconst 2, 1) := by decide +kernel
theorem dL_head_20 : decode cL_head 20 = .ok (.ireturn, 1) := by decide +kernel
theorem dL_head_21 : decode cL_head 21 = .ok (.iconst 0, 1) := by decide +kernel
theorem dL_head_22 : decode cL_head 22 = .ok (.ireturn, 1) := by decide +kernel
theorem dL_heavyPaths_0 : decode cL_heavyPaths 0 = .ok (.aload_n 2, 1) := by decide +kernel
theorem dL_heavyPaths_1 : decode cL_heavyPaths 1 = .ok (.iconst 0, 1) := by decide +kernel
theorem dL_heavyPaths_2 : decode cL_heavyPaths 2 = .ok (.aload_n 0, 1) := by decide +kernel
theorem dL_heavyPaths_3 : decode cL_heavyPaths 3 = .ok (.iload_n 1, 1) := by decide +kernel
theorem dL_heavyPaths_4 : decode cL_heavyPaths 4 = .ok (.invokevirtual 133, 3) := by decide +kernel
theorem dL_heavyPaths_7 : decode cL_heavyPaths 7 = .ok (.i2l, 1) := by decide +kernel
theorem dL_heavyPaths_8 : decode cL_heavyPaths 8 = .ok (.lastore, 1) := by decide +kernel
theorem dL_heavyPaths_9 : decode cL_heavyPaths 9 = .ok (.goto 6, 3) := by decide +kernel
theorem dL_heavyPaths_12 : decode cL_heavyPaths 12 = .ok (.astore_n 3, 1) := by decide +kernel
theorem dL_heavyPaths_13 : decode cL_heavyPaths 13 = .ok (.iconst 1, 1) := by decide +kernel
theorem dL_heavyPaths_14 : decode cL_heavyPaths 14 = .ok (.ireturn, 1) := by decide +kernel
theorem dL_heavyPaths_15 : decode cL_heavyPaths 15 = .ok (.iconst 0, 1) := by decide +kernel
theorem dL_heavyPaths_16 : decode cL_heavyPaths 16 = .ok (.ireturn, 1) := by decide +kernel
theorem dL_lightEdges_0 : decode cL_lightEdges 0 = .ok (.aload_n 3, 1) := by decide +kernel
theorem dL_lightEdges_1 : decode cL_lightEdges 1 = .ok (.iconst 0, 1) := by decide +kernel
theorem dL_lightEdges_2 : decode cL_lightEdges 2 = .ok (.aload_n 0, 1) := by decide +kernel
theorem dL_lightEdges_3 : decode cL_lightEdges 3 = .ok (.iload_n 1, 1) := by decide +kernel
theorem dL_lightEdges_4 : decode cL_lightEdges 4 = .ok (.iload_n 2, 1) := by decide +kernel
theorem dL_lightEdges_5 : decode cL_lightEdges 5 = .ok (.invokevirtual 136, 3) := by decide +kernel
theorem dL_lightEdges_8 : decode cL_lightEdges 8 = .ok (.i2l, 1) := by decide +kernel
theorem dL_lightEdges_9 : decode cL_lightEdges 9 = .ok (.lastore, 1) := by decide +kernel
theorem dL_lightEdges_10 : decode cL_lightEdges 10 = .ok (.goto 11, 3) := by decide +kernel
theorem dL_lightEdges_13 : decode cL_lightEdges 13 = .ok (.astore 4, 2) := by decide +kernel
theorem dL_lightEdges_15 : decode cL_lightEdges 15 = .ok (.iconst 1, 1) := by decide +kernel
theorem dL_lightEdges_16 : decode cL_lightEdges 16 = .ok (.ireturn, 1) := by decide +kernel
theorem dL_lightEdges_17 : decode cL_lightEdges 17 = .ok (.astore 4, 2) := by decide +kernel
theorem dL_lightEdges_19 : decode cL_lightEdges 19 = .ok (.iconst 2, 1) := by decide +kernel
theorem dL_lightEdges_20 : decode cL_lightEdges 20 = .ok (.ireturn, 1) := by decide +kernel
theorem dL_lightEdges_21 : decode cL_lightEdges 21 = .ok (.iconst 0, 1) := by decide +kernel
theorem dL_lightEdges_22 : decode cL_lightEdges 22 = .ok (.ireturn, 1) := by decide +kernel
theorem dL_diameter_0 : decode cL_diameter 0 = .ok (.aload_n 2, 1) := by decide +kernel
theorem dL_diameter_1 : decode cL_diameter 1 = .ok (.iconst 0, 1) := by decide +kernel
theorem dL_diameter_2 : decode cL_diameter 2 = .ok (.aload_n 0, 1) := by decide +kernel
theorem dL_diameter_3 : decode cL_diameter 3 = .ok (.iload_n 1, 1) := by decide +kernel
theorem dL_diameter_4 : decode cL_diameter 4 = .ok (.invokevirtual 139, 3) := by decide +kernel
theorem dL_diameter_7 : decode cL_diameter 7 = .ok (.i2l, 1) := by decide +kernel
theorem dL_diameter_8 : decode cL_diameter 8 = .ok (.lastore, 1) := by decide +kernel
theorem dL_diameter_9 : decode cL_diameter 9 = .ok (.goto 6, 3) := by decide +kernel
theorem dL_diameter_12 : decode cL_diameter 12 = .ok (.astore_n 3, 1) := by decide +kernel
theorem dL_diameter_13 : decode cL_diameter 13 = .ok (.iconst 1, 1) := by decide +kernel
theorem dL_diameter_14 : decode cL_diameter 14 = .ok (.ireturn, 1) := by decide +kernel
theorem dL_diameter_15 : decode cL_diameter 15 = .ok (.iconst 0, 1) := by decide +kernel
theorem dL_diameter_16 : decode cL_diameter 16 = .ok (.ireturn, 1) := by decide +kernel
theorem dL_diameterByTrying_0 : decode cL_diameterByTrying 0 = .ok (.aload_n 2, 1) := by decide +kernel
theorem dL_diameterByTrying_1 : decode cL_diameterByTrying 1 = .ok (.iconst 0, 1) := by decide +kernel
theorem dL_diameterByTrying_2 : decode cL_diameterByTrying 2 = .ok (.aload_n 0, 1) := by decide +kernel
theorem dL_diameterByTrying_3 : decode cL_diameterByTrying 3 = .ok (.iload_n 1, 1) := by decide +kernel
theorem dL_diameterByTrying_4 : decode cL_diameterByTrying 4 = .ok (.invokevirtual 142, 3) := by decide +kernel
theorem dL_diameterByTrying_7 : decode cL_diameterByTrying 7 = .ok (.i2l, 1) := by decide +kernel
theorem dL_diameterByTrying_8 : decode cL_diameterByTrying 8 = .ok (.lastore, 1) := by decide +kernel
theorem dL_diameterByTrying_9 : decode cL_diameterByTrying 9 = .ok (.goto 6, 3) := by decide +kernel
theorem dL_diameterByTrying_12 : decode cL_diameterByTrying 12 = .ok (.astore_n 3, 1) := by decide +kernel
theorem dL_diameterByTrying_13 : decode cL_diameterByTrying 13 = .ok (.iconst 1, 1) := by decide +kernel
theorem dL_diameterByTrying_14 : decode cL_diameterByTrying 14 = .ok (.ireturn, 1) := by decide +kernel
theorem dL_diameterByTrying_15 : decode cL_diameterByTrying 15 = .ok (.iconst 0, 1) := by decide +kernel
theorem dL_diameterByTrying_16 : decode cL_diameterByTrying 16 = .ok (.ireturn, 1) := by decide +kernel
theorem dL_law_0 : decode cL_law 0 = .ok (.new 8, 3) := by decide +kernel
theorem dL_law_3 : decode cL_law 3 = .ok (.dup, 1) := by decide +kernel
theorem dL_law_4 : decode cL_law 4 = .ok (.invokespecial 145, 3) := by decide +kernel
theorem dL_law_7 : decode cL_law 7 = .ok (.astore_n 1, 1) := by decide +kernel
theorem dL_law_8 : decode cL_law 8 = .ok (.new 146, 3) := by decide +kernel
theorem dL_law_11 : decode cL_law 11 = .ok (.dup, 1) := by decide +kernel
theorem dL_law_12 : decode cL_law 12 = .ok (.invokespecial 148, 3) := by decide +kernel
theorem dL_law_15 : decode cL_law 15 = .ok (.astore_n 2, 1) := by decide +kernel
theorem dL_law_16 : decode cL_law 16 = .ok (.iconst 1, 1) := by decide +kernel
theorem dL_law_17 : decode cL_law 17 = .ok (.newarray .long, 2) := by decide +kernel
theorem dL_law_19 : decode cL_law 19 = .ok (.astore_n 3, 1) := by decide +kernel
theorem dL_law_20 : decode cL_law 20 = .ok (.iconst 1, 1) := by decide +kernel
theorem dL_law_21 : decode cL_law 21 = .ok (.newarray .double, 2) := by decide +kernel
theorem dL_law_23 : decode cL_law 23 = .ok (.astore 4, 2) := by decide +kernel
theorem dL_law_25 : decode cL_law 25 = .ok (.iconst 0, 1) := by decide +kernel
theorem dL_law_26 : decode cL_law 26 = .ok (.istore 5, 2) := by decide +kernel
theorem dL_law_28 : decode cL_law 28 = .ok (.iload 5, 2) := by decide +kernel
theorem dL_law_30 : decode cL_law 30 = .ok (.aload_n 0, 1) := by decide +kernel
theorem dL_law_31 : decode cL_law 31 = .ok (.arraylength, 1) := by decide +kernel
theorem dL_law_32 : decode cL_law 32 = .ok (.iconst 4, 1) := by decide +kernel
theorem dL_law_33 : decode cL_law 33 = .ok (.isub, 1) := by decide +kernel
theorem dL_law_34 : decode cL_law 34 = .ok (.if_icmp .gt 2985, 3) := by decide +kernel
theorem dL_law_37 : decode cL_law 37 = .ok (.aload_n 0, 1) := by decide +kernel
theorem dL_law_38 : decode cL_law 38 = .ok (.iload 5, 2) := by decide +kernel
theorem dL_law_40 : decode cL_law 40 = .ok (.iaload, 1) := by decide +kernel
theorem dL_law_41 : decode cL_law 41 = .ok (.bipush 63, 2) := by decide +kernel
theorem dL_law_43 : decode cL_law 43 = .ok (.iand, 1) := by decide +kernel
theorem dL_law_44 : decode cL_law 44 = .ok (.tableswitch 2969 0 44 #[196, 252, 320, 400, 456, 524, 604, 617, 630, 686, 742, 798, 866, 934, 1002, 1015, 1028, 1041, 1097, 1165, 1240, 1315, 1371, 1427, 1495, 1575, 1643, 1711, 1779, 1847, 1915, 2005, 2073, 2141, 2221, 2301, 2381, 2461, 2529, 2597, 2665, 2733, 2789, 2857, 2913], 196) := by decide +kernel
theorem dL_law_240 : decode cL_law 240 = .ok (.aload_n 1, 1) := by decide +kernel
theorem dL_law_241 : decode cL_law 241 = .ok (.aload_n 0, 1) := by decide +kernel
theorem dL_law_242 : decode cL_law 242 = .ok (.iload 5, 2) := by decide +kernel
theorem dL_law_244 : decode cL_law 244 = .ok (.iconst 1, 1) := by decide +kernel
theorem dL_law_245 : decode cL_law 245 = .ok (.iadd, 1) := by decide +kernel
theorem dL_law_246 : decode cL_law 246 = .ok (.iaload, 1) := by decide +kernel
theorem dL_law_247 : decode cL_law 247 = .ok (.aload_n 3, 1) := by decide +kernel
theorem dL_law_248 : decode cL_law 248 = .ok (.invokestatic 149, 3) := by decide +kernel
theorem dL_law_251 : decode cL_law 251 = .ok (.istore 6, 2) := by decide +kernel
theorem dL_law_253 : decode cL_law 253 = .ok (.aload_n 2, 1) := by decide +kernel
theorem dL_law_254 : decode cL_law 254 = .ok (.aload_n 0, 1) := by decide +kernel
theorem dL_law_255 : decode cL_law 255 = .ok (.iload 5, 2) := by decide +kernel
theorem dL_law_257 : decode cL_law 257 = .ok (.iconst 1, 1) := by decide +kernel
theorem dL_law_258 : decode cL_law 258 = .ok (.iadd, 1) := by decide +kernel
theorem dL_law_259 : decode cL_law 259 = .ok (.iaload, 1) := by decide +kernel
theorem dL_law_260 : decode cL_law 260 = .ok (.invokevirtual 154, 3) := by decide +kernel
theorem dL_law_263 : decode cL_law 263 = .ok (.istore 7, 2) := by decide +kernel
theorem dL_law_265 : decode cL_law 265 = .ok (.aload_n 2, 1) := by decide +kernel
theorem dL_law_266 : decode cL_law 266 = .ok (.invokevirtual 155, 3) := by decide +kernel
theorem dL_law_269 : decode cL_law 269 = .ok (.iload 6, 2) := by decide +kernel
theorem dL_law_271 : decode cL_law 271 = .ok (.if_icmp .eq 5, 3) := by decide +kernel
theorem dL_law_274 : decode cL_law 274 = .ok (.iconst 0, 1) := by decide +kernel
theorem dL_law_275 : decode cL_law 275 = .ok (.ireturn, 1) := by decide +kernel
theorem dL_law_276 : decode cL_law 276 = .ok (.iload 6, 2) := by decide +kernel
theorem dL_law_278 : decode cL_law 278 = .ok (.ifCond .ne 15, 3) := by decide +kernel
theorem dL_law_281 : decode cL_law 281 = .ok (.aload_n 3, 1) := by decide +kernel
theorem dL_law_282 : decode cL_law 282 = .ok (.iconst 0, 1) := by decide +kernel
theorem dL_law_283 : decode cL_law 283 = .ok (.laload, 1) := by decide +kernel
theorem dL_law_284 : decode cL_law 284 = .ok (.iload 7, 2) := by decide +kernel
theorem dL_law_286 : decode cL_law 286 = .ok (.i2l, 1) := by decide +kernel
theorem dL_law_287 : decode cL_law 287 = .ok (.lcmp, 1) := by decide +kernel
theorem dL_law_288 : decode cL_law 288 = .ok (.ifCond .eq 5, 3) := by decide +kernel
theorem dL_law_291 : decode cL_law 291 = .ok (.iconst 0, 1) := by decide +kernel
theorem dL_law_292 : decode cL_law 292 = .ok (.ireturn, 1) := by decide +kernel
theorem dL_law_293 : decode cL_law 293 = .ok (.goto 2720, 3) := by decide +kernel
theorem dL_law_296 : decode cL_law 296 = .ok (.aload_n 1, 1) := by decide +kernel
theorem dL_law_297 : decode cL_law 297 = .ok (.aload_n 0, 1) := by decide +kernel
theorem dL_law_298 : decode cL_law 298 = .ok (.iload 5, 2) := by decide +kernel
theorem dL_law_300 : decode cL_law 300 = .ok (.iconst 1, 1) := by decide +kernel
theorem dL_law_301 : decode cL_law 301 = .ok (.iadd, 1) := by decide +kernel
theorem dL_law_302 : decode cL_law 302 = .ok (.iaload, 1) := by decide +kernel
theorem dL_law_303 : decode cL_law 303 = .ok (.aload_n 0, 1) := by decide +kernel
theorem dL_law_304 : decode cL_law 304 = .ok (.iload 5, 2) := by decide +kernel
theorem dL_law_306 : decode cL_law 306 = .ok (.iconst 2, 1) := by decide +kernel
theorem dL_law_307 : decode cL_law 307 = .ok (.iadd, 1) := by decide +kernel
theorem dL_law_308 : decode cL_law 308 = .ok (.iaload, 1) := by decide +kernel
theorem dL_law_309 : decode cL_law 309 = .ok (.aload_n 3, 1) := by decide +kernel
theorem dL_law_310 : decode cL_law 310 = .ok (.invokestatic 159, 3) := by decide +kernel
theorem dL_law_313 : decode cL_law 313 = .ok (.istore 6, 2) := by decide +kernel
theorem dL_law_315 : decode cL_law 315 = .ok (.aload_n 2, 1) := by decide +kernel
theorem dL_law_316 : decode cL_law 316 = .ok (.aload_n 0, 1) := by decide +kernel
theorem dL_law_317 : decode cL_law 317 = .ok (.iload 5, 2) := by decide +kernel
theorem dL_law_319 : decode cL_law 319 = .ok (.iconst 1, 1) := by decide +kernel
theorem dL_law_320 : decode cL_law 320 = .ok (.iadd, 1) := by decide +kernel
theorem dL_law_321 : decode cL_law 321 = .ok (.iaload, 1) := by decide +kernel
theorem dL_law_322 : decode cL_law 322 = .ok (.aload_n 0, 1) := by decide +kernel
theorem dL_law_323 : decode cL_law 323 = .ok (.iload 5, 2) := by decide +kernel
theorem dL_law_325 : decode cL_law 325 = .ok (.iconst 2, 1) := by decide +kernel
theorem dL_law_326 : decode cL_law 326 = .ok (.iadd, 1) := by decide +kernel
theorem dL_law_327 : decode cL_law 327 = .ok (.iaload, 1) := by decide +kernel
theorem dL_law_328 : decode cL_law 328 = .ok (.invokevirtual 162, 3) := by decide +kernel
theorem dL_law_331 : decode cL_law 331 = .ok (.istore 7, 2) := by decide +kernel
theorem dL_law_333 : decode cL_law 333 = .ok (.aload_n 2, 1) := by decide +kernel
theorem dL_law_334 : decode cL_law 334 = .ok (.invokevirtual 155, 3) := by decide +kernel
theorem dL_law_337 : decode cL_law 337 = .ok (.iload 6, 2) := by decide +kernel
theorem dL_law_339 : decode cL_law 339 = .ok (.if_icmp .eq 5, 3) := by decide +kernel
theorem dL_law_342 : decode cL_law 342 = .ok (.iconst 0, 1) := by decide +kernel
theorem dL_law_343 : decode cL_law 343 = .ok (.ireturn, 1) := by decide +kernel
theorem dL_law_344 : decode cL_law 344 = .ok (.iload 6, 2) := by decide +kernel
theorem dL_law_346 : decode cL_law 346 = .ok (.ifCond .ne 15, 3) := by decide +kernel
theorem dL_law_349 : decode cL_law 349 = .ok (.aload_n 3, 1) := by decide +kernel
theorem dL_law_350 : decode cL_law 350 = .ok (.iconst 0, 1) := by decide +kernel
theorem dL_law_351 : decode cL_law 351 = .ok (.laload, 1) := by decide +kernel
theorem dL_law_352 : decode cL_law 352 = .ok (.iload 7, 2) := by decide +kernel
theorem dL_law_354 : decode cL_law 354 = .ok (.i2l, 1) := by decide +kernel
theorem dL_law_355 : decode cL_law 355 = .ok (.lcmp, 1) := by decide +kernel
theorem dL_law_356 : decode cL_law 356 = .ok (.ifCond .eq 5, 3) := by decide +kernel
theorem dL_law_359 : decode cL_law 359 = .ok (.iconst 0, 1) := by decide +kernel
theorem dL_law_360 : decode cL_law 360 = .ok (.ireturn, 1) := by decide +kernel
theorem dL_law_361 : decode cL_law 361 = .ok (.goto 2652, 3) := by decide +kernel
theorem dL_law_364 : decode cL_law 364 = .ok (.aload_n 1, 1) := by decide +kernel
theorem dL_law_365 : decode cL_law 365 = .ok (.aload_n 0, 1) := by decide +kernel
theorem dL_law_366 : decode cL_law 366 = .ok (.iload 5, 2) := by decide +kernel
theorem dL_law_368 : decode cL_law 368 = .ok (.iconst 1, 1) := by decide +kernel
theorem dL_law_369 : decode cL_law 369 = .ok (.iadd, 1) := by decide +kernel
theorem dL_law_370 : decode cL_law 370 = .ok (.iaload, 1) := by decide +kernel
theorem dL_law_371 : decode cL_law 371 = .ok (.aload_n 0, 1) := by decide +kernel
theorem dL_law_372 : decode cL_law 372 = .ok (.iload 5, 2) := by decide +kernel
theorem dL_law_374 : decode cL_law 374 = .ok (.iconst 2, 1) := by decide +kernel
theorem dL_law_375 : decode cL_law 375 = .ok (.iadd, 1) := by decide +kernel
theorem dL_law_376 : decode cL_law 376 = .ok (.iaload, 1) := by decide +kernel
theorem dL_law_377 : decode cL_law 377 = .ok (.aload_n 0, 1) := by decide +kernel
theorem dL_law_378 : decode cL_law 378 = .ok (.iload 5, 2) := by decide +kernel
theorem dL_law_380 : decode cL_law 380 = .ok (.iconst 3, 1) := by decide +kernel
theorem dL_law_381 : decode cL_law 381 = .ok (.iadd, 1) := by decide +kernel
theorem dL_law_382 : decode cL_law 382 = .ok (.iaload, 1) := by decide +kernel
theorem dL_law_383 : decode cL_law 383 = .ok (.aload_n 3, 1) := by decide +kernel
theorem dL_law_384 : decode cL_law 384 = .ok (.invokestatic 163, 3) := by decide +kernel
theorem dL_law_387 : decode cL_law 387 = .ok (.istore 6, 2) := by decide +kernel
theorem dL_law_389 : decode cL_law 389 = .ok (.aload_n 2, 1) := by decide +kernel
theorem dL_law_390 : decode cL_law 390 = .ok (.aload_n 0, 1) := by decide +kernel
theorem dL_law_391 : decode cL_law 391 = .ok (.iload 5, 2) := by decide +kernel
theorem dL_law_393 : decode cL_law 393 = .ok (.iconst 1, 1) := by decide +kernel
theorem dL_law_394 : decode cL_law 394 = .ok (.iadd, 1) := by decide +kernel
theorem dL_law_395 : decode cL_law 395 = .ok (.iaload, 1) := by decide +kernel
theorem dL_law_396 : decode cL_law 396 = .ok (.aload_n 0, 1) := by decide +kernel
theorem dL_law_397 : decode cL_law 397 = .ok (.iload 5, 2) := by decide +kernel
theorem dL_law_399 : decode cL_law 399 = .ok (.iconst 2, 1) := by decide +kernel
theorem dL_law_400 : decode cL_law 400 = .ok (.iadd, 1) := by decide +kernel
theorem dL_law_401 : decode cL_law 401 = .ok (.iaload, 1) := by decide +kernel
theorem dL_law_402 : decode cL_law 402 = .ok (.aload_n 0, 1) := by decide +kernel
theorem dL_law_403 : decode cL_law 403 = .ok (.iload 5, 2) := by decide +kernel
theorem dL_law_405 : decode cL_law 405 = .ok (.iconst 3, 1) := by decide +kernel
theorem dL_law_406 : decode cL_law 406 = .ok (.iadd, 1) := by decide +kernel
theorem dL_law_407 : decode cL_law 407 = .ok (.iaload, 1) := by decide +kernel
theorem dL_law_408 : decode cL_law 408 = .ok (.invokevirtual 166, 3) := by decide +kernel
theorem dL_law_411 : decode cL_law 411 = .ok (.istore 7, 2) := by decide +kernel
theorem dL_law_413 : decode cL_law 413 = .ok (.aload_n 2, 1) := by decide +kernel
theorem dL_law_414 : decode cL_law 414 = .ok (.invokevirtual 155, 3) := by decide +kernel
theorem dL_law_417 : decode cL_law 417 = .ok (.iload 6, 2) := by decide +kernel
theorem dL_law_419 : decode cL_law 419 = .ok (.if_icmp .eq 5, 3) := by decide +kernel
theorem dL_law_422 : decode cL_law 422 = .ok (.iconst 0, 1) := by decide +kernel
theorem dL_law_423 : decode cL_law 423 = .ok (.ireturn, 1) := by decide +kernel
theorem dL_law_424 : decode cL_law 424 = .ok (.iload 6, 2) := by decide +kernel
theorem dL_law_426 : decode cL_law 426 = .ok (.ifCond .ne 15, 3) := by decide +kernel
theorem dL_law_429 : decode cL_law 429 = .ok (.aload_n 3, 1) := by decide +kernel
theorem dL_law_430 : decode cL_law 430 = .ok (.iconst 0, 1) := by decide +kernel
theorem dL_law_431 : decode cL_law 431 = .ok (.laload, 1) := by decide +kernel
theorem dL_law_432 : decode cL_law 432 = .ok (.iload 7, 2) := by decide +kernel
theorem dL_law_434 : decode cL_law 434 = .ok (.i2l, 1) := by decide +kernel
theorem dL_law_435 : decode cL_law 435 = .ok (.lcmp, 1) := by decide +kernel
theorem dL_law_436 : decode cL_law 436 = .ok (.ifCond .eq 5, 3) := by decide +kernel
theorem dL_law_439 : decode cL_law 439 = .ok (.iconst 0, 1) := by decide +kernel
theorem dL_law_440 : decode cL_law 440 = .ok (.ireturn, 1) := by decide +kernel
theorem dL_law_441 : decode cL_law 441 = .ok (.goto 2572, 3) := by decide +kernel
theorem dL_law_444 : decode cL_law 444 = .ok (.aload_n 1, 1) := by decide +kernel
theorem dL_law_445 : decode cL_law 445 = .ok (.aload_n 0, 1) := by decide +kernel
theorem dL_law_446 : decode cL_law 446 = .ok (.iload 5, 2) := by decide +kernel
theorem dL_law_448 : decode cL_law 448 = .ok (.iconst 1, 1) := by decide +kernel
theorem dL_law_449 : decode cL_law 449 = .ok (.iadd, 1) := by decide +kernel
theorem dL_law_450 : decode cL_law 450 = .ok (.iaload, 1) := by decide +kernel
theorem dL_law_451 : decode cL_law 451 = .ok (.aload_n 3, 1) := by decide +kernel
theorem dL_law_452 : decode cL_law 452 = .ok (.invokestatic 167, 3) := by decide +kernel
theorem dL_law_455 : decode cL_law 455 = .ok (.istore 6, 2) := by decide +kernel
theorem dL_law_457 : decode cL_law 457 = .ok (.aload_n 2, 1) := by decide +kernel
theorem dL_law_458 : decode cL_law 458 = .ok (.aload_n 0, 1) := by decide +kernel
theorem dL_law_459 : decode cL_law 459 = .ok (.iload 5, 2) := by decide +kernel
theorem dL_law_461 : decode cL_law 461 = .ok (.iconst 1, 1) := by decide +kernel
theorem dL_law_462 : decode cL_law 462 = .ok (.iadd, 1) := by decide +kernel
theorem dL_law_463 : decode cL_law 463 = .ok (.iaload, 1) := by decide +kernel
theorem dL_law_464 : decode cL_law 464 = .ok (.invokevirtual 169, 3) := by decide +kernel
theorem dL_law_467 : decode cL_law 467 = .ok (.istore 7, 2) := by decide +kernel
theorem dL_law_469 : decode cL_law 469 = .ok (.aload_n 2, 1) := by decide +kernel
theorem dL_law_470 : decode cL_law 470 = .ok (.invokevirtual 155, 3) := by decide +kernel
theorem dL_law_473 : decode cL_law 473 = .ok (.iload 6, 2) := by decide +kernel
theorem dL_law_475 : decode cL_law 475 = .ok (.if_icmp .eq 5, 3) := by decide +kernel
theorem dL_law_478 : decode cL_law 478 = .ok (.iconst 0, 1) := by decide +kernel
theorem dL_law_479 : decode cL_law 479 = .ok (.ireturn, 1) := by decide +kernel
theorem dL_law_480 : decode cL_law 480 = .ok (.iload 6, 2) := by decide +kernel
theorem dL_law_482 : decode cL_law 482 = .ok (.ifCond .ne 15, 3) := by decide +kernel
theorem dL_law_485 : decode cL_law 485 = .ok (.aload_n 3, 1) := by decide +kernel
theorem dL_law_486 : decode cL_law 486 = .ok (.iconst 0, 1) := by decide +kernel
theorem dL_law_487 : decode cL_law 487 = .ok (.laload, 1) := by decide +kernel
theorem dL_law_488 : decode cL_law 488 = .ok (.iload 7, 2) := by decide +kernel
theorem dL_law_490 : decode cL_law 490 = .ok (.i2l, 1) := by decide +kernel
theorem dL_law_491 : decode cL_law 491 = .ok (.lcmp, 1) := by decide +kernel
theorem dL_law_492 : decode cL_law 492 = .ok (.ifCond .eq 5, 3) := by decide +kernel
theorem dL_law_495 : decode cL_law 495 = .ok (.iconst 0, 1) := by decide +kernel
theorem dL_law_496 : decode cL_law 496 = .ok (.ireturn, 1) := by decide +kernel
theorem dL_law_497 : decode cL_law 497 = .ok (.goto 2516, 3) := by decide +kernel
theorem dL_law_500 : decode cL_law 500 = .ok (.aload_n 1, 1) := by decide +kernel
theorem dL_law_501 : decode cL_law 501 = .ok (.aload_n 0, 1) := by decide +kernel
theorem dL_law_502 : decode cL_law 502 = .ok (.iload 5, 2) := by decide +kernel
theorem dL_law_504 : decode cL_law 504 = .ok (.iconst 1, 1) := by decide +kernel
theorem dL_law_505 : decode cL_law 505 = .ok (.iadd, 1) := by decide +kernel
theorem dL_law_506 : decode cL_law 506 = .ok (.iaload, 1) := by decide +kernel
theorem dL_law_507 : decode cL_law 507 = .ok (.aload_n 0, 1) := by decide +kernel
theorem dL_law_508 : decode cL_law 508 = .ok (.iload 5, 2) := by decide +kernel
theorem dL_law_510 : decode cL_law 510 = .ok (.iconst 2, 1) := by decide +kernel
theorem dL_law_511 : decode cL_law 511 = .ok (.iadd, 1) := by decide +kernel
theorem dL_law_512 : decode cL_law 512 = .ok (.iaload, 1) := by decide +kernel
theorem dL_law_513 : decode cL_law 513 = .ok (.aload_n 3, 1) := by decide +kernel
theorem dL_law_514 : decode cL_law 514 = .ok (.invokestatic 170, 3) := by decide +kernel
theorem dL_law_517 : decode cL_law 517 = .ok (.istore 6, 2) := by decide +kernel
theorem dL_law_519 : decode cL_law 519 = .ok (.aload_n 2, 1) := by decide +kernel
theorem dL_law_520 : decode cL_law 520 = .ok (.aload_n 0, 1) := by decide +kernel
theorem dL_law_521 : decode cL_law 521 = .ok (.iload 5, 2) := by decide +kernel
theorem dL_law_523 : decode cL_law 523 = .ok (.iconst 1, 1) := by decide +kernel
theorem dL_law_524 : decode cL_law 524 = .ok (.iadd, 1) := by decide +kernel
theorem dL_law_525 : decode cL_law 525 = .ok (.iaload, 1) := by decide +kernel
theorem dL_law_526 : decode cL_law 526 = .ok (.aload_n 0, 1) := by decide +kernel
theorem dL_law_527 : decode cL_law 527 = .ok (.iload 5, 2) := by decide +kernel
theorem dL_law_529 : decode cL_law 529 = .ok (.iconst 2, 1) := by decide +kernel
theorem dL_law_530 : decode cL_law 530 = .ok (.iadd, 1) := by decide +kernel
theorem dL_law_531 : decode cL_law 531 = .ok (.iaload, 1) := by decide +kernel
theorem dL_law_532 : decode cL_law 532 = .ok (.invokevirtual 172, 3) := by decide +kernel
theorem dL_law_535 : decode cL_law 535 = .ok (.istore 7, 2) := by decide +kernel
theorem dL_law_537 : decode cL_law 537 = .ok (.aload_n 2, 1) := by decide +kernel
theorem dL_law_538 : decode cL_law 538 = .ok (.invokevirtual 155, 3) := by decide +kernel
theorem dL_law_541 : decode cL_law 541 = .ok (.iload 6, 2) := by decide +kernel
theorem dL_law_543 : decode cL_law 543 = .ok (.if_icmp .eq 5, 3) := by decide +kernel
theorem dL_law_546 : decode cL_law 546 = .ok (.iconst 0, 1) := by decide +kernel
theorem dL_law_547 : decode cL_law 547 = .ok (.ireturn, 1) := by decide +kernel
theorem dL_law_548 : decode cL_law 548 = .ok (.iload 6, 2) := by decide +kernel
theorem dL_law_550 : decode cL_law 550 = .ok (.ifCond .ne 15, 3) := by decide +kernel
theorem dL_law_553 : decode cL_law 553 = .ok (.aload_n 3, 1) := by decide +kernel
theorem dL_law_554 : decode cL_law 554 = .ok (.iconst 0, 1) := by decide +kernel
theorem dL_law_555 : decode cL_law 555 = .ok (.laload, 1) := by decide +kernel
theorem dL_law_556 : decode cL_law 556 = .ok (.iload 7, 2) := by decide +kernel
theorem dL_law_558 : decode cL_law 558 = .ok (.i2l, 1) := by decide +kernel
theorem dL_law_559 : decode cL_law 559 = .ok (.lcmp, 1) := by decide +kernel
theorem dL_law_560 : decode cL_law 560 = .ok (.ifCond .eq 5, 3) := by decide +kernel
theorem dL_law_563 : decode cL_law 563 = .ok (.iconst 0, 1) := by decide +kernel
theorem dL_law_564 : decode cL_law 564 = .ok (.ireturn, 1) := by decide +kernel
theorem dL_law_565 : decode cL_law 565 = .ok (.goto 2448, 3) := by decide +kernel
theorem dL_law_568 : decode cL_law 568 = .ok (.aload_n 1, 1) := by decide +kernel
theorem dL_law_569 : decode cL_law 569 = .ok (.aload_n 0, 1) := by decide +kernel
theorem dL_law_570 : decode cL_law 570 = .ok (.iload 5, 2) := by decide +kernel
theorem dL_law_572 : decode cL_law 572 = .ok (.iconst 1, 1) := by decide +kernel
theorem dL_law_573 : decode cL_law 573 = .ok (.iadd, 1) := by decide +kernel
theorem dL_law_574 : decode cL_law 574 = .ok (.iaload, 1) := by decide +kernel
theorem dL_law_575 : decode cL_law 575 = .ok (.aload_n 0, 1) := by decide +kernel
theorem dL_law_576 : decode cL_law 576 = .ok (.iload 5, 2) := by decide +kernel
theorem dL_law_578 : decode cL_law 578 = .ok (.iconst 2, 1) := by decide +kernel
theorem dL_law_579 : decode cL_law 579 = .ok (.iadd, 1) := by decide +kernel
theorem dL_law_580 : decode cL_law 580 = .ok (.iaload, 1) := by decide +kernel
theorem dL_law_581 : decode cL_law 581 = .ok (.aload_n 0, 1) := by decide +kernel
theorem dL_law_582 : decode cL_law 582 = .ok (.iload 5, 2) := by decide +kernel
theorem dL_law_584 : decode cL_law 584 = .ok (.iconst 3, 1) := by decide +kernel
theorem dL_law_585 : decode cL_law 585 = .ok (.iadd, 1) := by decide +kernel
theorem dL_law_586 : decode cL_law 586 = .ok (.iaload, 1) := by decide +kernel
theorem dL_law_587 : decode cL_law 587 = .ok (.aload_n 3, 1) := by decide +kernel
theorem dL_law_588 : decode cL_law 588 = .ok (.invokestatic 173, 3) := by decide +kernel
theorem dL_law_591 : decode cL_law 591 = .ok (.istore 6, 2) := by decide +kernel
theorem dL_law_593 : decode cL_law 593 = .ok (.aload_n 2, 1) := by decide +kernel
theorem dL_law_594 : decode cL_law 594 = .ok (.aload_n 0, 1) := by decide +kernel
theorem dL_law_595 : decode cL_law 595 = .ok (.iload 5, 2) := by decide +kernel
theorem dL_law_597 : decode cL_law 597 = .ok (.iconst 1, 1) := by decide +kernel
theorem dL_law_598 : decode cL_law 598 = .ok (.iadd, 1) := by decide +kernel
theorem dL_law_599 : decode cL_law 599 = .ok (.iaload, 1) := by decide +kernel
theorem dL_law_600 : decode cL_law 600 = .ok (.aload_n 0, 1) := by decide +kernel
theorem dL_law_601 : decode cL_law 601 = .ok (.iload 5, 2) := by decide +kernel
theorem dL_law_603 : decode cL_law 603 = .ok (.iconst 2, 1) := by decide +kernel
theorem dL_law_604 : decode cL_law 604 = .ok (.iadd, 1) := by decide +kernel
theorem dL_law_605 : decode cL_law 605 = .ok (.iaload, 1) := by decide +kernel
theorem dL_law_606 : decode cL_law 606 = .ok (.aload_n 0, 1) := by decide +kernel
theorem dL_law_607 : decode cL_law 607 = .ok (.iload 5, 2) := by decide +kernel
theorem dL_law_609 : decode cL_law 609 = .ok (.iconst 3, 1) := by decide +kernel
theorem dL_law_610 : decode cL_law 610 = .ok (.iadd, 1) := by decide +kernel
theorem dL_law_611 : decode cL_law 611 = .ok (.iaload, 1) := by decide +kernel
theorem dL_law_612 : decode cL_law 612 = .ok (.invokevirtual 175, 3) := by decide +kernel
theorem dL_law_615 : decode cL_law 615 = .ok (.istore 7, 2) := by decide +kernel
theorem dL_law_617 : decode cL_law 617 = .ok (.aload_n 2, 1) := by decide +kernel
theorem dL_law_618 : decode cL_law 618 = .ok (.invokevirtual 155, 3) := by decide +kernel
theorem dL_law_621 : decode cL_law 621 = .ok (.iload 6, 2) := by decide +kernel
theorem dL_law_623 : decode cL_law 623 = .ok (.if_icmp .eq 5, 3) := by decide +kernel
theorem dL_law_626 : decode cL_law 626 = .ok (.iconst 0, 1) := by decide +kernel
theorem dL_law_627 : decode cL_law 627 = .ok (.ireturn, 1) := by decide +kernel
theorem dL_law_628 : decode cL_law 628 = .ok (.iload 6, 2) := by decide +kernel
theorem dL_law_630 : decode cL_law 630 = .ok (.ifCond .ne 15, 3) := by decide +kernel
theorem dL_law_633 : decode cL_law 633 = .ok (.aload_n 3, 1) := by decide +kernel
theorem dL_law_634 : decode cL_law 634 = .ok (.iconst 0, 1) := by decide +kernel
theorem dL_law_635 : decode cL_law 635 = .ok (.laload, 1) := by decide +kernel
theorem dL_law_636 : decode cL_law 636 = .ok (.iload 7, 2) := by decide +kernel
theorem dL_law_638 : decode cL_law 638 = .ok (.i2l, 1) := by decide +kernel
theorem dL_law_639 : decode cL_law 639 = .ok (.lcmp, 1) := by decide +kernel
theorem dL_law_640 : decode cL_law 640 = .ok (.ifCond .eq 5, 3) := by decide +kernel
theorem dL_law_643 : decode cL_law 643 = .ok (.iconst 0, 1) := by decide +kernel
theorem dL_law_644 : decode cL_law 644 = .ok (.ireturn, 1) := by decide +kernel
theorem dL_law_645 : decode cL_law 645 = .ok (.goto 2368, 3) := by decide +kernel
theorem dL_law_648 : decode cL_law 648 = .ok (.aload_n 1, 1) := by decide +kernel
theorem dL_law_649 : decode cL_law 649 = .ok (.invokevirtual 176, 3) := by decide +kernel
theorem dL_law_652 : decode cL_law 652 = .ok (.aload_n 2, 1) := by decide +kernel
theorem dL_law_653 : decode cL_law 653 = .ok (.invokevirtual 179, 3) := by decide +kernel
theorem dL_law_656 : decode cL_law 656 = .ok (.if_icmp .eq 2357, 3) := by decide +kernel
theorem dL_law_659 : decode cL_law 659 = .ok (.iconst 0, 1) := by decide +kernel
theorem dL_law_660 : decode cL_law 660 = .ok (.ireturn, 1) := by decide +kernel
theorem dL_law_661 : decode cL_law 661 = .ok (.aload_n 1, 1) := by decide +kernel
theorem dL_law_662 : decode cL_law 662 = .ok (.invokevirtual 180, 3) := by decide +kernel
theorem dL_law_665 : decode cL_law 665 = .ok (.aload_n 2, 1) := by decide +kernel
theorem dL_law_666 : decode cL_law 666 = .ok (.invokevirtual 183, 3) := by decide +kernel
theorem dL_law_669 : decode cL_law 669 = .ok (.if_icmp .eq 2344, 3) := by decide +kernel
theorem dL_law_672 : decode cL_law 672 = .ok (.iconst 0, 1) := by decide +kernel
theorem dL_law_673 : decode cL_law 673 = .ok (.ireturn, 1) := by decide +kernel
theorem dL_law_674 : decode cL_law 674 = .ok (.aload_n 1, 1) := by decide +kernel
theorem dL_law_675 : decode cL_law 675 = .ok (.aload_n 0, 1) := by decide +kernel
theorem dL_law_676 : decode cL_law 676 = .ok (.iload 5, 2) := by decide +kernel
theorem dL_law_678 : decode cL_law 678 = .ok (.iconst 1, 1) := by decide +kernel
theorem dL_law_679 : decode cL_law 679 = .ok (.iadd, 1) := by decide +kernel
theorem dL_law_680 : decode cL_law 680 = .ok (.iaload, 1) := by decide +kernel
theorem dL_law_681 : decode cL_law 681 = .ok (.aload_n 3, 1) := by decide +kernel
theorem dL_law_682 : decode cL_law 682 = .ok (.invokestatic 184, 3) := by decide +kernel
theorem dL_law_685 : decode cL_law 685 = .ok (.istore 6, 2) := by decide +kernel
theorem dL_law_687 : decode cL_law 687 = .ok (.aload_n 2, 1) := by decide +kernel
theorem dL_law_688 : decode cL_law 688 = .ok (.aload_n 0, 1) := by decide +kernel
theorem dL_law_689 : decode cL_law 689 = .ok (.iload 5, 2) := by decide +kernel
theorem dL_law_691 : decode cL_law 691 = .ok (.iconst 1, 1) := by decide +kernel
theorem dL_law_692 : decode cL_law 692 = .ok (.iadd, 1) := by decide +kernel
theorem dL_law_693 : decode cL_law 693 = .ok (.iaload, 1) := by decide +kernel
theorem dL_law_694 : decode cL_law 694 = .ok (.invokevirtual 186, 3) := by decide +kernel
theorem dL_law_697 : decode cL_law 697 = .ok (.istore 7, 2) := by decide +kernel
theorem dL_law_699 : decode cL_law 699 = .ok (.aload_n 2, 1) := by decide +kernel
theorem dL_law_700 : decode cL_law 700 = .ok (.invokevirtual 155, 3) := by decide +kernel
theorem dL_law_703 : decode cL_law 703 = .ok (.iload 6, 2) := by decide +kernel
theorem dL_law_705 : decode cL_law 705 = .ok (.if_icmp .eq 5, 3) := by decide +kernel
theorem dL_law_708 : decode cL_law 708 = .ok (.iconst 0, 1) := by decide +kernel
theorem dL_law_709 : decode cL_law 709 = .ok (.ireturn, 1) := by decide +kernel
theorem dL_law_710 : decode cL_law 710 = .ok (.iload 6, 2) := by decide +kernel
theorem dL_law_712 : decode cL_law 712 = .ok (.ifCond .ne 15, 3) := by decide +kernel
theorem dL_law_715 : decode cL_law 715 = .ok (.aload_n 3, 1) := by decide +kernel
theorem dL_law_716 : decode cL_law 716 = .ok (.iconst 0, 1) := by decide +kernel
theorem dL_law_717 : decode cL_law 717 = .ok (.laload, 1) := by decide +kernel
theorem dL_law_718 : decode cL_law 718 = .ok (.iload 7, 2) := by decide +kernel
theorem dL_law_720 : decode cL_law 720 = .ok (.i2l, 1) := by decide +kernel
theorem dL_law_721 : decode cL_law 721 = .ok (.lcmp, 1) := by decide +kernel
theorem dL_law_722 : decode cL_law 722 = .ok (.ifCond .eq 5, 3) := by decide +kernel
theorem dL_law_725 : decode cL_law 725 = .ok (.iconst 0, 1) := by decide +kernel
theorem dL_law_726 : decode cL_law 726 = .ok (.ireturn, 1) := by decide +kernel
theorem dL_law_727 : decode cL_law 727 = .ok (.goto 2286, 3) := by decide +kernel
theorem dL_law_730 : decode cL_law 730 = .ok (.aload_n 1, 1) := by decide +kernel
theorem dL_law_731 : decode cL_law 731 = .ok (.aload_n 0, 1) := by decide +kernel
theorem dL_law_732 : decode cL_law 732 = .ok (.iload 5, 2) := by decide +kernel
theorem dL_law_734 : decode cL_law 734 = .ok (.iconst 1, 1) := by decide +kernel
theorem dL_law_735 : decode cL_law 735 = .ok (.iadd, 1) := by decide +kernel
theorem dL_law_736 : decode cL_law 736 = .ok (.iaload, 1) := by decide +kernel
theorem dL_law_737 : decode cL_law 737 = .ok (.aload_n 3, 1) := by decide +kernel
theorem dL_law_738 : decode cL_law 738 = .ok (.invokestatic 187, 3) := by decide +kernel
theorem dL_law_741 : decode cL_law 741 = .ok (.istore 6, 2) := by decide +kernel
theorem dL_law_743 : decode cL_law 743 = .ok (.aload_n 2, 1) := by decide +kernel
theorem dL_law_744 : decode cL_law 744 = .ok (.aload_n 0, 1) := by decide +kernel
theorem dL_law_745 : decode cL_law 745 = .ok (.iload 5, 2) := by decide +kernel
theorem dL_law_747 : decode cL_law 747 = .ok (.iconst 1, 1) := by decide +kernel
theorem dL_law_748 : decode cL_law 748 = .ok (.iadd, 1) := by decide +kernel
theorem dL_law_749 : decode cL_law 749 = .ok (.iaload, 1) := by decide +kernel
theorem dL_law_750 : decode cL_law 750 = .ok (.invokevirtual 189, 3) := by decide +kernel
theorem dL_law_753 : decode cL_law 753 = .ok (.istore 7, 2) := by decide +kernel
theorem dL_law_755 : decode cL_law 755 = .ok (.aload_n 2, 1) := by decide +kernel
theorem dL_law_756 : decode cL_law 756 = .ok (.invokevirtual 155, 3) := by decide +kernel
theorem dL_law_759 : decode cL_law 759 = .ok (.iload 6, 2) := by decide +kernel
theorem dL_law_761 : decode cL_law 761 = .ok (.if_icmp .eq 5, 3) := by decide +kernel
theorem dL_law_764 : decode cL_law 764 = .ok (.iconst 0, 1) := by decide +kernel
theorem dL_law_765 : decode cL_law 765 = .ok (.ireturn, 1) := by decide +kernel
theorem dL_law_766 : decode cL_law 766 = .ok (.iload 6, 2) := by decide +kernel
theorem dL_law_768 : decode cL_law 768 = .ok (.ifCond .ne 15, 3) := by decide +kernel
theorem dL_law_771 : decode cL_law 771 = .ok (.aload_n 3, 1) := by decide +kernel
theorem dL_law_772 : decode cL_law 772 = .ok (.iconst 0, 1) := by decide +kernel
theorem dL_law_773 : decode cL_law 773 = .ok (.laload, 1) := by decide +kernel
theorem dL_law_774 : decode cL_law 774 = .ok (.iload 7, 2) := by decide +kernel
theorem dL_law_776 : decode cL_law 776 = .ok (.i2l, 1) := by decide +kernel
theorem dL_law_777 : decode cL_law 777 = .ok (.lcmp, 1) := by decide +kernel
theorem dL_law_778 : decode cL_law 778 = .ok (.ifCond .eq 5, 3) := by decide +kernel
theorem dL_law_781 : decode cL_law 781 = .ok (.iconst 0, 1) := by decide +kernel
theorem dL_law_782 : decode cL_law 782 = .ok (.ireturn, 1) := by decide +kernel
theorem dL_law_783 : decode cL_law 783 = .ok (.goto 2230, 3) := by decide +kernel
theorem dL_law_786 : decode cL_law 786 = .ok (.aload_n 1, 1) := by decide +kernel
theorem dL_law_787 : decode cL_law 787 = .ok (.aload_n 0, 1) := by decide +kernel
theorem dL_law_788 : decode cL_law 788 = .ok (.iload 5, 2) := by decide +kernel
theorem dL_law_790 : decode cL_law 790 = .ok (.iconst 1, 1) := by decide +kernel
theorem dL_law_791 : decode cL_law 791 = .ok (.iadd, 1) := by decide +kernel
theorem dL_law_792 : decode cL_law 792 = .ok (.iaload, 1) := by decide +kernel
theorem dL_law_793 : decode cL_law 793 = .ok (.aload_n 3, 1) := by decide +kernel
theorem dL_law_794 : decode cL_law 794 = .ok (.invokestatic 190, 3) := by decide +kernel
theorem dL_law_797 : decode cL_law 797 = .ok (.istore 6, 2) := by decide +kernel
theorem dL_law_799 : decode cL_law 799 = .ok (.aload_n 2, 1) := by decide +kernel
theorem dL_law_800 : decode cL_law 800 = .ok (.aload_n 0, 1) := by decide +kernel
theorem dL_law_801 : decode cL_law 801 = .ok (.iload 5, 2) := by decide +kernel
theorem dL_law_803 : decode cL_law 803 = .ok (.iconst 1, 1) := by decide +kernel
theorem dL_law_804 : decode cL_law 804 = .ok (.iadd, 1) := by decide +kernel
theorem dL_law_805 : decode cL_law 805 = .ok (.iaload, 1) := by decide +kernel
theorem dL_law_806 : decode cL_law 806 = .ok (.invokevirtual 192, 3) := by decide +kernel
theorem dL_law_809 : decode cL_law 809 = .ok (.istore 7, 2) := by decide +kernel
theorem dL_law_811 : decode cL_law 811 = .ok (.aload_n 2, 1) := by decide +kernel
theorem dL_law_812 : decode cL_law 812 = .ok (.invokevirtual 155, 3) := by decide +kernel
theorem dL_law_815 : decode cL_law 815 = .ok (.iload 6, 2) := by decide +kernel
theorem dL_law_817 : decode cL_law 817 = .ok (.if_icmp .eq 5, 3) := by decide +kernel
theorem dL_law_820 : decode cL_law 820 = .ok (.iconst 0, 1) := by decide +kernel
theorem dL_law_821 : decode cL_law 821 = .ok (.ireturn, 1) := by decide +kernel
theorem dL_law_822 : decode cL_law 822 = .ok (.iload 6, 2) := by decide +kernel
theorem dL_law_824 : decode cL_law 824 = .ok (.ifCond .ne 15, 3) := by decide +kernel
theorem dL_law_827 : decode cL_law 827 = .ok (.aload_n 3, 1) := by decide +kernel
theorem dL_law_828 : decode cL_law 828 = .ok (.iconst 0, 1) := by decide +kernel
theorem dL_law_829 : decode cL_law 829 = .ok (.laload, 1) := by decide +kernel
theorem dL_law_830 : decode cL_law 830 = .ok (.iload 7, 2) := by decide +kernel
theorem dL_law_832 : decode cL_law 832 = .ok (.i2l, 1) := by decide +kernel
theorem dL_law_833 : decode cL_law 833 = .ok (.lcmp, 1) := by decide +kernel
theorem dL_law_834 : decode cL_law 834 = .ok (.ifCond .eq 5, 3) := by decide +kernel
theorem dL_law_837 : decode cL_law 837 = .ok (.iconst 0, 1) := by decide +kernel
theorem dL_law_838 : decode cL_law 838 = .ok (.ireturn, 1) := by decide +kernel
theorem dL_law_839 : decode cL_law 839 = .ok (.goto 2174, 3) := by decide +kernel
theorem dL_law_842 : decode cL_law 842 = .ok (.aload_n 1, 1) := by decide +kernel
theorem dL_law_843 : decode cL_law 843 = .ok (.aload_n 0, 1) := by decide +kernel
theorem dL_law_844 : decode cL_law 844 = .ok (.iload 5, 2) := by decide +kernel
theorem dL_law_846 : decode cL_law 846 = .ok (.iconst 1, 1) := by decide +kernel
theorem dL_law_847 : decode cL_law 847 = .ok (.iadd, 1) := by decide +kernel
theorem dL_law_848 : decode cL_law 848 = .ok (.iaload, 1) := by decide +kernel
theorem dL_law_849 : decode cL_law 849 = .ok (.aload_n 0, 1) := by decide +kernel
theorem dL_law_850 : decode cL_law 850 = .ok (.iload 5, 2) := by decide +kernel
theorem dL_law_852 : decode cL_law 852 = .ok (.iconst 2, 1) := by decide +kernel
theorem dL_law_853 : decode cL_law 853 = .ok (.iadd, 1) := by decide +kernel
theorem dL_law_854 : decode cL_law 854 = .ok (.iaload, 1) := by decide +kernel
theorem dL_law_855 : decode cL_law 855 = .ok (.aload_n 3, 1) := by decide +kernel
theorem dL_law_856 : decode cL_law 856 = .ok (.invokestatic 193, 3) := by decide +kernel
theorem dL_law_859 : decode cL_law 859 = .ok (.istore 6, 2) := by decide +kernel
theorem dL_law_861 : decode cL_law 861 = .ok (.aload_n 2, 1) := by decide +kernel
theorem dL_law_862 : decode cL_law 862 = .ok (.aload_n 0, 1) := by decide +kernel
theorem dL_law_863 : decode cL_law 863 = .ok (.iload 5, 2) := by decide +kernel
theorem dL_law_865 : decode cL_law 865 = .ok (.iconst 1, 1) := by decide +kernel
theorem dL_law_866 : decode cL_law 866 = .ok (.iadd, 1) := by decide +kernel
theorem dL_law_867 : decode cL_law 867 = .ok (.iaload, 1) := by decide +kernel
theorem dL_law_868 : decode cL_law 868 = .ok (.aload_n 0, 1) := by decide +kernel
theorem dL_law_869 : decode cL_law 869 = .ok (.iload 5, 2) := by decide +kernel
theorem dL_law_871 : decode cL_law 871 = .ok (.iconst 2, 1) := by decide +kernel
theorem dL_law_872 : decode cL_law 872 = .ok (.iadd, 1) := by decide +kernel
theorem dL_law_873 : decode cL_law 873 = .ok (.iaload, 1) := by decide +kernel
theorem dL_law_874 : decode cL_law 874 = .ok (.invokevirtual 195, 3) := by decide +kernel
theorem dL_law_877 : decode cL_law 877 = .ok (.istore 7, 2) := by decide +kernel
theorem dL_law_879 : decode cL_law 879 = .ok (.aload_n 2, 1) := by decide +kernel
theorem dL_law_880 : decode cL_law 880 = .ok (.invokevirtual 155, 3) := by decide +kernel
theorem dL_law_883 : decode cL_law 883 = .ok (.iload 6, 2) := by decide +kernel
theorem dL_law_885 : decode cL_law 885 = .ok (.if_icmp .eq 5, 3) := by decide +kernel
theorem dL_law_888 : decode cL_law 888 = .ok (.iconst 0, 1) := by decide +kernel
theorem dL_law_889 : decode cL_law 889 = .ok (.ireturn, 1) := by decide +kernel
theorem dL_law_890 : decode cL_law 890 = .ok (.iload 6, 2) := by decide +kernel
theorem dL_law_892 : decode cL_law 892 = .ok (.ifCond .ne 15, 3) := by decide +kernel
theorem dL_law_895 : decode cL_law 895 = .ok (.aload_n 3, 1) := by decide +kernel
theorem dL_law_896 : decode cL_law 896 = .ok (.iconst 0, 1) := by decide +kernel
theorem dL_law_897 : decode cL_law 897 = .ok (.laload, 1) := by decide +kernel
theorem dL_law_898 : decode cL_law 898 = .ok (.iload 7, 2) := by decide +kernel
theorem dL_law_900 : decode cL_law 900 = .ok (.i2l, 1) := by decide +kernel
theorem dL_law_901 : decode cL_law 901 = .ok (.lcmp, 1) := by decide +kernel
theorem dL_law_902 : decode cL_law 902 = .ok (.ifCond .eq 5, 3) := by decide +kernel
theorem dL_law_905 : decode cL_law 905 = .ok (.iconst 0, 1) := by decide +kernel
theorem dL_law_906 : decode cL_law 906 = .ok (.ireturn, 1) := by decide +kernel
theorem dL_law_907 : decode cL_law 907 = .ok (.goto 2106, 3) := by decide +kernel
theorem dL_law_910 : decode cL_law 910 = .ok (.aload_n 1, 1) := by decide +kernel
theorem dL_law_911 : decode cL_law 911 = .ok (.aload_n 0, 1) := by decide +kernel
theorem dL_law_912 : decode cL_law 912 = .ok (.iload 5, 2) := by decide +kernel
theorem dL_law_914 : decode cL_law 914 = .ok (.iconst 1, 1) := by decide +kernel
theorem dL_law_915 : decode cL_law 915 = .ok (.iadd, 1) := by decide +kernel
theorem dL_law_916 : decode cL_law 916 = .ok (.iaload, 1) := by decide +kernel
theorem dL_law_917 : decode cL_law 917 = .ok (.aload_n 0, 1) := by decide +kernel
theorem dL_law_918 : decode cL_law 918 = .ok (.iload 5, 2) := by decide +kernel
theorem dL_law_920 : decode cL_law 920 = .ok (.iconst 2, 1) := by decide +kernel
theorem dL_law_921 : decode cL_law 921 = .ok (.iadd, 1) := by decide +kernel
theorem dL_law_922 : decode cL_law 922 = .ok (.iaload, 1) := by decide +kernel
theorem dL_law_923 : decode cL_law 923 = .ok (.aload_n 3, 1) := by decide +kernel
theorem dL_law_924 : decode cL_law 924 = .ok (.invokestatic 196, 3) := by decide +kernel
theorem dL_law_927 : decode cL_law 927 = .ok (.istore 6, 2) := by decide +kernel
theorem dL_law_929 : decode cL_law 929 = .ok (.aload_n 2, 1) := by decide +kernel
theorem dL_law_930 : decode cL_law 930 = .ok (.aload_n 0, 1) := by decide +kernel
theorem dL_law_931 : decode cL_law 931 = .ok (.iload 5, 2) := by decide +kernel
theorem dL_law_933 : decode cL_law 933 = .ok (.iconst 1, 1) := by decide +kernel
theorem dL_law_934 : decode cL_law 934 = .ok (.iadd, 1) := by decide +kernel
theorem dL_law_935 : decode cL_law 935 = .ok (.iaload, 1) := by decide +kernel
theorem dL_law_936 : decode cL_law 936 = .ok (.aload_n 0, 1) := by decide +kernel
theorem dL_law_937 : decode cL_law 937 = .ok (.iload 5, 2) := by decide +kernel
theorem dL_law_939 : decode cL_law 939 = .ok (.iconst 2, 1) := by decide +kernel
theorem dL_law_940 : decode cL_law 940 = .ok (.iadd, 1) := by decide +kernel
theorem dL_law_941 : decode cL_law 941 = .ok (.iaload, 1) := by decide +kernel
theorem dL_law_942 : decode cL_law 942 = .ok (.invokevirtual 198, 3) := by decide +kernel
theorem dL_law_945 : decode cL_law 945 = .ok (.istore 7, 2) := by decide +kernel
theorem dL_law_947 : decode cL_law 947 = .ok (.aload_n 2, 1) := by decide +kernel
theorem dL_law_948 : decode cL_law 948 = .ok (.invokevirtual 155, 3) := by decide +kernel
theorem dL_law_951 : decode cL_law 951 = .ok (.iload 6, 2) := by decide +kernel
theorem dL_law_953 : decode cL_law 953 = .ok (.if_icmp .eq 5, 3) := by decide +kernel
theorem dL_law_956 : decode cL_law 956 = .ok (.iconst 0, 1) := by decide +kernel
theorem dL_law_957 : decode cL_law 957 = .ok (.ireturn, 1) := by decide +kernel
theorem dL_law_958 : decode cL_law 958 = .ok (.iload 6, 2) := by decide +kernel
theorem dL_law_960 : decode cL_law 960 = .ok (.ifCond .ne 15, 3) := by decide +kernel
theorem dL_law_963 : decode cL_law 963 = .ok (.aload_n 3, 1) := by decide +kernel
theorem dL_law_964 : decode cL_law 964 = .ok (.iconst 0, 1) := by decide +kernel
theorem dL_law_965 : decode cL_law 965 = .ok (.laload, 1) := by decide +kernel
theorem dL_law_966 : decode cL_law 966 = .ok (.iload 7, 2) := by decide +kernel
theorem dL_law_968 : decode cL_law 968 = .ok (.i2l, 1) := by decide +kernel
theorem dL_law_969 : decode cL_law 969 = .ok (.lcmp, 1) := by decide +kernel
theorem dL_law_970 : decode cL_law 970 = .ok (.ifCond .eq 5, 3) := by decide +kernel
theorem dL_law_973 : decode cL_law 973 = .ok (.iconst 0, 1) := by decide +kernel
theorem dL_law_974 : decode cL_law 974 = .ok (.ireturn, 1) := by decide +kernel
theorem dL_law_975 : decode cL_law 975 = .ok (.goto 2038, 3) := by decide +kernel
theorem dL_law_978 : decode cL_law 978 = .ok (.aload_n 1, 1) := by decide +kernel
theorem dL_law_979 : decode cL_law 979 = .ok (.aload_n 0, 1) := by decide +kernel
theorem dL_law_980 : decode cL_law 980 = .ok (.iload 5, 2) := by decide +kernel
theorem dL_law_982 : decode cL_law 982 = .ok (.iconst 1, 1) := by decide +kernel
theorem dL_law_983 : decode cL_law 983 = .ok (.iadd, 1) := by decide +kernel
theorem dL_law_984 : decode cL_law 984 = .ok (.iaload, 1) := by decide +kernel
theorem dL_law_985 : decode cL_law 985 = .ok (.aload_n 0, 1) := by decide +kernel
theorem dL_law_986 : decode cL_law 986 = .ok (.iload 5, 2) := by decide +kernel
theorem dL_law_988 : decode cL_law 988 = .ok (.iconst 2, 1) := by decide +kernel
theorem dL_law_989 : decode cL_law 989 = .ok (.iadd, 1) := by decide +kernel
theorem dL_law_990 : decode cL_law 990 = .ok (.iaload, 1) := by decide +kernel
theorem dL_law_991 : decode cL_law 991 = .ok (.aload_n 3, 1) := by decide +kernel
theorem dL_law_992 : decode cL_law 992 = .ok (.invokestatic 199, 3) := by decide +kernel
theorem dL_law_995 : decode cL_law 995 = .ok (.istore 6, 2) := by decide +kernel
theorem dL_law_997 : decode cL_law 997 = .ok (.aload_n 2, 1) := by decide +kernel
theorem dL_law_998 : decode cL_law 998 = .ok (.aload_n 0, 1) := by decide +kernel
theorem dL_law_999 : decode cL_law 999 = .ok (.iload 5, 2) := by decide +kernel
theorem dL_law_1001 : decode cL_law 1001 = .ok (.iconst 1, 1) := by decide +kernel
theorem dL_law_1002 : decode cL_law 1002 = .ok (.iadd, 1) := by decide +kernel
theorem dL_law_1003 : decode cL_law 1003 = .ok (.iaload, 1) := by decide +kernel
theorem dL_law_1004 : decode cL_law 1004 = .ok (.aload_n 0, 1) := by decide +kernel
theorem dL_law_1005 : decode cL_law 1005 = .ok (.iload 5, 2) := by decide +kernel
theorem dL_law_1007 : decode cL_law 1007 = .ok (.iconst 2, 1) := by decide +kernel
theorem dL_law_1008 : decode cL_law 1008 = .ok (.iadd, 1) := by decide +kernel
theorem dL_law_1009 : decode cL_law 1009 = .ok (.iaload, 1) := by decide +kernel
theorem dL_law_1010 : decode cL_law 1010 = .ok (.invokevirtual 201, 3) := by decide +kernel
theorem dL_law_1013 : decode cL_law 1013 = .ok (.istore 7, 2) := by decide +kernel
theorem dL_law_1015 : decode cL_law 1015 = .ok (.aload_n 2, 1) := by decide +kernel
theorem dL_law_1016 : decode cL_law 1016 = .ok (.invokevirtual 155, 3) := by decide +kernel
theorem dL_law_1019 : decode cL_law 1019 = .ok (.iload 6, 2) := by decide +kernel
theorem dL_law_1021 : decode cL_law 1021 = .ok (.if_icmp .eq 5, 3) := by decide +kernel
theorem dL_law_1024 : decode cL_law 1024 = .ok (.iconst 0, 1) := by decide +kernel
theorem dL_law_1025 : decode cL_law 1025 = .ok (.ireturn, 1) := by decide +kernel
theorem dL_law_1026 : decode cL_law 1026 = .ok (.iload 6, 2) := by decide +kernel
theorem dL_law_1028 : decode cL_law 1028 = .ok (.ifCond .ne 15, 3) := by decide +kernel
theorem dL_law_1031 : decode cL_law 1031 = .ok (.aload_n 3, 1) := by decide +kernel
theorem dL_law_1032 : decode cL_law 1032 = .ok (.iconst 0, 1) := by decide +kernel
theorem dL_law_1033 : decode cL_law 1033 = .ok (.laload, 1) := by decide +kernel
theorem dL_law_1034 : decode cL_law 1034 = .ok (.iload 7, 2) := by decide +kernel
theorem dL_law_1036 : decode cL_law 1036 = .ok (.i2l, 1) := by decide +kernel
theorem dL_law_1037 : decode cL_law 1037 = .ok (.lcmp, 1) := by decide +kernel
theorem dL_law_1038 : decode cL_law 1038 = .ok (.ifCond .eq 5, 3) := by decide +kernel
theorem dL_law_1041 : decode cL_law 1041 = .ok (.iconst 0, 1) := by decide +kernel
theorem dL_law_1042 : decode cL_law 1042 = .ok (.ireturn, 1) := by decide +kernel
theorem dL_law_1043 : decode cL_law 1043 = .ok (.goto 1970, 3) := by decide +kernel
theorem dL_law_1046 : decode cL_law 1046 = .ok (.aload_n 1, 1) := by decide +kernel
theorem dL_law_1047 : decode cL_law 1047 = .ok (.invokevirtual 202, 3) := by decide +kernel
theorem dL_law_1050 : decode cL_law 1050 = .ok (.aload_n 2, 1) := by decide +kernel
theorem dL_law_1051 : decode cL_law 1051 = .ok (.invokevirtual 205, 3) := by decide +kernel
theorem dL_law_1054 : decode cL_law 1054 = .ok (.if_icmp .eq 1959, 3) := by decide +kernel
theorem dL_law_1057 : decode cL_law 1057 = .ok (.iconst 0, 1) := by decide +kernel
theorem dL_law_1058 : decode cL_law 1058 = .ok (.ireturn, 1) := by decide +kernel
theorem dL_law_1059 : decode cL_law 1059 = .ok (.aload_n 1, 1) := by decide +kernel
theorem dL_law_1060 : decode cL_law 1060 = .ok (.invokevirtual 206, 3) := by decide +kernel
theorem dL_law_1063 : decode cL_law 1063 = .ok (.aload_n 2, 1) := by decide +kernel
theorem dL_law_1064 : decode cL_law 1064 = .ok (.invokevirtual 209, 3) := by decide +kernel
theorem dL_law_1067 : decode cL_law 1067 = .ok (.if_icmp .eq 1946, 3) := by decide +kernel
theorem dL_law_1070 : decode cL_law 1070 = .ok (.iconst 0, 1) := by decide +kernel
theorem dL_law_1071 : decode cL_law 1071 = .ok (.ireturn, 1) := by decide +kernel
theorem dL_law_1072 : decode cL_law 1072 = .ok (.aload_n 1, 1) := by decide +kernel
theorem dL_law_1073 : decode cL_law 1073 = .ok (.invokevirtual 210, 3) := by decide +kernel
theorem dL_law_1076 : decode cL_law 1076 = .ok (.aload_n 2, 1) := by decide +kernel
theorem dL_law_1077 : decode cL_law 1077 = .ok (.invokevirtual 213, 3) := by decide +kernel
theorem dL_law_1080 : decode cL_law 1080 = .ok (.if_icmp .eq 1933, 3) := by decide +kernel
theorem dL_law_1083 : decode cL_law 1083 = .ok (.iconst 0, 1) := by decide +kernel
theorem dL_law_1084 : decode cL_law 1084 = .ok (.ireturn, 1) := by decide +kernel
theorem dL_law_1085 : decode cL_law 1085 = .ok (.aload_n 1, 1) := by decide +kernel
theorem dL_law_1086 : decode cL_law 1086 = .ok (.aload_n 0, 1) := by decide +kernel
theorem dL_law_1087 : decode cL_law 1087 = .ok (.iload 5, 2) := by decide +kernel
theorem dL_law_1089 : decode cL_law 1089 = .ok (.iconst 1, 1) := by decide +kernel
theorem dL_law_1090 : decode cL_law 1090 = .ok (.iadd, 1) := by decide +kernel
theorem dL_law_1091 : decode cL_law 1091 = .ok (.iaload, 1) := by decide +kernel
theorem dL_law_1092 : decode cL_law 1092 = .ok (.aload_n 3, 1) := by decide +kernel
theorem dL_law_1093 : decode cL_law 1093 = .ok (.invokestatic 214, 3) := by decide +kernel
theorem dL_law_1096 : decode cL_law 1096 = .ok (.istore 6, 2) := by decide +kernel
theorem dL_law_1098 : decode cL_law 1098 = .ok (.aload_n 2, 1) := by decide +kernel
theorem dL_law_1099 : decode cL_law 1099 = .ok (.aload_n 0, 1) := by decide +kernel
theorem dL_law_1100 : decode cL_law 1100 = .ok (.iload 5, 2) := by decide +kernel
theorem dL_law_1102 : decode cL_law 1102 = .ok (.iconst 1, 1) := by decide +kernel
theorem dL_law_1103 : decode cL_law 1103 = .ok (.iadd, 1) := by decide +kernel
theorem dL_law_1104 : decode cL_law 1104 = .ok (.iaload, 1) := by decide +kernel
theorem dL_law_1105 : decode cL_law 1105 = .ok (.invokevirtual 216, 3) := by decide +kernel
theorem dL_law_1108 : decode cL_law 1108 = .ok (.istore 7, 2) := by decide +kernel
theorem dL_law_1110 : decode cL_law 1110 = .ok (.aload_n 2, 1) := by decide +kernel
theorem dL_law_1111 : decode cL_law 1111 = .ok (.invokevirtual 155, 3) := by decide +kernel
theorem dL_law_1114 : decode cL_law 1114 = .ok (.iload 6, 2) := by decide +kernel
theorem dL_law_1116 : decode cL_law 1116 = .ok (.if_icmp .eq 5, 3) := by decide +kernel
theorem dL_law_1119 : decode cL_law 1119 = .ok (.iconst 0, 1) := by decide +kernel
theorem dL_law_1120 : decode cL_law 1120 = .ok (.ireturn, 1) := by decide +kernel
theorem dL_law_1121 : decode cL_law 1121 = .ok (.iload 6, 2) := by decide +kernel
theorem dL_law_1123 : decode cL_law 1123 = .ok (.ifCond .ne 15, 3) := by decide +kernel
theorem dL_law_1126 : decode cL_law 1126 = .ok (.aload_n 3, 1) := by decide +kernel
theorem dL_law_1127 : decode cL_law 1127 = .ok (.iconst 0, 1) := by decide +kernel
theorem dL_law_1128 : decode cL_law 1128 = .ok (.laload, 1) := by decide +kernel
theorem dL_law_1129 : decode cL_law 1129 = .ok (.iload 7, 2) := by decide +kernel
theorem dL_law_1131 : decode cL_law 1131 = .ok (.i2l, 1) := by decide +kernel
theorem dL_law_1132 : decode cL_law 1132 = .ok (.lcmp, 1) := by decide +kernel
theorem dL_law_1133 : decode cL_law 1133 = .ok (.ifCond .eq 5, 3) := by decide +kernel
theorem dL_law_1136 : decode cL_law 1136 = .ok (.iconst 0, 1) := by decide +kernel
theorem dL_law_1137 : decode cL_law 1137 = .ok (.ireturn, 1) := by decide +kernel
theorem dL_law_1138 : decode cL_law 1138 = .ok (.goto 1875, 3) := by decide +kernel
theorem dL_law_1141 : decode cL_law 1141 = .ok (.aload_n 1, 1) := by decide +kernel
theorem dL_law_1142 : decode cL_law 1142 = .ok (.aload_n 0, 1) := by decide +kernel
theorem dL_law_1143 : decode cL_law 1143 = .ok (.iload 5, 2) := by decide +kernel
theorem dL_law_1145 : decode cL_law 1145 = .ok (.iconst 1, 1) := by decide +kernel
theorem dL_law_1146 : decode cL_law 1146 = .ok (.iadd, 1) := by decide +kernel
theorem dL_law_1147 : decode cL_law 1147 = .ok (.iaload, 1) := by decide +kernel
theorem dL_law_1148 : decode cL_law 1148 = .ok (.aload_n 0, 1) := by decide +kernel
theorem dL_law_1149 : decode cL_law 1149 = .ok (.iload 5, 2) := by decide +kernel
theorem dL_law_1151 : decode cL_law 1151 = .ok (.iconst 2, 1) := by decide +kernel
theorem dL_law_1152 : decode cL_law 1152 = .ok (.iadd, 1) := by decide +kernel
theorem dL_law_1153 : decode cL_law 1153 = .ok (.iaload, 1) := by decide +kernel
theorem dL_law_1154 : decode cL_law 1154 = .ok (.aload_n 3, 1) := by decide +kernel
theorem dL_law_1155 : decode cL_law 1155 = .ok (.invokestatic 217, 3) := by decide +kernel
theorem dL_law_1158 : decode cL_law 1158 = .ok (.istore 6, 2) := by decide +kernel
theorem dL_law_1160 : decode cL_law 1160 = .ok (.aload_n 2, 1) := by decide +kernel
theorem dL_law_1161 : decode cL_law 1161 = .ok (.aload_n 0, 1) := by decide +kernel
theorem dL_law_1162 : decode cL_law 1162 = .ok (.iload 5, 2) := by decide +kernel
theorem dL_law_1164 : decode cL_law 1164 = .ok (.iconst 1, 1) := by decide +kernel
theorem dL_law_1165 : decode cL_law 1165 = .ok (.iadd, 1) := by decide +kernel
theorem dL_law_1166 : decode cL_law 1166 = .ok (.iaload, 1) := by decide +kernel
theorem dL_law_1167 : decode cL_law 1167 = .ok (.aload_n 0, 1) := by decide +kernel
theorem dL_law_1168 : decode cL_law 1168 = .ok (.iload 5, 2) := by decide +kernel
theorem dL_law_1170 : decode cL_law 1170 = .ok (.iconst 2, 1) := by decide +kernel
theorem dL_law_1171 : decode cL_law 1171 = .ok (.iadd, 1) := by decide +kernel
theorem dL_law_1172 : decode cL_law 1172 = .ok (.iaload, 1) := by decide +kernel
theorem dL_law_1173 : decode cL_law 1173 = .ok (.invokevirtual 219, 3) := by decide +kernel
theorem dL_law_1176 : decode cL_law 1176 = .ok (.istore 7, 2) := by decide +kernel
theorem dL_law_1178 : decode cL_law 1178 = .ok (.aload_n 2, 1) := by decide +kernel
theorem dL_law_1179 : decode cL_law 1179 = .ok (.invokevirtual 155, 3) := by decide +kernel
theorem dL_law_1182 : decode cL_law 1182 = .ok (.iload 6, 2) := by decide +kernel
theorem dL_law_1184 : decode cL_law 1184 = .ok (.if_icmp .eq 5, 3) := by decide +kernel
theorem dL_law_1187 : decode cL_law 1187 = .ok (.iconst 0, 1) := by decide +kernel
theorem dL_law_1188 : decode cL_law 1188 = .ok (.ireturn, 1) := by decide +kernel
theorem dL_law_1189 : decode cL_law 1189 = .ok (.iload 6, 2) := by decide +kernel
theorem dL_law_1191 : decode cL_law 1191 = .ok (.ifCond .ne 15, 3) := by decide +kernel
theorem dL_law_1194 : decode cL_law 1194 = .ok (.aload_n 3, 1) := by decide +kernel
theorem dL_law_1195 : decode cL_law 1195 = .ok (.iconst 0, 1) := by decide +kernel
theorem dL_law_1196 : decode cL_law 1196 = .ok (.laload, 1) := by decide +kernel
theorem dL_law_1197 : decode cL_law 1197 = .ok (.iload 7, 2) := by decide +kernel
theorem dL_law_1199 : decode cL_law 1199 = .ok (.i2l, 1) := by decide +kernel
theorem dL_law_1200 : decode cL_law 1200 = .ok (.lcmp, 1) := by decide +kernel
theorem dL_law_1201 : decode cL_law 1201 = .ok (.ifCond .eq 5, 3) := by decide +kernel
theorem dL_law_1204 : decode cL_law 1204 = .ok (.iconst 0, 1) := by decide +kernel
theorem dL_law_1205 : decode cL_law 1205 = .ok (.ireturn, 1) := by decide +kernel
theorem dL_law_1206 : decode cL_law 1206 = .ok (.goto 1807, 3) := by decide +kernel
theorem dL_law_1209 : decode cL_law 1209 = .ok (.aload_n 1, 1) := by decide +kernel
theorem dL_law_1210 : decode cL_law 1210 = .ok (.aload_n 0, 1) := by decide +kernel
theorem dL_law_1211 : decode cL_law 1211 = .ok (.iload 5, 2) := by decide +kernel
theorem dL_law_1213 : decode cL_law 1213 = .ok (.iconst 1, 1) := by decide +kernel
theorem dL_law_1214 : decode cL_law 1214 = .ok (.iadd, 1) := by decide +kernel
theorem dL_law_1215 : decode cL_law 1215 = .ok (.iaload, 1) := by decide +kernel
theorem dL_law_1216 : decode cL_law 1216 = .ok (.aload_n 0, 1) := by decide +kernel
theorem dL_law_1217 : decode cL_law 1217 = .ok (.iload 5, 2) := by decide +kernel
theorem dL_law_1219 : decode cL_law 1219 = .ok (.iconst 2, 1) := by decide +kernel
theorem dL_law_1220 : decode cL_law 1220 = .ok (.iadd, 1) := by decide +kernel
theorem dL_law_1221 : decode cL_law 1221 = .ok (.iaload, 1) := by decide +kernel
theorem dL_law_1222 : decode cL_law 1222 = .ok (.aload_n 3, 1) := by decide +kernel
theorem dL_law_1223 : decode cL_law 1223 = .ok (.invokestatic 220, 3) := by decide +kernel
theorem dL_law_1226 : decode cL_law 1226 = .ok (.istore 6, 2) := by decide +kernel
theorem dL_law_1228 : decode cL_law 1228 = .ok (.aload_n 2, 1) := by decide +kernel
theorem dL_law_1229 : decode cL_law 1229 = .ok (.aload_n 0, 1) := by decide +kernel
theorem dL_law_1230 : decode cL_law 1230 = .ok (.iload 5, 2) := by decide +kernel
theorem dL_law_1232 : decode cL_law 1232 = .ok (.iconst 1, 1) := by decide +kernel
theorem dL_law_1233 : decode cL_law 1233 = .ok (.iadd, 1) := by decide +kernel
theorem dL_law_1234 : decode cL_law 1234 = .ok (.iaload, 1) := by decide +kernel
theorem dL_law_1235 : decode cL_law 1235 = .ok (.aload_n 0, 1) := by decide +kernel
theorem dL_law_1236 : decode cL_law 1236 = .ok (.iload 5, 2) := by decide +kernel
theorem dL_law_1238 : decode cL_law 1238 = .ok (.iconst 2, 1) := by decide +kernel
theorem dL_law_1239 : decode cL_law 1239 = .ok (.iadd, 1) := by decide +kernel
theorem dL_law_1240 : decode cL_law 1240 = .ok (.iaload, 1) := by decide +kernel
theorem dL_law_1241 : decode cL_law 1241 = .ok (.invokevirtual 222, 3) := by decide +kernel
theorem dL_law_1244 : decode cL_law 1244 = .ok (.istore 7, 2) := by decide +kernel
theorem dL_law_1246 : decode cL_law 1246 = .ok (.aload_n 2, 1) := by decide +kernel
theorem dL_law_1247 : decode cL_law 1247 = .ok (.invokevirtual 155, 3) := by decide +kernel
theorem dL_law_1250 : decode cL_law 1250 = .ok (.iload 6, 2) := by decide +kernel
theorem dL_law_1252 : decode cL_law 1252 = .ok (.if_icmp .eq 5, 3) := by decide +kernel
theorem dL_law_1255 : decode cL_law 1255 = .ok (.iconst 0, 1) := by decide +kernel
theorem dL_law_1256 : decode cL_law 1256 = .ok (.ireturn, 1) := by decide +kernel
theorem dL_law_1257 : decode cL_law 1257 = .ok (.iload 6, 2) := by decide +kernel
theorem dL_law_1259 : decode cL_law 1259 = .ok (.ifCond .ne 22, 3) := by decide +kernel
theorem dL_law_1262 : decode cL_law 1262 = .ok (.aload_n 3, 1) := by decide +kernel
theorem dL_law_1263 : decode cL_law 1263 = .ok (.iconst 0, 1) := by decide +kernel
theorem dL_law_1264 : decode cL_law 1264 = .ok (.laload, 1) := by decide +kernel
theorem dL_law_1265 : decode cL_law 1265 = .ok (.iload 7, 2) := by decide +kernel
theorem dL_law_1267 : decode cL_law 1267 = .ok (.ifCond .eq 7, 3) := by decide +kernel
theorem dL_law_1270 : decode cL_law 1270 = .ok (.lconst 1, 1) := by decide +kernel
theorem dL_law_1271 : decode cL_law 1271 = .ok (.goto 4, 3) := by decide +kernel
theorem dL_law_1274 : decode cL_law 1274 = .ok (.lconst 0, 1) := by decide +kernel
theorem dL_law_1275 : decode cL_law 1275 = .ok (.lcmp, 1) := by decide +kernel
theorem dL_law_1276 : decode cL_law 1276 = .ok (.ifCond .eq 5, 3) := by decide +kernel
theorem dL_law_1279 : decode cL_law 1279 = .ok (.iconst 0, 1) := by decide +kernel
theorem dL_law_1280 : decode cL_law 1280 = .ok (.ireturn, 1) := by decide +kernel
theorem dL_law_1281 : decode cL_law 1281 = .ok (.goto 1732, 3) := by decide +kernel
theorem dL_law_1284 : decode cL_law 1284 = .ok (.aload_n 1, 1) := by decide +kernel
theorem dL_law_1285 : decode cL_law 1285 = .ok (.aload_n 0, 1) := by decide +kernel
theorem dL_law_1286 : decode cL_law 1286 = .ok (.iload 5, 2) := by decide +kernel
theorem dL_law_1288 : decode cL_law 1288 = .ok (.iconst 1, 1) := by decide +kernel
theorem dL_law_1289 : decode cL_law 1289 = .ok (.iadd, 1) := by decide +kernel
theorem dL_law_1290 : decode cL_law 1290 = .ok (.iaload, 1) := by decide +kernel
theorem dL_law_1291 : decode cL_law 1291 = .ok (.aload_n 0, 1) := by decide +kernel
theorem dL_law_1292 : decode cL_law 1292 = .ok (.iload 5, 2) := by decide +kernel
theorem dL_law_1294 : decode cL_law 1294 = .ok (.iconst 2, 1) := by decide +kernel
theorem dL_law_1295 : decode cL_law 1295 = .ok (.iadd, 1) := by decide +kernel
theorem dL_law_1296 : decode cL_law 1296 = .ok (.iaload, 1) := by decide +kernel
theorem dL_law_1297 : decode cL_law 1297 = .ok (.aload_n 3, 1) := by decide +kernel
theorem dL_law_1298 : decode cL_law 1298 = .ok (.invokestatic 223, 3) := by decide +kernel
theorem dL_law_1301 : decode cL_law 1301 = .ok (.istore 6, 2) := by decide +kernel
theorem dL_law_1303 : decode cL_law 1303 = .ok (.aload_n 2, 1) := by decide +kernel
theorem dL_law_1304 : decode cL_law 1304 = .ok (.aload_n 0, 1) := by decide +kernel
theorem dL_law_1305 : decode cL_law 1305 = .ok (.iload 5, 2) := by decide +kernel
theorem dL_law_1307 : decode cL_law 1307 = .ok (.iconst 1, 1) := by decide +kernel
theorem dL_law_1308 : decode cL_law 1308 = .ok (.iadd, 1) := by decide +kernel
theorem dL_law_1309 : decode cL_law 1309 = .ok (.iaload, 1) := by decide +kernel
theorem dL_law_1310 : decode cL_law 1310 = .ok (.aload_n 0, 1) := by decide +kernel
theorem dL_law_1311 : decode cL_law 1311 = .ok (.iload 5, 2) := by decide +kernel
theorem dL_law_1313 : decode cL_law 1313 = .ok (.iconst 2, 1) := by decide +kernel
theorem dL_law_1314 : decode cL_law 1314 = .ok (.iadd, 1) := by decide +kernel
theorem dL_law_1315 : decode cL_law 1315 = .ok (.iaload, 1) := by decide +kernel
theorem dL_law_1316 : decode cL_law 1316 = .ok (.invokevirtual 225, 3) := by decide +kernel
theorem dL_law_1319 : decode cL_law 1319 = .ok (.istore 7, 2) := by decide +kernel
theorem dL_law_1321 : decode cL_law 1321 = .ok (.aload_n 2, 1) := by decide +kernel
theorem dL_law_1322 : decode cL_law 1322 = .ok (.invokevirtual 155, 3) := by decide +kernel
theorem dL_law_1325 : decode cL_law 1325 = .ok (.iload 6, 2) := by decide +kernel
theorem dL_law_1327 : decode cL_law 1327 = .ok (.if_icmp .eq 5, 3) := by decide +kernel
theorem dL_law_1330 : decode cL_law 1330 = .ok (.iconst 0, 1) := by decide +kernel
theorem dL_law_1331 : decode cL_law 1331 = .ok (.ireturn, 1) := by decide +kernel
theorem dL_law_1332 : decode cL_law 1332 = .ok (.iload 6, 2) := by decide +kernel
theorem dL_law_1334 : decode cL_law 1334 = .ok (.ifCond .ne 22, 3) := by decide +kernel
theorem dL_law_1337 : decode cL_law 1337 = .ok (.aload_n 3, 1) := by decide +kernel
theorem dL_law_1338 : decode cL_law 1338 = .ok (.iconst 0, 1) := by decide +kernel
theorem dL_law_1339 : decode cL_law 1339 = .ok (.laload, 1) := by decide +kernel
theorem dL_law_1340 : decode cL_law 1340 = .ok (.iload 7, 2) := by decide +kernel
theorem dL_law_1342 : decode cL_law 1342 = .ok (.ifCond .eq 7, 3) := by decide +kernel
theorem dL_law_1345 : decode cL_law 1345 = .ok (.lconst 1, 1) := by decide +kernel
theorem dL_law_1346 : decode cL_law 1346 = .ok (.goto 4, 3) := by decide +kernel
theorem dL_law_1349 : decode cL_law 1349 = .ok (.lconst 0, 1) := by decide +kernel
theorem dL_law_1350 : decode cL_law 1350 = .ok (.lcmp, 1) := by decide +kernel
theorem dL_law_1351 : decode cL_law 1351 = .ok (.ifCond .eq 5, 3) := by decide +kernel
theorem dL_law_1354 : decode cL_law 1354 = .ok (.iconst 0, 1) := by decide +kernel
theorem dL_law_1355 : decode cL_law 1355 = .ok (.ireturn, 1) := by decide +kernel
theorem dL_law_1356 : decode cL_law 1356 = .ok (.goto 1657, 3) := by decide +kernel
theorem dL_law_1359 : decode cL_law 1359 = .ok (.aload_n 1, 1) := by decide +kernel
theorem dL_law_1360 : decode cL_law 1360 = .ok (.aload_n 0, 1) := by decide +kernel
theorem dL_law_1361 : decode cL_law 1361 = .ok (.iload 5, 2) := by decide +kernel
theorem dL_law_1363 : decode cL_law 1363 = .ok (.iconst 1, 1) := by decide +kernel
theorem dL_law_1364 : decode cL_law 1364 = .ok (.iadd, 1) := by decide +kernel
theorem dL_law_1365 : decode cL_law 1365 = .ok (.iaload, 1) := by decide +kernel
theorem dL_law_1366 : decode cL_law 1366 = .ok (.aload_n 3, 1) := by decide +kernel
theorem dL_law_1367 : decode cL_law 1367 = .ok (.invokestatic 226, 3) := by decide +kernel
theorem dL_law_1370 : decode cL_law 1370 = .ok (.istore 6, 2) := by decide +kernel
theorem dL_law_1372 : decode cL_law 1372 = .ok (.aload_n 2, 1) := by decide +kernel
theorem dL_law_1373 : decode cL_law 1373 = .ok (.aload_n 0, 1) := by decide +kernel
theorem dL_law_1374 : decode cL_law 1374 = .ok (.iload 5, 2) := by decide +kernel
theorem dL_law_1376 : decode cL_law 1376 = .ok (.iconst 1, 1) := by decide +kernel
theorem dL_law_1377 : decode cL_law 1377 = .ok (.iadd, 1) := by decide +kernel
theorem dL_law_1378 : decode cL_law 1378 = .ok (.iaload, 1) := by decide +kernel
theorem dL_law_1379 : decode cL_law 1379 = .ok (.invokevirtual 228, 3) := by decide +kernel
theorem dL_law_1382 : decode cL_law 1382 = .ok (.istore 7, 2) := by decide +kernel
theorem dL_law_1384 : decode cL_law 1384 = .ok (.aload_n 2, 1) := by decide +kernel
theorem dL_law_1385 : decode cL_law 1385 = .ok (.invokevirtual 155, 3) := by decide +kernel
theorem dL_law_1388 : decode cL_law 1388 = .ok (.iload 6, 2) := by decide +kernel
theorem dL_law_1390 : decode cL_law 1390 = .ok (.if_icmp .eq 5, 3) := by decide +kernel
theorem dL_law_1393 : decode cL_law 1393 = .ok (.iconst 0, 1) := by decide +kernel
theorem dL_law_1394 : decode cL_law 1394 = .ok (.ireturn, 1) := by decide +kernel
theorem dL_law_1395 : decode cL_law 1395 = .ok (.iload 6, 2) := by decide +kernel
theorem dL_law_1397 : decode cL_law 1397 = .ok (.ifCond .ne 15, 3) := by decide +kernel
theorem dL_law_1400 : decode cL_law 1400 = .ok (.aload_n 3, 1) := by decide +kernel
theorem dL_law_1401 : decode cL_law 1401 = .ok (.iconst 0, 1) := by decide +kernel
theorem dL_law_1402 : decode cL_law 1402 = .ok (.laload, 1) := by decide +kernel
theorem dL_law_1403 : decode cL_law 1403 = .ok (.iload 7, 2) := by decide +kernel
theorem dL_law_1405 : decode cL_law 1405 = .ok (.i2l, 1) := by decide +kernel
theorem dL_law_1406 : decode cL_law 1406 = .ok (.lcmp, 1) := by decide +kernel
theorem dL_law_1407 : decode cL_law 1407 = .ok (.ifCond .eq 5, 3) := by decide +kernel
theorem dL_law_1410 : decode cL_law 1410 = .ok (.iconst 0, 1) := by decide +kernel
theorem dL_law_1411 : decode cL_law 1411 = .ok (.ireturn, 1) := by decide +kernel
theorem dL_law_1412 : decode cL_law 1412 = .ok (.goto 1601, 3) := by decide +kernel
theorem dL_law_1415 : decode cL_law 1415 = .ok (.aload_n 1, 1) := by decide +kernel
theorem dL_law_1416 : decode cL_law 1416 = .ok (.aload_n 0, 1) := by decide +kernel
theorem dL_law_1417 : decode cL_law 1417 = .ok (.iload 5, 2) := by decide +kernel
theorem dL_law_1419 : decode cL_law 1419 = .ok (.iconst 1, 1) := by decide +kernel
theorem dL_law_1420 : decode cL_law 1420 = .ok (.iadd, 1) := by decide +kernel
theorem dL_law_1421 : decode cL_law 1421 = .ok (.iaload, 1) := by decide +kernel
theorem dL_law_1422 : decode cL_law 1422 = .ok (.aload_n 3, 1) := by decide +kernel
theorem dL_law_1423 : decode cL_law 1423 = .ok (.invokestatic 229, 3) := by decide +kernel
theorem dL_law_1426 : decode cL_law 1426 = .ok (.istore 6, 2) := by decide +kernel
theorem dL_law_1428 : decode cL_law 1428 = .ok (.aload_n 2, 1) := by decide +kernel
theorem dL_law_1429 : decode cL_law 1429 = .ok (.aload_n 0, 1) := by decide +kernel
theorem dL_law_1430 : decode cL_law 1430 = .ok (.iload 5, 2) := by decide +kernel
theorem dL_law_1432 : decode cL_law 1432 = .ok (.iconst 1, 1) := by decide +kernel
theorem dL_law_1433 : decode cL_law 1433 = .ok (.iadd, 1) := by decide +kernel
theorem dL_law_1434 : decode cL_law 1434 = .ok (.iaload, 1) := by decide +kernel
theorem dL_law_1435 : decode cL_law 1435 = .ok (.invokevirtual 231, 3) := by decide +kernel
theorem dL_law_1438 : decode cL_law 1438 = .ok (.istore 7, 2) := by decide +kernel
theorem dL_law_1440 : decode cL_law 1440 = .ok (.aload_n 2, 1) := by decide +kernel
theorem dL_law_1441 : decode cL_law 1441 = .ok (.invokevirtual 155, 3) := by decide +kernel
theorem dL_law_1444 : decode cL_law 1444 = .ok (.iload 6, 2) := by decide +kernel
theorem dL_law_1446 : decode cL_law 1446 = .ok (.if_icmp .eq 5, 3) := by decide +kernel
theorem dL_law_1449 : decode cL_law 1449 = .ok (.iconst 0, 1) := by decide +kernel
theorem dL_law_1450 : decode cL_law 1450 = .ok (.ireturn, 1) := by decide +kernel
theorem dL_law_1451 : decode cL_law 1451 = .ok (.iload 6, 2) := by decide +kernel
theorem dL_law_1453 : decode cL_law 1453 = .ok (.ifCond .ne 15, 3) := by decide +kernel
theorem dL_law_1456 : decode cL_law 1456 = .ok (.aload_n 3, 1) := by decide +kernel
theorem dL_law_1457 : decode cL_law 1457 = .ok (.iconst 0, 1) := by decide +kernel
theorem dL_law_1458 : decode cL_law 1458 = .ok (.laload, 1) := by decide +kernel
theorem dL_law_1459 : decode cL_law 1459 = .ok (.iload 7, 2) := by decide +kernel
theorem dL_law_1461 : decode cL_law 1461 = .ok (.i2l, 1) := by decide +kernel
theorem dL_law_1462 : decode cL_law 1462 = .ok (.lcmp, 1) := by decide +kernel
theorem dL_law_1463 : decode cL_law 1463 = .ok (.ifCond .eq 5, 3) := by decide +kernel
theorem dL_law_1466 : decode cL_law 1466 = .ok (.iconst 0, 1) := by decide +kernel
theorem dL_law_1467 : decode cL_law 1467 = .ok (.ireturn, 1) := by decide +kernel
theorem dL_law_1468 : decode cL_law 1468 = .ok (.goto 1545, 3) := by decide +kernel
theorem dL_law_1471 : decode cL_law 1471 = .ok (.aload_n 1, 1) := by decide +kernel
theorem dL_law_1472 : decode cL_law 1472 = .ok (.aload_n 0, 1) := by decide +kernel
theorem dL_law_1473 : decode cL_law 1473 = .ok (.iload 5, 2) := by decide +kernel
theorem dL_law_1475 : decode cL_law 1475 = .ok (.iconst 1, 1) := by decide +kernel
theorem dL_law_1476 : decode cL_law 1476 = .ok (.iadd, 1) := by decide +kernel
theorem dL_law_1477 : decode cL_law 1477 = .ok (.iaload, 1) := by decide +kernel
theorem dL_law_1478 : decode cL_law 1478 = .ok (.aload_n 0, 1) := by decide +kernel
theorem dL_law_1479 : decode cL_law 1479 = .ok (.iload 5, 2) := by decide +kernel
theorem dL_law_1481 : decode cL_law 1481 = .ok (.iconst 2, 1) := by decide +kernel
theorem dL_law_1482 : decode cL_law 1482 = .ok (.iadd, 1) := by decide +kernel
theorem dL_law_1483 : decode cL_law 1483 = .ok (.iaload, 1) := by decide +kernel
theorem dL_law_1484 : decode cL_law 1484 = .ok (.aload_n 3, 1) := by decide +kernel
theorem dL_law_1485 : decode cL_law 1485 = .ok (.invokestatic 232, 3) := by decide +kernel
theorem dL_law_1488 : decode cL_law 1488 = .ok (.istore 6, 2) := by decide +kernel
theorem dL_law_1490 : decode cL_law 1490 = .ok (.aload_n 2, 1) := by decide +kernel
theorem dL_law_1491 : decode cL_law 1491 = .ok (.aload_n 0, 1) := by decide +kernel
theorem dL_law_1492 : decode cL_law 1492 = .ok (.iload 5, 2) := by decide +kernel
theorem dL_law_1494 : decode cL_law 1494 = .ok (.iconst 1, 1) := by decide +kernel
theorem dL_law_1495 : decode cL_law 1495 = .ok (.iadd, 1) := by decide +kernel
theorem dL_law_1496 : decode cL_law 1496 = .ok (.iaload, 1) := by decide +kernel
theorem dL_law_1497 : decode cL_law 1497 = .ok (.aload_n 0, 1) := by decide +kernel
theorem dL_law_1498 : decode cL_law 1498 = .ok (.iload 5, 2) := by decide +kernel
theorem dL_law_1500 : decode cL_law 1500 = .ok (.iconst 2, 1) := by decide +kernel
theorem dL_law_1501 : decode cL_law 1501 = .ok (.iadd, 1) := by decide +kernel
theorem dL_law_1502 : decode cL_law 1502 = .ok (.iaload, 1) := by decide +kernel
theorem dL_law_1503 : decode cL_law 1503 = .ok (.invokevirtual 234, 3) := by decide +kernel
theorem dL_law_1506 : decode cL_law 1506 = .ok (.istore 7, 2) := by decide +kernel
theorem dL_law_1508 : decode cL_law 1508 = .ok (.aload_n 2, 1) := by decide +kernel
theorem dL_law_1509 : decode cL_law 1509 = .ok (.invokevirtual 155, 3) := by decide +kernel
theorem dL_law_1512 : decode cL_law 1512 = .ok (.iload 6, 2) := by decide +kernel
theorem dL_law_1514 : decode cL_law 1514 = .ok (.if_icmp .eq 5, 3) := by decide +kernel
theorem dL_law_1517 : decode cL_law 1517 = .ok (.iconst 0, 1) := by decide +kernel
theorem dL_law_1518 : decode cL_law 1518 = .ok (.ireturn, 1) := by decide +kernel
theorem dL_law_1519 : decode cL_law 1519 = .ok (.iload 6, 2) := by decide +kernel
theorem dL_law_1521 : decode cL_law 1521 = .ok (.ifCond .ne 15, 3) := by decide +kernel
theorem dL_law_1524 : decode cL_law 1524 = .ok (.aload_n 3, 1) := by decide +kernel
theorem dL_law_1525 : decode cL_law 1525 = .ok (.iconst 0, 1) := by decide +kernel
theorem dL_law_1526 : decode cL_law 1526 = .ok (.laload, 1) := by decide +kernel
theorem dL_law_1527 : decode cL_law 1527 = .ok (.iload 7, 2) := by decide +kernel
theorem dL_law_1529 : decode cL_law 1529 = .ok (.i2l, 1) := by decide +kernel
theorem dL_law_1530 : decode cL_law 1530 = .ok (.lcmp, 1) := by decide +kernel
theorem dL_law_1531 : decode cL_law 1531 = .ok (.ifCond .eq 5, 3) := by decide +kernel
theorem dL_law_1534 : decode cL_law 1534 = .ok (.iconst 0, 1) := by decide +kernel
theorem dL_law_1535 : decode cL_law 1535 = .ok (.ireturn, 1) := by decide +kernel
theorem dL_law_1536 : decode cL_law 1536 = .ok (.goto 1477, 3) := by decide +kernel
theorem dL_law_1539 : decode cL_law 1539 = .ok (.aload_n 1, 1) := by decide +kernel
theorem dL_law_1540 : decode cL_law 1540 = .ok (.aload_n 0, 1) := by decide +kernel
theorem dL_law_1541 : decode cL_law 1541 = .ok (.iload 5, 2) := by decide +kernel
theorem dL_law_1543 : decode cL_law 1543 = .ok (.iconst 1, 1) := by decide +kernel
theorem dL_law_1544 : decode cL_law 1544 = .ok (.iadd, 1) := by decide +kernel
theorem dL_law_1545 : decode cL_law 1545 = .ok (.iaload, 1) := by decide +kernel
theorem dL_law_1546 : decode cL_law 1546 = .ok (.aload_n 0, 1) := by decide +kernel
theorem dL_law_1547 : decode cL_law 1547 = .ok (.iload 5, 2) := by decide +kernel
theorem dL_law_1549 : decode cL_law 1549 = .ok (.iconst 2, 1) := by decide +kernel
theorem dL_law_1550 : decode cL_law 1550 = .ok (.iadd, 1) := by decide +kernel
theorem dL_law_1551 : decode cL_law 1551 = .ok (.iaload, 1) := by decide +kernel
theorem dL_law_1552 : decode cL_law 1552 = .ok (.aload_n 0, 1) := by decide +kernel
theorem dL_law_1553 : decode cL_law 1553 = .ok (.iload 5, 2) := by decide +kernel
theorem dL_law_1555 : decode cL_law 1555 = .ok (.iconst 3, 1) := by decide +kernel
theorem dL_law_1556 : decode cL_law 1556 = .ok (.iadd, 1) := by decide +kernel
theorem dL_law_1557 : decode cL_law 1557 = .ok (.iaload, 1) := by decide +kernel
theorem dL_law_1558 : decode cL_law 1558 = .ok (.aload_n 3, 1) := by decide +kernel
theorem dL_law_1559 : decode cL_law 1559 = .ok (.invokestatic 235, 3) := by decide +kernel
theorem dL_law_1562 : decode cL_law 1562 = .ok (.istore 6, 2) := by decide +kernel
theorem dL_law_1564 : decode cL_law 1564 = .ok (.aload_n 2, 1) := by decide +kernel
theorem dL_law_1565 : decode cL_law 1565 = .ok (.aload_n 0, 1) := by decide +kernel
theorem dL_law_1566 : decode cL_law 1566 = .ok (.iload 5, 2) := by decide +kernel
theorem dL_law_1568 : decode cL_law 1568 = .ok (.iconst 1, 1) := by decide +kernel
theorem dL_law_1569 : decode cL_law 1569 = .ok (.iadd, 1) := by decide +kernel
theorem dL_law_1570 : decode cL_law 1570 = .ok (.iaload, 1) := by decide +kernel
theorem dL_law_1571 : decode cL_law 1571 = .ok (.aload_n 0, 1) := by decide +kernel
theorem dL_law_1572 : decode cL_law 1572 = .ok (.iload 5, 2) := by decide +kernel
theorem dL_law_1574 : decode cL_law 1574 = .ok (.iconst 2, 1) := by decide +kernel
theorem dL_law_1575 : decode cL_law 1575 = .ok (.iadd, 1) := by decide +kernel
theorem dL_law_1576 : decode cL_law 1576 = .ok (.iaload, 1) := by decide +kernel
theorem dL_law_1577 : decode cL_law 1577 = .ok (.aload_n 0, 1) := by decide +kernel
theorem dL_law_1578 : decode cL_law 1578 = .ok (.iload 5, 2) := by decide +kernel
theorem dL_law_1580 : decode cL_law 1580 = .ok (.iconst 3, 1) := by decide +kernel
theorem dL_law_1581 : decode cL_law 1581 = .ok (.iadd, 1) := by decide +kernel
theorem dL_law_1582 : decode cL_law 1582 = .ok (.iaload, 1) := by decide +kernel
theorem dL_law_1583 : decode cL_law 1583 = .ok (.invokevirtual 237, 3) := by decide +kernel
theorem dL_law_1586 : decode cL_law 1586 = .ok (.istore 7, 2) := by decide +kernel
theorem dL_law_1588 : decode cL_law 1588 = .ok (.aload_n 2, 1) := by decide +kernel
theorem dL_law_1589 : decode cL_law 1589 = .ok (.invokevirtual 155, 3) := by decide +kernel
theorem dL_law_1592 : decode cL_law 1592 = .ok (.iload 6, 2) := by decide +kernel
theorem dL_law_1594 : decode cL_law 1594 = .ok (.if_icmp .eq 5, 3) := by decide +kernel
theorem dL_law_1597 : decode cL_law 1597 = .ok (.iconst 0, 1) := by decide +kernel
theorem dL_law_1598 : decode cL_law 1598 = .ok (.ireturn, 1) := by decide +kernel
theorem dL_law_1599 : decode cL_law 1599 = .ok (.iload 6, 2) := by decide +kernel
theorem dL_law_1601 : decode cL_law 1601 = .ok (.ifCond .ne 15, 3) := by decide +kernel
theorem dL_law_1604 : decode cL_law 1604 = .ok (.aload_n 3, 1) := by decide +kernel
theorem dL_law_1605 : decode cL_law 1605 = .ok (.iconst 0, 1) := by decide +kernel
theorem dL_law_1606 : decode cL_law 1606 = .ok (.laload, 1) := by decide +kernel
theorem dL_law_1607 : decode cL_law 1607 = .ok (.iload 7, 2) := by decide +kernel
theorem dL_law_1609 : decode cL_law 1609 = .ok (.i2l, 1) := by decide +kernel
theorem dL_law_1610 : decode cL_law 1610 = .ok (.lcmp, 1) := by decide +kernel
theorem dL_law_1611 : decode cL_law 1611 = .ok (.ifCond .eq 5, 3) := by decide +kernel
theorem dL_law_1614 : decode cL_law 1614 = .ok (.iconst 0, 1) := by decide +kernel
theorem dL_law_1615 : decode cL_law 1615 = .ok (.ireturn, 1) := by decide +kernel
theorem dL_law_1616 : decode cL_law 1616 = .ok (.goto 1397, 3) := by decide +kernel
theorem dL_law_1619 : decode cL_law 1619 = .ok (.aload_n 1, 1) := by decide +kernel
theorem dL_law_1620 : decode cL_law 1620 = .ok (.aload_n 0, 1) := by decide +kernel
theorem dL_law_1621 : decode cL_law 1621 = .ok (.iload 5, 2) := by decide +kernel
theorem dL_law_1623 : decode cL_law 1623 = .ok (.iconst 1, 1) := by decide +kernel
theorem dL_law_1624 : decode cL_law 1624 = .ok (.iadd, 1) := by decide +kernel
theorem dL_law_1625 : decode cL_law 1625 = .ok (.iaload, 1) := by decide +kernel
theorem dL_law_1626 : decode cL_law 1626 = .ok (.aload_n 0, 1) := by decide +kernel
theorem dL_law_1627 : decode cL_law 1627 = .ok (.iload 5, 2) := by decide +kernel
theorem dL_law_1629 : decode cL_law 1629 = .ok (.iconst 2, 1) := by decide +kernel
theorem dL_law_1630 : decode cL_law 1630 = .ok (.iadd, 1) := by decide +kernel
theorem dL_law_1631 : decode cL_law 1631 = .ok (.iaload, 1) := by decide +kernel
theorem dL_law_1632 : decode cL_law 1632 = .ok (.aload_n 3, 1) := by decide +kernel
theorem dL_law_1633 : decode cL_law 1633 = .ok (.invokestatic 238, 3) := by decide +kernel
theorem dL_law_1636 : decode cL_law 1636 = .ok (.istore 6, 2) := by decide +kernel
theorem dL_law_1638 : decode cL_law 1638 = .ok (.aload_n 2, 1) := by decide +kernel
theorem dL_law_1639 : decode cL_law 1639 = .ok (.aload_n 0, 1) := by decide +kernel
theorem dL_law_1640 : decode cL_law 1640 = .ok (.iload 5, 2) := by decide +kernel
theorem dL_law_1642 : decode cL_law 1642 = .ok (.iconst 1, 1) := by decide +kernel
theorem dL_law_1643 : decode cL_law 1643 = .ok (.iadd, 1) := by decide +kernel
theorem dL_law_1644 : decode cL_law 1644 = .ok (.iaload, 1) := by decide +kernel
theorem dL_law_1645 : decode cL_law 1645 = .ok (.aload_n 0, 1) := by decide +kernel
theorem dL_law_1646 : decode cL_law 1646 = .ok (.iload 5, 2) := by decide +kernel
theorem dL_law_1648 : decode cL_law 1648 = .ok (.iconst 2, 1) := by decide +kernel
theorem dL_law_1649 : decode cL_law 1649 = .ok (.iadd, 1) := by decide +kernel
theorem dL_law_1650 : decode cL_law 1650 = .ok (.iaload, 1) := by decide +kernel
theorem dL_law_1651 : decode cL_law 1651 = .ok (.invokevirtual 240, 3) := by decide +kernel
theorem dL_law_1654 : decode cL_law 1654 = .ok (.istore 7, 2) := by decide +kernel
theorem dL_law_1656 : decode cL_law 1656 = .ok (.aload_n 2, 1) := by decide +kernel
theorem dL_law_1657 : decode cL_law 1657 = .ok (.invokevirtual 155, 3) := by decide +kernel
theorem dL_law_1660 : decode cL_law 1660 = .ok (.iload 6, 2) := by decide +kernel
theorem dL_law_1662 : decode cL_law 1662 = .ok (.if_icmp .eq 5, 3) := by decide +kernel
theorem dL_law_1665 : decode cL_law 1665 = .ok (.iconst 0, 1) := by decide +kernel
theorem dL_law_1666 : decode cL_law 1666 = .ok (.ireturn, 1) := by decide +kernel
theorem dL_law_1667 : decode cL_law 1667 = .ok (.iload 6, 2) := by decide +kernel
theorem dL_law_1669 : decode cL_law 1669 = .ok (.ifCond .ne 15, 3) := by decide +kernel
theorem dL_law_1672 : decode cL_law 1672 = .ok (.aload_n 3, 1) := by decide +kernel
theorem dL_law_1673 : decode cL_law 1673 = .ok (.iconst 0, 1) := by decide +kernel
theorem dL_law_1674 : decode cL_law 1674 = .ok (.laload, 1) := by decide +kernel
theorem dL_law_1675 : decode cL_law 1675 = .ok (.iload 7, 2) := by decide +kernel
theorem dL_law_1677 : decode cL_law 1677 = .ok (.i2l, 1) := by decide +kernel
theorem dL_law_1678 : decode cL_law 1678 = .ok (.lcmp, 1) := by decide +kernel
theorem dL_law_1679 : decode cL_law 1679 = .ok (.ifCond .eq 5, 3) := by decide +kernel
theorem dL_law_1682 : decode cL_law 1682 = .ok (.iconst 0, 1) := by decide +kernel
theorem dL_law_1683 : decode cL_law 1683 = .ok (.ireturn, 1) := by decide +kernel
theorem dL_law_1684 : decode cL_law 1684 = .ok (.goto 1329, 3) := by decide +kernel
theorem dL_law_1687 : decode cL_law 1687 = .ok (.aload_n 1, 1) := by decide +kernel
theorem dL_law_1688 : decode cL_law 1688 = .ok (.aload_n 0, 1) := by decide +kernel
theorem dL_law_1689 : decode cL_law 1689 = .ok (.iload 5, 2) := by decide +kernel
theorem dL_law_1691 : decode cL_law 1691 = .ok (.iconst 1, 1) := by decide +kernel
theorem dL_law_1692 : decode cL_law 1692 = .ok (.iadd, 1) := by decide +kernel
theorem dL_law_1693 : decode cL_law 1693 = .ok (.iaload, 1) := by decide +kernel
theorem dL_law_1694 : decode cL_law 1694 = .ok (.aload_n 0, 1) := by decide +kernel
theorem dL_law_1695 : decode cL_law 1695 = .ok (.iload 5, 2) := by decide +kernel
theorem dL_law_1697 : decode cL_law 1697 = .ok (.iconst 2, 1) := by decide +kernel
theorem dL_law_1698 : decode cL_law 1698 = .ok (.iadd, 1) := by decide +kernel
theorem dL_law_1699 : decode cL_law 1699 = .ok (.iaload, 1) := by decide +kernel
theorem dL_law_1700 : decode cL_law 1700 = .ok (.aload_n 3, 1) := by decide +kernel
theorem dL_law_1701 : decode cL_law 1701 = .ok (.invokestatic 241, 3) := by decide +kernel
theorem dL_law_1704 : decode cL_law 1704 = .ok (.istore 6, 2) := by decide +kernel
theorem dL_law_1706 : decode cL_law 1706 = .ok (.aload_n 2, 1) := by decide +kernel
theorem dL_law_1707 : decode cL_law 1707 = .ok (.aload_n 0, 1) := by decide +kernel
theorem dL_law_1708 : decode cL_law 1708 = .ok (.iload 5, 2) := by decide +kernel
theorem dL_law_1710 : decode cL_law 1710 = .ok (.iconst 1, 1) := by decide +kernel
theorem dL_law_1711 : decode cL_law 1711 = .ok (.iadd, 1) := by decide +kernel
theorem dL_law_1712 : decode cL_law 1712 = .ok (.iaload, 1) := by decide +kernel
theorem dL_law_1713 : decode cL_law 1713 = .ok (.aload_n 0, 1) := by decide +kernel
theorem dL_law_1714 : decode cL_law 1714 = .ok (.iload 5, 2) := by decide +kernel
theorem dL_law_1716 : decode cL_law 1716 = .ok (.iconst 2, 1) := by decide +kernel
theorem dL_law_1717 : decode cL_law 1717 = .ok (.iadd, 1) := by decide +kernel
theorem dL_law_1718 : decode cL_law 1718 = .ok (.iaload, 1) := by decide +kernel
theorem dL_law_1719 : decode cL_law 1719 = .ok (.invokevirtual 243, 3) := by decide +kernel
theorem dL_law_1722 : decode cL_law 1722 = .ok (.istore 7, 2) := by decide +kernel
theorem dL_law_1724 : decode cL_law 1724 = .ok (.aload_n 2, 1) := by decide +kernel
theorem dL_law_1725 : decode cL_law 1725 = .ok (.invokevirtual 155, 3) := by decide +kernel
theorem dL_law_1728 : decode cL_law 1728 = .ok (.iload 6, 2) := by decide +kernel
theorem dL_law_1730 : decode cL_law 1730 = .ok (.if_icmp .eq 5, 3) := by decide +kernel
theorem dL_law_1733 : decode cL_law 1733 = .ok (.iconst 0, 1) := by decide +kernel
theorem dL_law_1734 : decode cL_law 1734 = .ok (.ireturn, 1) := by decide +kernel
theorem dL_law_1735 : decode cL_law 1735 = .ok (.iload 6, 2) := by decide +kernel
theorem dL_law_1737 : decode cL_law 1737 = .ok (.ifCond .ne 15, 3) := by decide +kernel
theorem dL_law_1740 : decode cL_law 1740 = .ok (.aload_n 3, 1) := by decide +kernel
theorem dL_law_1741 : decode cL_law 1741 = .ok (.iconst 0, 1) := by decide +kernel
theorem dL_law_1742 : decode cL_law 1742 = .ok (.laload, 1) := by decide +kernel
theorem dL_law_1743 : decode cL_law 1743 = .ok (.iload 7, 2) := by decide +kernel
theorem dL_law_1745 : decode cL_law 1745 = .ok (.i2l, 1) := by decide +kernel
theorem dL_law_1746 : decode cL_law 1746 = .ok (.lcmp, 1) := by decide +kernel
theorem dL_law_1747 : decode cL_law 1747 = .ok (.ifCond .eq 5, 3) := by decide +kernel
theorem dL_law_1750 : decode cL_law 1750 = .ok (.iconst 0, 1) := by decide +kernel
theorem dL_law_1751 : decode cL_law 1751 = .ok (.ireturn, 1) := by decide +kernel
theorem dL_law_1752 : decode cL_law 1752 = .ok (.goto 1261, 3) := by decide +kernel
theorem dL_law_1755 : decode cL_law 1755 = .ok (.aload_n 1, 1) := by decide +kernel
theorem dL_law_1756 : decode cL_law 1756 = .ok (.aload_n 0, 1) := by decide +kernel
theorem dL_law_1757 : decode cL_law 1757 = .ok (.iload 5, 2) := by decide +kernel
theorem dL_law_1759 : decode cL_law 1759 = .ok (.iconst 1, 1) := by decide +kernel
theorem dL_law_1760 : decode cL_law 1760 = .ok (.iadd, 1) := by decide +kernel
theorem dL_law_1761 : decode cL_law 1761 = .ok (.iaload, 1) := by decide +kernel
theorem dL_law_1762 : decode cL_law 1762 = .ok (.aload_n 0, 1) := by decide +kernel
theorem dL_law_1763 : decode cL_law 1763 = .ok (.iload 5, 2) := by decide +kernel
theorem dL_law_1765 : decode cL_law 1765 = .ok (.iconst 2, 1) := by decide +kernel
theorem dL_law_1766 : decode cL_law 1766 = .ok (.iadd, 1) := by decide +kernel
theorem dL_law_1767 : decode cL_law 1767 = .ok (.iaload, 1) := by decide +kernel
theorem dL_law_1768 : decode cL_law 1768 = .ok (.aload_n 3, 1) := by decide +kernel
theorem dL_law_1769 : decode cL_law 1769 = .ok (.invokestatic 244, 3) := by decide +kernel
theorem dL_law_1772 : decode cL_law 1772 = .ok (.istore 6, 2) := by decide +kernel
theorem dL_law_1774 : decode cL_law 1774 = .ok (.aload_n 2, 1) := by decide +kernel
theorem dL_law_1775 : decode cL_law 1775 = .ok (.aload_n 0, 1) := by decide +kernel
theorem dL_law_1776 : decode cL_law 1776 = .ok (.iload 5, 2) := by decide +kernel
theorem dL_law_1778 : decode cL_law 1778 = .ok (.iconst 1, 1) := by decide +kernel
theorem dL_law_1779 : decode cL_law 1779 = .ok (.iadd, 1) := by decide +kernel
theorem dL_law_1780 : decode cL_law 1780 = .ok (.iaload, 1) := by decide +kernel
theorem dL_law_1781 : decode cL_law 1781 = .ok (.aload_n 0, 1) := by decide +kernel
theorem dL_law_1782 : decode cL_law 1782 = .ok (.iload 5, 2) := by decide +kernel
theorem dL_law_1784 : decode cL_law 1784 = .ok (.iconst 2, 1) := by decide +kernel
theorem dL_law_1785 : decode cL_law 1785 = .ok (.iadd, 1) := by decide +kernel
theorem dL_law_1786 : decode cL_law 1786 = .ok (.iaload, 1) := by decide +kernel
theorem dL_law_1787 : decode cL_law 1787 = .ok (.invokevirtual 246, 3) := by decide +kernel
theorem dL_law_1790 : decode cL_law 1790 = .ok (.istore 7, 2) := by decide +kernel
theorem dL_law_1792 : decode cL_law 1792 = .ok (.aload_n 2, 1) := by decide +kernel
theorem dL_law_1793 : decode cL_law 1793 = .ok (.invokevirtual 155, 3) := by decide +kernel
theorem dL_law_1796 : decode cL_law 1796 = .ok (.iload 6, 2) := by decide +kernel
theorem dL_law_1798 : decode cL_law 1798 = .ok (.if_icmp .eq 5, 3) := by decide +kernel
theorem dL_law_1801 : decode cL_law 1801 = .ok (.iconst 0, 1) := by decide +kernel
theorem dL_law_1802 : decode cL_law 1802 = .ok (.ireturn, 1) := by decide +kernel
theorem dL_law_1803 : decode cL_law 1803 = .ok (.iload 6, 2) := by decide +kernel
theorem dL_law_1805 : decode cL_law 1805 = .ok (.ifCond .ne 15, 3) := by decide +kernel
theorem dL_law_1808 : decode cL_law 1808 = .ok (.aload_n 3, 1) := by decide +kernel
theorem dL_law_1809 : decode cL_law 1809 = .ok (.iconst 0, 1) := by decide +kernel
theorem dL_law_1810 : decode cL_law 1810 = .ok (.laload, 1) := by decide +kernel
theorem dL_law_1811 : decode cL_law 1811 = .ok (.iload 7, 2) := by decide +kernel
theorem dL_law_1813 : decode cL_law 1813 = .ok (.i2l, 1) := by decide +kernel
theorem dL_law_1814 : decode cL_law 1814 = .ok (.lcmp, 1) := by decide +kernel
theorem dL_law_1815 : decode cL_law 1815 = .ok (.ifCond .eq 5, 3) := by decide +kernel
theorem dL_law_1818 : decode cL_law 1818 = .ok (.iconst 0, 1) := by decide +kernel
theorem dL_law_1819 : decode cL_law 1819 = .ok (.ireturn, 1) := by decide +kernel
theorem dL_law_1820 : decode cL_law 1820 = .ok (.goto 1193, 3) := by decide +kernel
theorem dL_law_1823 : decode cL_law 1823 = .ok (.aload_n 1, 1) := by decide +kernel
theorem dL_law_1824 : decode cL_law 1824 = .ok (.aload_n 0, 1) := by decide +kernel
theorem dL_law_1825 : decode cL_law 1825 = .ok (.iload 5, 2) := by decide +kernel
theorem dL_law_1827 : decode cL_law 1827 = .ok (.iconst 1, 1) := by decide +kernel
theorem dL_law_1828 : decode cL_law 1828 = .ok (.iadd, 1) := by decide +kernel
theorem dL_law_1829 : decode cL_law 1829 = .ok (.iaload, 1) := by decide +kernel
theorem dL_law_1830 : decode cL_law 1830 = .ok (.aload_n 0, 1) := by decide +kernel
theorem dL_law_1831 : decode cL_law 1831 = .ok (.iload 5, 2) := by decide +kernel
theorem dL_law_1833 : decode cL_law 1833 = .ok (.iconst 2, 1) := by decide +kernel
theorem dL_law_1834 : decode cL_law 1834 = .ok (.iadd, 1) := by decide +kernel
theorem dL_law_1835 : decode cL_law 1835 = .ok (.iaload, 1) := by decide +kernel
theorem dL_law_1836 : decode cL_law 1836 = .ok (.aload_n 3, 1) := by decide +kernel
theorem dL_law_1837 : decode cL_law 1837 = .ok (.invokestatic 247, 3) := by decide +kernel
theorem dL_law_1840 : decode cL_law 1840 = .ok (.istore 6, 2) := by decide +kernel
theorem dL_law_1842 : decode cL_law 1842 = .ok (.aload_n 2, 1) := by decide +kernel
theorem dL_law_1843 : decode cL_law 1843 = .ok (.aload_n 0, 1) := by decide +kernel
theorem dL_law_1844 : decode cL_law 1844 = .ok (.iload 5, 2) := by decide +kernel
theorem dL_law_1846 : decode cL_law 1846 = .ok (.iconst 1, 1) := by decide +kernel
theorem dL_law_1847 : decode cL_law 1847 = .ok (.iadd, 1) := by decide +kernel
theorem dL_law_1848 : decode cL_law 1848 = .ok (.iaload, 1) := by decide +kernel
theorem dL_law_1849 : decode cL_law 1849 = .ok (.aload_n 0, 1) := by decide +kernel
theorem dL_law_1850 : decode cL_law 1850 = .ok (.iload 5, 2) := by decide +kernel
theorem dL_law_1852 : decode cL_law 1852 = .ok (.iconst 2, 1) := by decide +kernel
theorem dL_law_1853 : decode cL_law 1853 = .ok (.iadd, 1) := by decide +kernel
theorem dL_law_1854 : decode cL_law 1854 = .ok (.iaload, 1) := by decide +kernel
theorem dL_law_1855 : decode cL_law 1855 = .ok (.invokevirtual 249, 3) := by decide +kernel
theorem dL_law_1858 : decode cL_law 1858 = .ok (.istore 7, 2) := by decide +kernel
theorem dL_law_1860 : decode cL_law 1860 = .ok (.aload_n 2, 1) := by decide +kernel
theorem dL_law_1861 : decode cL_law 1861 = .ok (.invokevirtual 155, 3) := by decide +kernel
theorem dL_law_1864 : decode cL_law 1864 = .ok (.iload 6, 2) := by decide +kernel
theorem dL_law_1866 : decode cL_law 1866 = .ok (.if_icmp .eq 5, 3) := by decide +kernel
theorem dL_law_1869 : decode cL_law 1869 = .ok (.iconst 0, 1) := by decide +kernel
theorem dL_law_1870 : decode cL_law 1870 = .ok (.ireturn, 1) := by decide +kernel
theorem dL_law_1871 : decode cL_law 1871 = .ok (.iload 6, 2) := by decide +kernel
theorem dL_law_1873 : decode cL_law 1873 = .ok (.ifCond .ne 15, 3) := by decide +kernel
theorem dL_law_1876 : decode cL_law 1876 = .ok (.aload_n 3, 1) := by decide +kernel
theorem dL_law_1877 : decode cL_law 1877 = .ok (.iconst 0, 1) := by decide +kernel
theorem dL_law_1878 : decode cL_law 1878 = .ok (.laload, 1) := by decide +kernel
theorem dL_law_1879 : decode cL_law 1879 = .ok (.iload 7, 2) := by decide +kernel
theorem dL_law_1881 : decode cL_law 1881 = .ok (.i2l, 1) := by decide +kernel
theorem dL_law_1882 : decode cL_law 1882 = .ok (.lcmp, 1) := by decide +kernel
theorem dL_law_1883 : decode cL_law 1883 = .ok (.ifCond .eq 5, 3) := by decide +kernel
theorem dL_law_1886 : decode cL_law 1886 = .ok (.iconst 0, 1) := by decide +kernel
theorem dL_law_1887 : decode cL_law 1887 = .ok (.ireturn, 1) := by decide +kernel
theorem dL_law_1888 : decode cL_law 1888 = .ok (.goto 1125, 3) := by decide +kernel
theorem dL_law_1891 : decode cL_law 1891 = .ok (.aload_n 1, 1) := by decide +kernel
theorem dL_law_1892 : decode cL_law 1892 = .ok (.aload_n 0, 1) := by decide +kernel
theorem dL_law_1893 : decode cL_law 1893 = .ok (.iload 5, 2) := by decide +kernel
theorem dL_law_1895 : decode cL_law 1895 = .ok (.iconst 1, 1) := by decide +kernel
theorem dL_law_1896 : decode cL_law 1896 = .ok (.iadd, 1) := by decide +kernel
theorem dL_law_1897 : decode cL_law 1897 = .ok (.iaload, 1) := by decide +kernel
theorem dL_law_1898 : decode cL_law 1898 = .ok (.aload_n 0, 1) := by decide +kernel
theorem dL_law_1899 : decode cL_law 1899 = .ok (.iload 5, 2) := by decide +kernel
theorem dL_law_1901 : decode cL_law 1901 = .ok (.iconst 2, 1) := by decide +kernel
theorem dL_law_1902 : decode cL_law 1902 = .ok (.iadd, 1) := by decide +kernel
theorem dL_law_1903 : decode cL_law 1903 = .ok (.iaload, 1) := by decide +kernel
theorem dL_law_1904 : decode cL_law 1904 = .ok (.aload_n 3, 1) := by decide +kernel
theorem dL_law_1905 : decode cL_law 1905 = .ok (.invokestatic 250, 3) := by decide +kernel
theorem dL_law_1908 : decode cL_law 1908 = .ok (.istore 6, 2) := by decide +kernel
theorem dL_law_1910 : decode cL_law 1910 = .ok (.aload_n 2, 1) := by decide +kernel
theorem dL_law_1911 : decode cL_law 1911 = .ok (.aload_n 0, 1) := by decide +kernel
theorem dL_law_1912 : decode cL_law 1912 = .ok (.iload 5, 2) := by decide +kernel
theorem dL_law_1914 : decode cL_law 1914 = .ok (.iconst 1, 1) := by decide +kernel
theorem dL_law_1915 : decode cL_law 1915 = .ok (.iadd, 1) := by decide +kernel
theorem dL_law_1916 : decode cL_law 1916 = .ok (.iaload, 1) := by decide +kernel
theorem dL_law_1917 : decode cL_law 1917 = .ok (.aload_n 0, 1) := by decide +kernel
theorem dL_law_1918 : decode cL_law 1918 = .ok (.iload 5, 2) := by decide +kernel
theorem dL_law_1920 : decode cL_law 1920 = .ok (.iconst 2, 1) := by decide +kernel
theorem dL_law_1921 : decode cL_law 1921 = .ok (.iadd, 1) := by decide +kernel
theorem dL_law_1922 : decode cL_law 1922 = .ok (.iaload, 1) := by decide +kernel
theorem dL_law_1923 : decode cL_law 1923 = .ok (.invokevirtual 252, 3) := by decide +kernel
theorem dL_law_1926 : decode cL_law 1926 = .ok (.istore 7, 2) := by decide +kernel
theorem dL_law_1928 : decode cL_law 1928 = .ok (.aload_n 2, 1) := by decide +kernel
theorem dL_law_1929 : decode cL_law 1929 = .ok (.invokevirtual 155, 3) := by decide +kernel
theorem dL_law_1932 : decode cL_law 1932 = .ok (.iload 6, 2) := by decide +kernel
theorem dL_law_1934 : decode cL_law 1934 = .ok (.if_icmp .eq 5, 3) := by decide +kernel
theorem dL_law_1937 : decode cL_law 1937 = .ok (.iconst 0, 1) := by decide +kernel
theorem dL_law_1938 : decode cL_law 1938 = .ok (.ireturn, 1) := by decide +kernel
theorem dL_law_1939 : decode cL_law 1939 = .ok (.iload 6, 2) := by decide +kernel
theorem dL_law_1941 : decode cL_law 1941 = .ok (.ifCond .ne 15, 3) := by decide +kernel
theorem dL_law_1944 : decode cL_law 1944 = .ok (.aload_n 3, 1) := by decide +kernel
theorem dL_law_1945 : decode cL_law 1945 = .ok (.iconst 0, 1) := by decide +kernel
theorem dL_law_1946 : decode cL_law 1946 = .ok (.laload, 1) := by decide +kernel
theorem dL_law_1947 : decode cL_law 1947 = .ok (.iload 7, 2) := by decide +kernel
theorem dL_law_1949 : decode cL_law 1949 = .ok (.i2l, 1) := by decide +kernel
theorem dL_law_1950 : decode cL_law 1950 = .ok (.lcmp, 1) := by decide +kernel
theorem dL_law_1951 : decode cL_law 1951 = .ok (.ifCond .eq 5, 3) := by decide +kernel
theorem dL_law_1954 : decode cL_law 1954 = .ok (.iconst 0, 1) := by decide +kernel
theorem dL_law_1955 : decode cL_law 1955 = .ok (.ireturn, 1) := by decide +kernel
theorem dL_law_1956 : decode cL_law 1956 = .ok (.goto 1057, 3) := by decide +kernel
theorem dL_law_1959 : decode cL_law 1959 = .ok (.aload_n 1, 1) := by decide +kernel
theorem dL_law_1960 : decode cL_law 1960 = .ok (.aload_n 0, 1) := by decide +kernel
theorem dL_law_1961 : decode cL_law 1961 = .ok (.iload 5, 2) := by decide +kernel
theorem dL_law_1963 : decode cL_law 1963 = .ok (.iconst 1, 1) := by decide +kernel
theorem dL_law_1964 : decode cL_law 1964 = .ok (.iadd, 1) := by decide +kernel
theorem dL_law_1965 : decode cL_law 1965 = .ok (.iaload, 1) := by decide +kernel
theorem dL_law_1966 : decode cL_law 1966 = .ok (.aload_n 0, 1) := by decide +kernel
theorem dL_law_1967 : decode cL_law 1967 = .ok (.iload 5, 2) := by decide +kernel
theorem dL_law_1969 : decode cL_law 1969 = .ok (.iconst 2, 1) := by decide +kernel
theorem dL_law_1970 : decode cL_law 1970 = .ok (.iadd, 1) := by decide +kernel
theorem dL_law_1971 : decode cL_law 1971 = .ok (.iaload, 1) := by decide +kernel
theorem dL_law_1972 : decode cL_law 1972 = .ok (.aload 4, 2) := by decide +kernel
theorem dL_law_1974 : decode cL_law 1974 = .ok (.invokestatic 253, 3) := by decide +kernel
theorem dL_law_1977 : decode cL_law 1977 = .ok (.istore 6, 2) := by decide +kernel
theorem dL_law_1979 : decode cL_law 1979 = .ok (.aload_n 2, 1) := by decide +kernel
theorem dL_law_1980 : decode cL_law 1980 = .ok (.aload_n 0, 1) := by decide +kernel
theorem dL_law_1981 : decode cL_law 1981 = .ok (.iload 5, 2) := by decide +kernel
theorem dL_law_1983 : decode cL_law 1983 = .ok (.iconst 1, 1) := by decide +kernel
theorem dL_law_1984 : decode cL_law 1984 = .ok (.iadd, 1) := by decide +kernel
theorem dL_law_1985 : decode cL_law 1985 = .ok (.iaload, 1) := by decide +kernel
theorem dL_law_1986 : decode cL_law 1986 = .ok (.aload_n 0, 1) := by decide +kernel
theorem dL_law_1987 : decode cL_law 1987 = .ok (.iload 5, 2) := by decide +kernel
theorem dL_law_1989 : decode cL_law 1989 = .ok (.iconst 2, 1) := by decide +kernel
theorem dL_law_1990 : decode cL_law 1990 = .ok (.iadd, 1) := by decide +kernel
theorem dL_law_1991 : decode cL_law 1991 = .ok (.iaload, 1) := by decide +kernel
theorem dL_law_1992 : decode cL_law 1992 = .ok (.invokevirtual 256, 3) := by decide +kernel
theorem dL_law_1995 : decode cL_law 1995 = .ok (.fstore 7, 2) := by decide +kernel
theorem dL_law_1997 : decode cL_law 1997 = .ok (.aload_n 2, 1) := by decide +kernel
theorem dL_law_1998 : decode cL_law 1998 = .ok (.invokevirtual 155, 3) := by decide +kernel
theorem dL_law_2001 : decode cL_law 2001 = .ok (.iload 6, 2) := by decide +kernel
theorem dL_law_2003 : decode cL_law 2003 = .ok (.if_icmp .eq 5, 3) := by decide +kernel
theorem dL_law_2006 : decode cL_law 2006 = .ok (.iconst 0, 1) := by decide +kernel
theorem dL_law_2007 : decode cL_law 2007 = .ok (.ireturn, 1) := by decide +kernel
theorem dL_law_2008 : decode cL_law 2008 = .ok (.iload 6, 2) := by decide +kernel
theorem dL_law_2010 : decode cL_law 2010 = .ok (.ifCond .ne 36, 3) := by decide +kernel
theorem dL_law_2013 : decode cL_law 2013 = .ok (.aload 4, 2) := by decide +kernel
theorem dL_law_2015 : decode cL_law 2015 = .ok (.iconst 0, 1) := by decide +kernel
theorem dL_law_2016 : decode cL_law 2016 = .ok (.daload, 1) := by decide +kernel
theorem dL_law_2017 : decode cL_law 2017 = .ok (.fload 7, 2) := by decide +kernel
theorem dL_law_2019 : decode cL_law 2019 = .ok (.f2d, 1) := by decide +kernel
theorem dL_law_2020 : decode cL_law 2020 = .ok (.dcmp .l, 1) := by decide +kernel
theorem dL_law_2021 : decode cL_law 2021 = .ok (.ifCond .eq 25, 3) := by decide +kernel
theorem dL_law_2024 : decode cL_law 2024 = .ok (.aload 4, 2) := by decide +kernel
theorem dL_law_2026 : decode cL_law 2026 = .ok (.iconst 0, 1) := by decide +kernel
theorem dL_law_2027 : decode cL_law 2027 = .ok (.daload, 1) := by decide +kernel
theorem dL_law_2028 : decode cL_law 2028 = .ok (.aload 4, 2) := by decide +kernel
theorem dL_law_2030 : decode cL_law 2030 = .ok (.iconst 0, 1) := by decide +kernel
theorem dL_law_2031 : decode cL_law 2031 = .ok (.daload, 1) := by decide +kernel
theorem dL_law_2032 : decode cL_law 2032 = .ok (.dcmp .l, 1) := by decide +kernel
theorem dL_law_2033 : decode cL_law 2033 = .ok (.ifCond .eq 11, 3) := by decide +kernel
theorem dL_law_2036 : decode cL_law 2036 = .ok (.fload 7, 2) := by decide +kernel
theorem dL_law_2038 : decode cL_law 2038 = .ok (.fload 7, 2) := by decide +kernel
theorem dL_law_2040 : decode cL_law 2040 = .ok (.fcmp .l, 1) := by decide +kernel
theorem dL_law_2041 : decode cL_law 2041 = .ok (.ifCond .ne 5, 3) := by decide +kernel
theorem dL_law_2044 : decode cL_law 2044 = .ok (.iconst 0, 1) := by decide +kernel
theorem dL_law_2045 : decode cL_law 2045 = .ok (.ireturn, 1) := by decide +kernel
theorem dL_law_2046 : decode cL_law 2046 = .ok (.goto 967, 3) := by decide +kernel
theorem dL_law_2049 : decode cL_law 2049 = .ok (.aload_n 1, 1) := by decide +kernel
theorem dL_law_2050 : decode cL_law 2050 = .ok (.aload_n 0, 1) := by decide +kernel
theorem dL_law_2051 : decode cL_law 2051 = .ok (.iload 5, 2) := by decide +kernel
theorem dL_law_2053 : decode cL_law 2053 = .ok (.iconst 1, 1) := by decide +kernel
theorem dL_law_2054 : decode cL_law 2054 = .ok (.iadd, 1) := by decide +kernel
theorem dL_law_2055 : decode cL_law 2055 = .ok (.iaload, 1) := by decide +kernel
theorem dL_law_2056 : decode cL_law 2056 = .ok (.aload_n 0, 1) := by decide +kernel
theorem dL_law_2057 : decode cL_law 2057 = .ok (.iload 5, 2) := by decide +kernel
theorem dL_law_2059 : decode cL_law 2059 = .ok (.iconst 2, 1) := by decide +kernel
theorem dL_law_2060 : decode cL_law 2060 = .ok (.iadd, 1) := by decide +kernel
theorem dL_law_2061 : decode cL_law 2061 = .ok (.iaload, 1) := by decide +kernel
theorem dL_law_2062 : decode cL_law 2062 = .ok (.aload_n 3, 1) := by decide +kernel
theorem dL_law_2063 : decode cL_law 2063 = .ok (.invokestatic 257, 3) := by decide +kernel
theorem dL_law_2066 : decode cL_law 2066 = .ok (.istore 6, 2) := by decide +kernel
theorem dL_law_2068 : decode cL_law 2068 = .ok (.aload_n 2, 1) := by decide +kernel
theorem dL_law_2069 : decode cL_law 2069 = .ok (.aload_n 0, 1) := by decide +kernel
theorem dL_law_2070 : decode cL_law 2070 = .ok (.iload 5, 2) := by decide +kernel
theorem dL_law_2072 : decode cL_law 2072 = .ok (.iconst 1, 1) := by decide +kernel
theorem dL_law_2073 : decode cL_law 2073 = .ok (.iadd, 1) := by decide +kernel
theorem dL_law_2074 : decode cL_law 2074 = .ok (.iaload, 1) := by decide +kernel
theorem dL_law_2075 : decode cL_law 2075 = .ok (.aload_n 0, 1) := by decide +kernel
theorem dL_law_2076 : decode cL_law 2076 = .ok (.iload 5, 2) := by decide +kernel
theorem dL_law_2078 : decode cL_law 2078 = .ok (.iconst 2, 1) := by decide +kernel
theorem dL_law_2079 : decode cL_law 2079 = .ok (.iadd, 1) := by decide +kernel
theorem dL_law_2080 : decode cL_law 2080 = .ok (.iaload, 1) := by decide +kernel
theorem dL_law_2081 : decode cL_law 2081 = .ok (.invokevirtual 259, 3) := by decide +kernel
theorem dL_law_2084 : decode cL_law 2084 = .ok (.istore 7, 2) := by decide +kernel
theorem dL_law_2086 : decode cL_law 2086 = .ok (.aload_n 2, 1) := by decide +kernel
theorem dL_law_2087 : decode cL_law 2087 = .ok (.invokevirtual 155, 3) := by decide +kernel
theorem dL_law_2090 : decode cL_law 2090 = .ok (.iload 6, 2) := by decide +kernel
theorem dL_law_2092 : decode cL_law 2092 = .ok (.if_icmp .eq 5, 3) := by decide +kernel
theorem dL_law_2095 : decode cL_law 2095 = .ok (.iconst 0, 1) := by decide +kernel
theorem dL_law_2096 : decode cL_law 2096 = .ok (.ireturn, 1) := by decide +kernel
theorem dL_law_2097 : decode cL_law 2097 = .ok (.iload 6, 2) := by decide +kernel
theorem dL_law_2099 : decode cL_law 2099 = .ok (.ifCond .ne 15, 3) := by decide +kernel
theorem dL_law_2102 : decode cL_law 2102 = .ok (.aload_n 3, 1) := by decide +kernel
theorem dL_law_2103 : decode cL_law 2103 = .ok (.iconst 0, 1) := by decide +kernel
theorem dL_law_2104 : decode cL_law 2104 = .ok (.laload, 1) := by decide +kernel
theorem dL_law_2105 : decode cL_law 2105 = .ok (.iload 7, 2) := by decide +kernel
theorem dL_law_2107 : decode cL_law 2107 = .ok (.i2l, 1) := by decide +kernel
theorem dL_law_2108 : decode cL_law 2108 = .ok (.lcmp, 1) := by decide +kernel
theorem dL_law_2109 : decode cL_law 2109 = .ok (.ifCond .eq 5, 3) := by decide +kernel
theorem dL_law_2112 : decode cL_law 2112 = .ok (.iconst 0, 1) := by decide +kernel
theorem dL_law_2113 : decode cL_law 2113 = .ok (.ireturn, 1) := by decide +kernel
theorem dL_law_2114 : decode cL_law 2114 = .ok (.goto 899, 3) := by decide +kernel
theorem dL_law_2117 : decode cL_law 2117 = .ok (.aload_n 1, 1) := by decide +kernel
theorem dL_law_2118 : decode cL_law 2118 = .ok (.aload_n 0, 1) := by decide +kernel
theorem dL_law_2119 : decode cL_law 2119 = .ok (.iload 5, 2) := by decide +kernel
theorem dL_law_2121 : decode cL_law 2121 = .ok (.iconst 1, 1) := by decide +kernel
theorem dL_law_2122 : decode cL_law 2122 = .ok (.iadd, 1) := by decide +kernel
theorem dL_law_2123 : decode cL_law 2123 = .ok (.iaload, 1) := by decide +kernel
theorem dL_law_2124 : decode cL_law 2124 = .ok (.aload_n 0, 1) := by decide +kernel
theorem dL_law_2125 : decode cL_law 2125 = .ok (.iload 5, 2) := by decide +kernel
theorem dL_law_2127 : decode cL_law 2127 = .ok (.iconst 2, 1) := by decide +kernel
theorem dL_law_2128 : decode cL_law 2128 = .ok (.iadd, 1) := by decide +kernel
theorem dL_law_2129 : decode cL_law 2129 = .ok (.iaload, 1) := by decide +kernel
theorem dL_law_2130 : decode cL_law 2130 = .ok (.aload_n 3, 1) := by decide +kernel
theorem dL_law_2131 : decode cL_law 2131 = .ok (.invokestatic 260, 3) := by decide +kernel
theorem dL_law_2134 : decode cL_law 2134 = .ok (.istore 6, 2) := by decide +kernel
theorem dL_law_2136 : decode cL_law 2136 = .ok (.aload_n 2, 1) := by decide +kernel
theorem dL_law_2137 : decode cL_law 2137 = .ok (.aload_n 0, 1) := by decide +kernel
theorem dL_law_2138 : decode cL_law 2138 = .ok (.iload 5, 2) := by decide +kernel
theorem dL_law_2140 : decode cL_law 2140 = .ok (.iconst 1, 1) := by decide +kernel
theorem dL_law_2141 : decode cL_law 2141 = .ok (.iadd, 1) := by decide +kernel
theorem dL_law_2142 : decode cL_law 2142 = .ok (.iaload, 1) := by decide +kernel
theorem dL_law_2143 : decode cL_law 2143 = .ok (.aload_n 0, 1) := by decide +kernel
theorem dL_law_2144 : decode cL_law 2144 = .ok (.iload 5, 2) := by decide +kernel
theorem dL_law_2146 : decode cL_law 2146 = .ok (.iconst 2, 1) := by decide +kernel
theorem dL_law_2147 : decode cL_law 2147 = .ok (.iadd, 1) := by decide +kernel
theorem dL_law_2148 : decode cL_law 2148 = .ok (.iaload, 1) := by decide +kernel
theorem dL_law_2149 : decode cL_law 2149 = .ok (.invokevirtual 262, 3) := by decide +kernel
theorem dL_law_2152 : decode cL_law 2152 = .ok (.istore 7, 2) := by decide +kernel
theorem dL_law_2154 : decode cL_law 2154 = .ok (.aload_n 2, 1) := by decide +kernel
theorem dL_law_2155 : decode cL_law 2155 = .ok (.invokevirtual 155, 3) := by decide +kernel
theorem dL_law_2158 : decode cL_law 2158 = .ok (.iload 6, 2) := by decide +kernel
theorem dL_law_2160 : decode cL_law 2160 = .ok (.if_icmp .eq 5, 3) := by decide +kernel
theorem dL_law_2163 : decode cL_law 2163 = .ok (.iconst 0, 1) := by decide +kernel
theorem dL_law_2164 : decode cL_law 2164 = .ok (.ireturn, 1) := by decide +kernel
theorem dL_law_2165 : decode cL_law 2165 = .ok (.iload 6, 2) := by decide +kernel
theorem dL_law_2167 : decode cL_law 2167 = .ok (.ifCond .ne 15, 3) := by decide +kernel
theorem dL_law_2170 : decode cL_law 2170 = .ok (.aload_n 3, 1) := by decide +kernel
theorem dL_law_2171 : decode cL_law 2171 = .ok (.iconst 0, 1) := by decide +kernel
theorem dL_law_2172 : decode cL_law 2172 = .ok (.laload, 1) := by decide +kernel
theorem dL_law_2173 : decode cL_law 2173 = .ok (.iload 7, 2) := by decide +kernel
theorem dL_law_2175 : decode cL_law 2175 = .ok (.i2l, 1) := by decide +kernel
theorem dL_law_2176 : decode cL_law 2176 = .ok (.lcmp, 1) := by decide +kernel
theorem dL_law_2177 : decode cL_law 2177 = .ok (.ifCond .eq 5, 3) := by decide +kernel
theorem dL_law_2180 : decode cL_law 2180 = .ok (.iconst 0, 1) := by decide +kernel
theorem dL_law_2181 : decode cL_law 2181 = .ok (.ireturn, 1) := by decide +kernel
theorem dL_law_2182 : decode cL_law 2182 = .ok (.goto 831, 3) := by decide +kernel
theorem dL_law_2185 : decode cL_law 2185 = .ok (.aload_n 1, 1) := by decide +kernel
theorem dL_law_2186 : decode cL_law 2186 = .ok (.aload_n 0, 1) := by decide +kernel
theorem dL_law_2187 : decode cL_law 2187 = .ok (.iload 5, 2) := by decide +kernel
theorem dL_law_2189 : decode cL_law 2189 = .ok (.iconst 1, 1) := by decide +kernel
theorem dL_law_2190 : decode cL_law 2190 = .ok (.iadd, 1) := by decide +kernel
theorem dL_law_2191 : decode cL_law 2191 = .ok (.iaload, 1) := by decide +kernel
theorem dL_law_2192 : decode cL_law 2192 = .ok (.aload_n 0, 1) := by decide +kernel
theorem dL_law_2193 : decode cL_law 2193 = .ok (.iload 5, 2) := by decide +kernel
theorem dL_law_2195 : decode cL_law 2195 = .ok (.iconst 2, 1) := by decide +kernel
theorem dL_law_2196 : decode cL_law 2196 = .ok (.iadd, 1) := by decide +kernel
theorem dL_law_2197 : decode cL_law 2197 = .ok (.iaload, 1) := by decide +kernel
theorem dL_law_2198 : decode cL_law 2198 = .ok (.aload_n 0, 1) := by decide +kernel
theorem dL_law_2199 : decode cL_law 2199 = .ok (.iload 5, 2) := by decide +kernel
theorem dL_law_2201 : decode cL_law 2201 = .ok (.iconst 3, 1) := by decide +kernel
theorem dL_law_2202 : decode cL_law 2202 = .ok (.iadd, 1) := by decide +kernel
theorem dL_law_2203 : decode cL_law 2203 = .ok (.iaload, 1) := by decide +kernel
theorem dL_law_2204 : decode cL_law 2204 = .ok (.aload_n 3, 1) := by decide +kernel
theorem dL_law_2205 : decode cL_law 2205 = .ok (.invokestatic 263, 3) := by decide +kernel
theorem dL_law_2208 : decode cL_law 2208 = .ok (.istore 6, 2) := by decide +kernel
theorem dL_law_2210 : decode cL_law 2210 = .ok (.aload_n 2, 1) := by decide +kernel
theorem dL_law_2211 : decode cL_law 2211 = .ok (.aload_n 0, 1) := by decide +kernel
theorem dL_law_2212 : decode cL_law 2212 = .ok (.iload 5, 2) := by decide +kernel
theorem dL_law_2214 : decode cL_law 2214 = .ok (.iconst 1, 1) := by decide +kernel
theorem dL_law_2215 : decode cL_law 2215 = .ok (.iadd, 1) := by decide +kernel
theorem dL_law_2216 : decode cL_law 2216 = .ok (.iaload, 1) := by decide +kernel
theorem dL_law_2217 : decode cL_law 2217 = .ok (.aload_n 0, 1) := by decide +kernel
theorem dL_law_2218 : decode cL_law 2218 = .ok (.iload 5, 2) := by decide +kernel
theorem dL_law_2220 : decode cL_law 2220 = .ok (.iconst 2, 1) := by decide +kernel
theorem dL_law_2221 : decode cL_law 2221 = .ok (.iadd, 1) := by decide +kernel
theorem dL_law_2222 : decode cL_law 2222 = .ok (.iaload, 1) := by decide +kernel
theorem dL_law_2223 : decode cL_law 2223 = .ok (.aload_n 0, 1) := by decide +kernel
theorem dL_law_2224 : decode cL_law 2224 = .ok (.iload 5, 2) := by decide +kernel
theorem dL_law_2226 : decode cL_law 2226 = .ok (.iconst 3, 1) := by decide +kernel
theorem dL_law_2227 : decode cL_law 2227 = .ok (.iadd, 1) := by decide +kernel
theorem dL_law_2228 : decode cL_law 2228 = .ok (.iaload, 1) := by decide +kernel
theorem dL_law_2229 : decode cL_law 2229 = .ok (.invokevirtual 265, 3) := by decide +kernel
theorem dL_law_2232 : decode cL_law 2232 = .ok (.istore 7, 2) := by decide +kernel
theorem dL_law_2234 : decode cL_law 2234 = .ok (.aload_n 2, 1) := by decide +kernel
theorem dL_law_2235 : decode cL_law 2235 = .ok (.invokevirtual 155, 3) := by decide +kernel
theorem dL_law_2238 : decode cL_law 2238 = .ok (.iload 6, 2) := by decide +kernel
theorem dL_law_2240 : decode cL_law 2240 = .ok (.if_icmp .eq 5, 3) := by decide +kernel
theorem dL_law_2243 : decode cL_law 2243 = .ok (.iconst 0, 1) := by decide +kernel
theorem dL_law_2244 : decode cL_law 2244 = .ok (.ireturn, 1) := by decide +kernel
theorem dL_law_2245 : decode cL_law 2245 = .ok (.iload 6, 2) := by decide +kernel
theorem dL_law_2247 : decode cL_law 2247 = .ok (.ifCond .ne 15, 3) := by decide +kernel
theorem dL_law_2250 : decode cL_law 2250 = .ok (.aload_n 3, 1) := by decide +kernel
theorem dL_law_2251 : decode cL_law 2251 = .ok (.iconst 0, 1) := by decide +kernel
theorem dL_law_2252 : decode cL_law 2252 = .ok (.laload, 1) := by decide +kernel
theorem dL_law_2253 : decode cL_law 2253 = .ok (.iload 7, 2) := by decide +kernel
theorem dL_law_2255 : decode cL_law 2255 = .ok (.i2l, 1) := by decide +kernel
theorem dL_law_2256 : decode cL_law 2256 = .ok (.lcmp, 1) := by decide +kernel
theorem dL_law_2257 : decode cL_law 2257 = .ok (.ifCond .eq 5, 3) := by decide +kernel
theorem dL_law_2260 : decode cL_law 2260 = .ok (.iconst 0, 1) := by decide +kernel
theorem dL_law_2261 : decode cL_law 2261 = .ok (.ireturn, 1) := by decide +kernel
theorem dL_law_2262 : decode cL_law 2262 = .ok (.goto 751, 3) := by decide +kernel
theorem dL_law_2265 : decode cL_law 2265 = .ok (.aload_n 1, 1) := by decide +kernel
theorem dL_law_2266 : decode cL_law 2266 = .ok (.aload_n 0, 1) := by decide +kernel
theorem dL_law_2267 : decode cL_law 2267 = .ok (.iload 5, 2) := by decide +kernel
theorem dL_law_2269 : decode cL_law 2269 = .ok (.iconst 1, 1) := by decide +kernel
theorem dL_law_2270 : decode cL_law 2270 = .ok (.iadd, 1) := by decide +kernel
theorem dL_law_2271 : decode cL_law 2271 = .ok (.iaload, 1) := by decide +kernel
theorem dL_law_2272 : decode cL_law 2272 = .ok (.aload_n 0, 1) := by decide +kernel
theorem dL_law_2273 : decode cL_law 2273 = .ok (.iload 5, 2) := by decide +kernel
theorem dL_law_2275 : decode cL_law 2275 = .ok (.iconst 2, 1) := by decide +kernel
theorem dL_law_2276 : decode cL_law 2276 = .ok (.iadd, 1) := by decide +kernel
theorem dL_law_2277 : decode cL_law 2277 = .ok (.iaload, 1) := by decide +kernel
theorem dL_law_2278 : decode cL_law 2278 = .ok (.aload_n 0, 1) := by decide +kernel
theorem dL_law_2279 : decode cL_law 2279 = .ok (.iload 5, 2) := by decide +kernel
theorem dL_law_2281 : decode cL_law 2281 = .ok (.iconst 3, 1) := by decide +kernel
theorem dL_law_2282 : decode cL_law 2282 = .ok (.iadd, 1) := by decide +kernel
theorem dL_law_2283 : decode cL_law 2283 = .ok (.iaload, 1) := by decide +kernel
theorem dL_law_2284 : decode cL_law 2284 = .ok (.aload_n 3, 1) := by decide +kernel
theorem dL_law_2285 : decode cL_law 2285 = .ok (.invokestatic 266, 3) := by decide +kernel
theorem dL_law_2288 : decode cL_law 2288 = .ok (.istore 6, 2) := by decide +kernel
theorem dL_law_2290 : decode cL_law 2290 = .ok (.aload_n 2, 1) := by decide +kernel
theorem dL_law_2291 : decode cL_law 2291 = .ok (.aload_n 0, 1) := by decide +kernel
theorem dL_law_2292 : decode cL_law 2292 = .ok (.iload 5, 2) := by decide +kernel
theorem dL_law_2294 : decode cL_law 2294 = .ok (.iconst 1, 1) := by decide +kernel
theorem dL_law_2295 : decode cL_law 2295 = .ok (.iadd, 1) := by decide +kernel
theorem dL_law_2296 : decode cL_law 2296 = .ok (.iaload, 1) := by decide +kernel
theorem dL_law_2297 : decode cL_law 2297 = .ok (.aload_n 0, 1) := by decide +kernel
theorem dL_law_2298 : decode cL_law 2298 = .ok (.iload 5, 2) := by decide +kernel
theorem dL_law_2300 : decode cL_law 2300 = .ok (.iconst 2, 1) := by decide +kernel
theorem dL_law_2301 : decode cL_law 2301 = .ok (.iadd, 1) := by decide +kernel
theorem dL_law_2302 : decode cL_law 2302 = .ok (.iaload, 1) := by decide +kernel
theorem dL_law_2303 : decode cL_law 2303 = .ok (.aload_n 0, 1) := by decide +kernel
theorem dL_law_2304 : decode cL_law 2304 = .ok (.iload 5, 2) := by decide +kernel
theorem dL_law_2306 : decode cL_law 2306 = .ok (.iconst 3, 1) := by decide +kernel
theorem dL_law_2307 : decode cL_law 2307 = .ok (.iadd, 1) := by decide +kernel
theorem dL_law_2308 : decode cL_law 2308 = .ok (.iaload, 1) := by decide +kernel
theorem dL_law_2309 : decode cL_law 2309 = .ok (.invokevirtual 268, 3) := by decide +kernel
theorem dL_law_2312 : decode cL_law 2312 = .ok (.istore 7, 2) := by decide +kernel
theorem dL_law_2314 : decode cL_law 2314 = .ok (.aload_n 2, 1) := by decide +kernel
theorem dL_law_2315 : decode cL_law 2315 = .ok (.invokevirtual 155, 3) := by decide +kernel
theorem dL_law_2318 : decode cL_law 2318 = .ok (.iload 6, 2) := by decide +kernel
theorem dL_law_2320 : decode cL_law 2320 = .ok (.if_icmp .eq 5, 3) := by decide +kernel
theorem dL_law_2323 : decode cL_law 2323 = .ok (.iconst 0, 1) := by decide +kernel
theorem dL_law_2324 : decode cL_law 2324 = .ok (.ireturn, 1) := by decide +kernel
theorem dL_law_2325 : decode cL_law 2325 = .ok (.iload 6, 2) := by decide +kernel
theorem dL_law_2327 : decode cL_law 2327 = .ok (.ifCond .ne 15, 3) := by decide +kernel
theorem dL_law_2330 : decode cL_law 2330 = .ok (.aload_n 3, 1) := by decide +kernel
theorem dL_law_2331 : decode cL_law 2331 = .ok (.iconst 0, 1) := by decide +kernel
theorem dL_law_2332 : decode cL_law 2332 = .ok (.laload, 1) := by decide +kernel
theorem dL_law_2333 : decode cL_law 2333 = .ok (.iload 7, 2) := by decide +kernel
theorem dL_law_2335 : decode cL_law 2335 = .ok (.i2l, 1) := by decide +kernel
theorem dL_law_2336 : decode cL_law 2336 = .ok (.lcmp, 1) := by decide +kernel
theorem dL_law_2337 : decode cL_law 2337 = .ok (.ifCond .eq 5, 3) := by decide +kernel
theorem dL_law_2340 : decode cL_law 2340 = .ok (.iconst 0, 1) := by decide +kernel
theorem dL_law_2341 : decode cL_law 2341 = .ok (.ireturn, 1) := by decide +kernel
theorem dL_law_2342 : decode cL_law 2342 = .ok (.goto 671, 3) := by decide +kernel
theorem dL_law_2345 : decode cL_law 2345 = .ok (.aload_n 1, 1) := by decide +kernel
theorem dL_law_2346 : decode cL_law 2346 = .ok (.aload_n 0, 1) := by decide +kernel
theorem dL_law_2347 : decode cL_law 2347 = .ok (.iload 5, 2) := by decide +kernel
theorem dL_law_2349 : decode cL_law 2349 = .ok (.iconst 1, 1) := by decide +kernel
theorem dL_law_2350 : decode cL_law 2350 = .ok (.iadd, 1) := by decide +kernel
theorem dL_law_2351 : decode cL_law 2351 = .ok (.iaload, 1) := by decide +kernel
theorem dL_law_2352 : decode cL_law 2352 = .ok (.aload_n 0, 1) := by decide +kernel
theorem dL_law_2353 : decode cL_law 2353 = .ok (.iload 5, 2) := by decide +kernel
theorem dL_law_2355 : decode cL_law 2355 = .ok (.iconst 2, 1) := by decide +kernel
theorem dL_law_2356 : decode cL_law 2356 = .ok (.iadd, 1) := by decide +kernel
theorem dL_law_2357 : decode cL_law 2357 = .ok (.iaload, 1) := by decide +kernel
theorem dL_law_2358 : decode cL_law 2358 = .ok (.aload_n 0, 1) := by decide +kernel
theorem dL_law_2359 : decode cL_law 2359 = .ok (.iload 5, 2) := by decide +kernel
theorem dL_law_2361 : decode cL_law 2361 = .ok (.iconst 3, 1) := by decide +kernel
theorem dL_law_2362 : decode cL_law 2362 = .ok (.iadd, 1) := by decide +kernel
theorem dL_law_2363 : decode cL_law 2363 = .ok (.iaload, 1) := by decide +kernel
theorem dL_law_2364 : decode cL_law 2364 = .ok (.aload_n 3, 1) := by decide +kernel
theorem dL_law_2365 : decode cL_law 2365 = .ok (.invokestatic 269, 3) := by decide +kernel
theorem dL_law_2368 : decode cL_law 2368 = .ok (.istore 6, 2) := by decide +kernel
theorem dL_law_2370 : decode cL_law 2370 = .ok (.aload_n 2, 1) := by decide +kernel
theorem dL_law_2371 : decode cL_law 2371 = .ok (.aload_n 0, 1) := by decide +kernel
theorem dL_law_2372 : decode cL_law 2372 = .ok (.iload 5, 2) := by decide +kernel
theorem dL_law_2374 : decode cL_law 2374 = .ok (.iconst 1, 1) := by decide +kernel
theorem dL_law_2375 : decode cL_law 2375 = .ok (.iadd, 1) := by decide +kernel
theorem dL_law_2376 : decode cL_law 2376 = .ok (.iaload, 1) := by decide +kernel
theorem dL_law_2377 : decode cL_law 2377 = .ok (.aload_n 0, 1) := by decide +kernel
theorem dL_law_2378 : decode cL_law 2378 = .ok (.iload 5, 2) := by decide +kernel
theorem dL_law_2380 : decode cL_law 2380 = .ok (.iconst 2, 1) := by decide +kernel
theorem dL_law_2381 : decode cL_law 2381 = .ok (.iadd, 1) := by decide +kernel
theorem dL_law_2382 : decode cL_law 2382 = .ok (.iaload, 1) := by decide +kernel
theorem dL_law_2383 : decode cL_law 2383 = .ok (.aload_n 0, 1) := by decide +kernel
theorem dL_law_2384 : decode cL_law 2384 = .ok (.iload 5, 2) := by decide +kernel
theorem dL_law_2386 : decode cL_law 2386 = .ok (.iconst 3, 1) := by decide +kernel
theorem dL_law_2387 : decode cL_law 2387 = .ok (.iadd, 1) := by decide +kernel
theorem dL_law_2388 : decode cL_law 2388 = .ok (.iaload, 1) := by decide +kernel
theorem dL_law_2389 : decode cL_law 2389 = .ok (.invokevirtual 271, 3) := by decide +kernel
theorem dL_law_2392 : decode cL_law 2392 = .ok (.istore 7, 2) := by decide +kernel
theorem dL_law_2394 : decode cL_law 2394 = .ok (.aload_n 2, 1) := by decide +kernel
theorem dL_law_2395 : decode cL_law 2395 = .ok (.invokevirtual 155, 3) := by decide +kernel
theorem dL_law_2398 : decode cL_law 2398 = .ok (.iload 6, 2) := by decide +kernel
theorem dL_law_2400 : decode cL_law 2400 = .ok (.if_icmp .eq 5, 3) := by decide +kernel
theorem dL_law_2403 : decode cL_law 2403 = .ok (.iconst 0, 1) := by decide +kernel
theorem dL_law_2404 : decode cL_law 2404 = .ok (.ireturn, 1) := by decide +kernel
theorem dL_law_2405 : decode cL_law 2405 = .ok (.iload 6, 2) := by decide +kernel
theorem dL_law_2407 : decode cL_law 2407 = .ok (.ifCond .ne 15, 3) := by decide +kernel
theorem dL_law_2410 : decode cL_law 2410 = .ok (.aload_n 3, 1) := by decide +kernel
theorem dL_law_2411 : decode cL_law 2411 = .ok (.iconst 0, 1) := by decide +kernel
theorem dL_law_2412 : decode cL_law 2412 = .ok (.laload, 1) := by decide +kernel
theorem dL_law_2413 : decode cL_law 2413 = .ok (.iload 7, 2) := by decide +kernel
theorem dL_law_2415 : decode cL_law 2415 = .ok (.i2l, 1) := by decide +kernel
theorem dL_law_2416 : decode cL_law 2416 = .ok (.lcmp, 1) := by decide +kernel
theorem dL_law_2417 : decode cL_law 2417 = .ok (.ifCond .eq 5, 3) := by decide +kernel
theorem dL_law_2420 : decode cL_law 2420 = .ok (.iconst 0, 1) := by decide +kernel
theorem dL_law_2421 : decode cL_law 2421 = .ok (.ireturn, 1) := by decide +kernel
theorem dL_law_2422 : decode cL_law 2422 = .ok (.goto 591, 3) := by decide +kernel
theorem dL_law_2425 : decode cL_law 2425 = .ok (.aload_n 1, 1) := by decide +kernel
theorem dL_law_2426 : decode cL_law 2426 = .ok (.aload_n 0, 1) := by decide +kernel
theorem dL_law_2427 : decode cL_law 2427 = .ok (.iload 5, 2) := by decide +kernel
theorem dL_law_2429 : decode cL_law 2429 = .ok (.iconst 1, 1) := by decide +kernel
theorem dL_law_2430 : decode cL_law 2430 = .ok (.iadd, 1) := by decide +kernel
theorem dL_law_2431 : decode cL_law 2431 = .ok (.iaload, 1) := by decide +kernel
theorem dL_law_2432 : decode cL_law 2432 = .ok (.aload_n 0, 1) := by decide +kernel
theorem dL_law_2433 : decode cL_law 2433 = .ok (.iload 5, 2) := by decide +kernel
theorem dL_law_2435 : decode cL_law 2435 = .ok (.iconst 2, 1) := by decide +kernel
theorem dL_law_2436 : decode cL_law 2436 = .ok (.iadd, 1) := by decide +kernel
theorem dL_law_2437 : decode cL_law 2437 = .ok (.iaload, 1) := by decide +kernel
theorem dL_law_2438 : decode cL_law 2438 = .ok (.aload_n 0, 1) := by decide +kernel
theorem dL_law_2439 : decode cL_law 2439 = .ok (.iload 5, 2) := by decide +kernel
theorem dL_law_2441 : decode cL_law 2441 = .ok (.iconst 3, 1) := by decide +kernel
theorem dL_law_2442 : decode cL_law 2442 = .ok (.iadd, 1) := by decide +kernel
theorem dL_law_2443 : decode cL_law 2443 = .ok (.iaload, 1) := by decide +kernel
theorem dL_law_2444 : decode cL_law 2444 = .ok (.aload_n 3, 1) := by decide +kernel
theorem dL_law_2445 : decode cL_law 2445 = .ok (.invokestatic 272, 3) := by decide +kernel
theorem dL_law_2448 : decode cL_law 2448 = .ok (.istore 6, 2) := by decide +kernel
theorem dL_law_2450 : decode cL_law 2450 = .ok (.aload_n 2, 1) := by decide +kernel
theorem dL_law_2451 : decode cL_law 2451 = .ok (.aload_n 0, 1) := by decide +kernel
theorem dL_law_2452 : decode cL_law 2452 = .ok (.iload 5, 2) := by decide +kernel
theorem dL_law_2454 : decode cL_law 2454 = .ok (.iconst 1, 1) := by decide +kernel
theorem dL_law_2455 : decode cL_law 2455 = .ok (.iadd, 1) := by decide +kernel
theorem dL_law_2456 : decode cL_law 2456 = .ok (.iaload, 1) := by decide +kernel
theorem dL_law_2457 : decode cL_law 2457 = .ok (.aload_n 0, 1) := by decide +kernel
theorem dL_law_2458 : decode cL_law 2458 = .ok (.iload 5, 2) := by decide +kernel
theorem dL_law_2460 : decode cL_law 2460 = .ok (.iconst 2, 1) := by decide +kernel
theorem dL_law_2461 : decode cL_law 2461 = .ok (.iadd, 1) := by decide +kernel
theorem dL_law_2462 : decode cL_law 2462 = .ok (.iaload, 1) := by decide +kernel
theorem dL_law_2463 : decode cL_law 2463 = .ok (.aload_n 0, 1) := by decide +kernel
theorem dL_law_2464 : decode cL_law 2464 = .ok (.iload 5, 2) := by decide +kernel
theorem dL_law_2466 : decode cL_law 2466 = .ok (.iconst 3, 1) := by decide +kernel
theorem dL_law_2467 : decode cL_law 2467 = .ok (.iadd, 1) := by decide +kernel
theorem dL_law_2468 : decode cL_law 2468 = .ok (.iaload, 1) := by decide +kernel
theorem dL_law_2469 : decode cL_law 2469 = .ok (.invokevirtual 274, 3) := by decide +kernel
theorem dL_law_2472 : decode cL_law 2472 = .ok (.istore 7, 2) := by decide +kernel
theorem dL_law_2474 : decode cL_law 2474 = .ok (.aload_n 2, 1) := by decide +kernel
theorem dL_law_2475 : decode cL_law 2475 = .ok (.invokevirtual 155, 3) := by decide +kernel
theorem dL_law_2478 : decode cL_law 2478 = .ok (.iload 6, 2) := by decide +kernel
theorem dL_law_2480 : decode cL_law 2480 = .ok (.if_icmp .eq 5, 3) := by decide +kernel
theorem dL_law_2483 : decode cL_law 2483 = .ok (.iconst 0, 1) := by decide +kernel
theorem dL_law_2484 : decode cL_law 2484 = .ok (.ireturn, 1) := by decide +kernel
theorem dL_law_2485 : decode cL_law 2485 = .ok (.iload 6, 2) := by decide +kernel
theorem dL_law_2487 : decode cL_law 2487 = .ok (.ifCond .ne 15, 3) := by decide +kernel
theorem dL_law_2490 : decode cL_law 2490 = .ok (.aload_n 3, 1) := by decide +kernel
theorem dL_law_2491 : decode cL_law 2491 = .ok (.iconst 0, 1) := by decide +kernel
theorem dL_law_2492 : decode cL_law 2492 = .ok (.laload, 1) := by decide +kernel
theorem dL_law_2493 : decode cL_law 2493 = .ok (.iload 7, 2) := by decide +kernel
theorem dL_law_2495 : decode cL_law 2495 = .ok (.i2l, 1) := by decide +kernel
theorem dL_law_2496 : decode cL_law 2496 = .ok (.lcmp, 1) := by decide +kernel
theorem dL_law_2497 : decode cL_law 2497 = .ok (.ifCond .eq 5, 3) := by decide +kernel
theorem dL_law_2500 : decode cL_law 2500 = .ok (.iconst 0, 1) := by decide +kernel
theorem dL_law_2501 : decode cL_law 2501 = .ok (.ireturn, 1) := by decide +kernel
theorem dL_law_2502 : decode cL_law 2502 = .ok (.goto 511, 3) := by decide +kernel
theorem dL_law_2505 : decode cL_law 2505 = .ok (.aload_n 1, 1) := by decide +kernel
theorem dL_law_2506 : decode cL_law 2506 = .ok (.aload_n 0, 1) := by decide +kernel
theorem dL_law_2507 : decode cL_law 2507 = .ok (.iload 5, 2) := by decide +kernel
theorem dL_law_2509 : decode cL_law 2509 = .ok (.iconst 1, 1) := by decide +kernel
theorem dL_law_2510 : decode cL_law 2510 = .ok (.iadd, 1) := by decide +kernel
theorem dL_law_2511 : decode cL_law 2511 = .ok (.iaload, 1) := by decide +kernel
theorem dL_law_2512 : decode cL_law 2512 = .ok (.aload_n 0, 1) := by decide +kernel
theorem dL_law_2513 : decode cL_law 2513 = .ok (.iload 5, 2) := by decide +kernel
theorem dL_law_2515 : decode cL_law 2515 = .ok (.iconst 2, 1) := by decide +kernel
theorem dL_law_2516 : decode cL_law 2516 = .ok (.iadd, 1) := by decide +kernel
theorem dL_law_2517 : decode cL_law 2517 = .ok (.iaload, 1) := by decide +kernel
theorem dL_law_2518 : decode cL_law 2518 = .ok (.aload_n 3, 1) := by decide +kernel
theorem dL_law_2519 : decode cL_law 2519 = .ok (.invokestatic 275, 3) := by decide +kernel
theorem dL_law_2522 : decode cL_law 2522 = .ok (.istore 6, 2) := by decide +kernel
theorem dL_law_2524 : decode cL_law 2524 = .ok (.aload_n 2, 1) := by decide +kernel
theorem dL_law_2525 : decode cL_law 2525 = .ok (.aload_n 0, 1) := by decide +kernel
theorem dL_law_2526 : decode cL_law 2526 = .ok (.iload 5, 2) := by decide +kernel
theorem dL_law_2528 : decode cL_law 2528 = .ok (.iconst 1, 1) := by decide +kernel
theorem dL_law_2529 : decode cL_law 2529 = .ok (.iadd, 1) := by decide +kernel
theorem dL_law_2530 : decode cL_law 2530 = .ok (.iaload, 1) := by decide +kernel
theorem dL_law_2531 : decode cL_law 2531 = .ok (.aload_n 0, 1) := by decide +kernel
theorem dL_law_2532 : decode cL_law 2532 = .ok (.iload 5, 2) := by decide +kernel
theorem dL_law_2534 : decode cL_law 2534 = .ok (.iconst 2, 1) := by decide +kernel
theorem dL_law_2535 : decode cL_law 2535 = .ok (.iadd, 1) := by decide +kernel
theorem dL_law_2536 : decode cL_law 2536 = .ok (.iaload, 1) := by decide +kernel
theorem dL_law_2537 : decode cL_law 2537 = .ok (.invokevirtual 277, 3) := by decide +kernel
theorem dL_law_2540 : decode cL_law 2540 = .ok (.istore 7, 2) := by decide +kernel
theorem dL_law_2542 : decode cL_law 2542 = .ok (.aload_n 2, 1) := by decide +kernel
theorem dL_law_2543 : decode cL_law 2543 = .ok (.invokevirtual 155, 3) := by decide +kernel
theorem dL_law_2546 : decode cL_law 2546 = .ok (.iload 6, 2) := by decide +kernel
theorem dL_law_2548 : decode cL_law 2548 = .ok (.if_icmp .eq 5, 3) := by decide +kernel
theorem dL_law_2551 : decode cL_law 2551 = .ok (.iconst 0, 1) := by decide +kernel
theorem dL_law_2552 : decode cL_law 2552 = .ok (.ireturn, 1) := by decide +kernel
theorem dL_law_2553 : decode cL_law 2553 = .ok (.iload 6, 2) := by decide +kernel
theorem dL_law_2555 : decode cL_law 2555 = .ok (.ifCond .ne 15, 3) := by decide +kernel
theorem dL_law_2558 : decode cL_law 2558 = .ok (.aload_n 3, 1) := by decide +kernel
theorem dL_law_2559 : decode cL_law 2559 = .ok (.iconst 0, 1) := by decide +kernel
theorem dL_law_2560 : decode cL_law 2560 = .ok (.laload, 1) := by decide +kernel
theorem dL_law_2561 : decode cL_law 2561 = .ok (.iload 7, 2) := by decide +kernel
theorem dL_law_2563 : decode cL_law 2563 = .ok (.i2l, 1) := by decide +kernel
theorem dL_law_2564 : decode cL_law 2564 = .ok (.lcmp, 1) := by decide +kernel
theorem dL_law_2565 : decode cL_law 2565 = .ok (.ifCond .eq 5, 3) := by decide +kernel
theorem dL_law_2568 : decode cL_law 2568 = .ok (.iconst 0, 1) := by decide +kernel
theorem dL_law_2569 : decode cL_law 2569 = .ok (.ireturn, 1) := by decide +kernel
theorem dL_law_2570 : decode cL_law 2570 = .ok (.goto 443, 3) := by decide +kernel
theorem dL_law_2573 : decode cL_law 2573 = .ok (.aload_n 1, 1) := by decide +kernel
theorem dL_law_2574 : decode cL_law 2574 = .ok (.aload_n 0, 1) := by decide +kernel
theorem dL_law_2575 : decode cL_law 2575 = .ok (.iload 5, 2) := by decide +kernel
theorem dL_law_2577 : decode cL_law 2577 = .ok (.iconst 1, 1) := by decide +kernel
theorem dL_law_2578 : decode cL_law 2578 = .ok (.iadd, 1) := by decide +kernel
theorem dL_law_2579 : decode cL_law 2579 = .ok (.iaload, 1) := by decide +kernel
theorem dL_law_2580 : decode cL_law 2580 = .ok (.aload_n 0, 1) := by decide +kernel
theorem dL_law_2581 : decode cL_law 2581 = .ok (.iload 5, 2) := by decide +kernel
theorem dL_law_2583 : decode cL_law 2583 = .ok (.iconst 2, 1) := by decide +kernel
theorem dL_law_2584 : decode cL_law 2584 = .ok (.iadd, 1) := by decide +kernel
theorem dL_law_2585 : decode cL_law 2585 = .ok (.iaload, 1) := by decide +kernel
theorem dL_law_2586 : decode cL_law 2586 = .ok (.aload_n 3, 1) := by decide +kernel
theorem dL_law_2587 : decode cL_law 2587 = .ok (.invokestatic 278, 3) := by decide +kernel
theorem dL_law_2590 : decode cL_law 2590 = .ok (.istore 6, 2) := by decide +kernel
theorem dL_law_2592 : decode cL_law 2592 = .ok (.aload_n 2, 1) := by decide +kernel
theorem dL_law_2593 : decode cL_law 2593 = .ok (.aload_n 0, 1) := by decide +kernel
theorem dL_law_2594 : decode cL_law 2594 = .ok (.iload 5, 2) := by decide +kernel
theorem dL_law_2596 : decode cL_law 2596 = .ok (.iconst 1, 1) := by decide +kernel
theorem dL_law_2597 : decode cL_law 2597 = .ok (.iadd, 1) := by decide +kernel
theorem dL_law_2598 : decode cL_law 2598 = .ok (.iaload, 1) := by decide +kernel
theorem dL_law_2599 : decode cL_law 2599 = .ok (.aload_n 0, 1) := by decide +kernel
theorem dL_law_2600 : decode cL_law 2600 = .ok (.iload 5, 2) := by decide +kernel
theorem dL_law_2602 : decode cL_law 2602 = .ok (.iconst 2, 1) := by decide +kernel
theorem dL_law_2603 : decode cL_law 2603 = .ok (.iadd, 1) := by decide +kernel
theorem dL_law_2604 : decode cL_law 2604 = .ok (.iaload, 1) := by decide +kernel
theorem dL_law_2605 : decode cL_law 2605 = .ok (.invokevirtual 280, 3) := by decide +kernel
theorem dL_law_2608 : decode cL_law 2608 = .ok (.istore 7, 2) := by decide +kernel
theorem dL_law_2610 : decode cL_law 2610 = .ok (.aload_n 2, 1) := by decide +kernel
theorem dL_law_2611 : decode cL_law 2611 = .ok (.invokevirtual 155, 3) := by decide +kernel
theorem dL_law_2614 : decode cL_law 2614 = .ok (.iload 6, 2) := by decide +kernel
theorem dL_law_2616 : decode cL_law 2616 = .ok (.if_icmp .eq 5, 3) := by decide +kernel
theorem dL_law_2619 : decode cL_law 2619 = .ok (.iconst 0, 1) := by decide +kernel
theorem dL_law_2620 : decode cL_law 2620 = .ok (.ireturn, 1) := by decide +kernel
theorem dL_law_2621 : decode cL_law 2621 = .ok (.iload 6, 2) := by decide +kernel
theorem dL_law_2623 : decode cL_law 2623 = .ok (.ifCond .ne 15, 3) := by decide +kernel
theorem dL_law_2626 : decode cL_law 2626 = .ok (.aload_n 3, 1) := by decide +kernel
theorem dL_law_2627 : decode cL_law 2627 = .ok (.iconst 0, 1) := by decide +kernel
theorem dL_law_2628 : decode cL_law 2628 = .ok (.laload, 1) := by decide +kernel
theorem dL_law_2629 : decode cL_law 2629 = .ok (.iload 7, 2) := by decide +kernel
theorem dL_law_2631 : decode cL_law 2631 = .ok (.i2l, 1) := by decide +kernel
theorem dL_law_2632 : decode cL_law 2632 = .ok (.lcmp, 1) := by decide +kernel
theorem dL_law_2633 : decode cL_law 2633 = .ok (.ifCond .eq 5, 3) := by decide +kernel
theorem dL_law_2636 : decode cL_law 2636 = .ok (.iconst 0, 1) := by decide +kernel
theorem dL_law_2637 : decode cL_law 2637 = .ok (.ireturn, 1) := by decide +kernel
theorem dL_law_2638 : decode cL_law 2638 = .ok (.goto 375, 3) := by decide +kernel
theorem dL_law_2641 : decode cL_law 2641 = .ok (.aload_n 1, 1) := by decide +kernel
theorem dL_law_2642 : decode cL_law 2642 = .ok (.aload_n 0, 1) := by decide +kernel
theorem dL_law_2643 : decode cL_law 2643 = .ok (.iload 5, 2) := by decide +kernel
theorem dL_law_2645 : decode cL_law 2645 = .ok (.iconst 1, 1) := by decide +kernel
theorem dL_law_2646 : decode cL_law 2646 = .ok (.iadd, 1) := by decide +kernel
theorem dL_law_2647 : decode cL_law 2647 = .ok (.iaload, 1) := by decide +kernel
theorem dL_law_2648 : decode cL_law 2648 = .ok (.aload_n 0, 1) := by decide +kernel
theorem dL_law_2649 : decode cL_law 2649 = .ok (.iload 5, 2) := by decide +kernel
theorem dL_law_2651 : decode cL_law 2651 = .ok (.iconst 2, 1) := by decide +kernel
theorem dL_law_2652 : decode cL_law 2652 = .ok (.iadd, 1) := by decide +kernel
theorem dL_law_2653 : decode cL_law 2653 = .ok (.iaload, 1) := by decide +kernel
theorem dL_law_2654 : decode cL_law 2654 = .ok (.aload_n 3, 1) := by decide +kernel
theorem dL_law_2655 : decode cL_law 2655 = .ok (.invokestatic 281, 3) := by decide +kernel
theorem dL_law_2658 : decode cL_law 2658 = .ok (.istore 6, 2) := by decide +kernel
theorem dL_law_2660 : decode cL_law 2660 = .ok (.aload_n 2, 1) := by decide +kernel
theorem dL_law_2661 : decode cL_law 2661 = .ok (.aload_n 0, 1) := by decide +kernel
theorem dL_law_2662 : decode cL_law 2662 = .ok (.iload 5, 2) := by decide +kernel
theorem dL_law_2664 : decode cL_law 2664 = .ok (.iconst 1, 1) := by decide +kernel
theorem dL_law_2665 : decode cL_law 2665 = .ok (.iadd, 1) := by decide +kernel
theorem dL_law_2666 : decode cL_law 2666 = .ok (.iaload, 1) := by decide +kernel
theorem dL_law_2667 : decode cL_law 2667 = .ok (.aload_n 0, 1) := by decide +kernel
theorem dL_law_2668 : decode cL_law 2668 = .ok (.iload 5, 2) := by decide +kernel
theorem dL_law_2670 : decode cL_law 2670 = .ok (.iconst 2, 1) := by decide +kernel
theorem dL_law_2671 : decode cL_law 2671 = .ok (.iadd, 1) := by decide +kernel
theorem dL_law_2672 : decode cL_law 2672 = .ok (.iaload, 1) := by decide +kernel
theorem dL_law_2673 : decode cL_law 2673 = .ok (.invokevirtual 283, 3) := by decide +kernel
theorem dL_law_2676 : decode cL_law 2676 = .ok (.istore 7, 2) := by decide +kernel
theorem dL_law_2678 : decode cL_law 2678 = .ok (.aload_n 2, 1) := by decide +kernel
theorem dL_law_2679 : decode cL_law 2679 = .ok (.invokevirtual 155, 3) := by decide +kernel
theorem dL_law_2682 : decode cL_law 2682 = .ok (.iload 6, 2) := by decide +kernel
theorem dL_law_2684 : decode cL_law 2684 = .ok (.if_icmp .eq 5, 3) := by decide +kernel
theorem dL_law_2687 : decode cL_law 2687 = .ok (.iconst 0, 1) := by decide +kernel
theorem dL_law_2688 : decode cL_law 2688 = .ok (.ireturn, 1) := by decide +kernel
theorem dL_law_2689 : decode cL_law 2689 = .ok (.iload 6, 2) := by decide +kernel
theorem dL_law_2691 : decode cL_law 2691 = .ok (.ifCond .ne 15, 3) := by decide +kernel
theorem dL_law_2694 : decode cL_law 2694 = .ok (.aload_n 3, 1) := by decide +kernel
theorem dL_law_2695 : decode cL_law 2695 = .ok (.iconst 0, 1) := by decide +kernel
theorem dL_law_2696 : decode cL_law 2696 = .ok (.laload, 1) := by decide +kernel
theorem dL_law_2697 : decode cL_law 2697 = .ok (.iload 7, 2) := by decide +kernel
theorem dL_law_2699 : decode cL_law 2699 = .ok (.i2l, 1) := by decide +kernel
theorem dL_law_2700 : decode cL_law 2700 = .ok (.lcmp, 1) := by decide +kernel
theorem dL_law_2701 : decode cL_law 2701 = .ok (.ifCond .eq 5, 3) := by decide +kernel
theorem dL_law_2704 : decode cL_law 2704 = .ok (.iconst 0, 1) := by decide +kernel
theorem dL_law_2705 : decode cL_law 2705 = .ok (.ireturn, 1) := by decide +kernel
theorem dL_law_2706 : decode cL_law 2706 = .ok (.goto 307, 3) := by decide +kernel
theorem dL_law_2709 : decode cL_law 2709 = .ok (.aload_n 1, 1) := by decide +kernel
theorem dL_law_2710 : decode cL_law 2710 = .ok (.aload_n 0, 1) := by decide +kernel
theorem dL_law_2711 : decode cL_law 2711 = .ok (.iload 5, 2) := by decide +kernel
theorem dL_law_2713 : decode cL_law 2713 = .ok (.iconst 1, 1) := by decide +kernel
theorem dL_law_2714 : decode cL_law 2714 = .ok (.iadd, 1) := by decide +kernel
theorem dL_law_2715 : decode cL_law 2715 = .ok (.iaload, 1) := by decide +kernel
theorem dL_law_2716 : decode cL_law 2716 = .ok (.aload_n 0, 1) := by decide +kernel
theorem dL_law_2717 : decode cL_law 2717 = .ok (.iload 5, 2) := by decide +kernel
theorem dL_law_2719 : decode cL_law 2719 = .ok (.iconst 2, 1) := by decide +kernel
theorem dL_law_2720 : decode cL_law 2720 = .ok (.iadd, 1) := by decide +kernel
theorem dL_law_2721 : decode cL_law 2721 = .ok (.iaload, 1) := by decide +kernel
theorem dL_law_2722 : decode cL_law 2722 = .ok (.aload_n 3, 1) := by decide +kernel
theorem dL_law_2723 : decode cL_law 2723 = .ok (.invokestatic 284, 3) := by decide +kernel
theorem dL_law_2726 : decode cL_law 2726 = .ok (.istore 6, 2) := by decide +kernel
theorem dL_law_2728 : decode cL_law 2728 = .ok (.aload_n 2, 1) := by decide +kernel
theorem dL_law_2729 : decode cL_law 2729 = .ok (.aload_n 0, 1) := by decide +kernel
theorem dL_law_2730 : decode cL_law 2730 = .ok (.iload 5, 2) := by decide +kernel
theorem dL_law_2732 : decode cL_law 2732 = .ok (.iconst 1, 1) := by decide +kernel
theorem dL_law_2733 : decode cL_law 2733 = .ok (.iadd, 1) := by decide +kernel
theorem dL_law_2734 : decode cL_law 2734 = .ok (.iaload, 1) := by decide +kernel
theorem dL_law_2735 : decode cL_law 2735 = .ok (.aload_n 0, 1) := by decide +kernel
theorem dL_law_2736 : decode cL_law 2736 = .ok (.iload 5, 2) := by decide +kernel
theorem dL_law_2738 : decode cL_law 2738 = .ok (.iconst 2, 1) := by decide +kernel
theorem dL_law_2739 : decode cL_law 2739 = .ok (.iadd, 1) := by decide +kernel
theorem dL_law_2740 : decode cL_law 2740 = .ok (.iaload, 1) := by decide +kernel
theorem dL_law_2741 : decode cL_law 2741 = .ok (.invokevirtual 286, 3) := by decide +kernel
theorem dL_law_2744 : decode cL_law 2744 = .ok (.istore 7, 2) := by decide +kernel
theorem dL_law_2746 : decode cL_law 2746 = .ok (.aload_n 2, 1) := by decide +kernel
theorem dL_law_2747 : decode cL_law 2747 = .ok (.invokevirtual 155, 3) := by decide +kernel
theorem dL_law_2750 : decode cL_law 2750 = .ok (.iload 6, 2) := by decide +kernel
theorem dL_law_2752 : decode cL_law 2752 = .ok (.if_icmp .eq 5, 3) := by decide +kernel
theorem dL_law_2755 : decode cL_law 2755 = .ok (.iconst 0, 1) := by decide +kernel
theorem dL_law_2756 : decode cL_law 2756 = .ok (.ireturn, 1) := by decide +kernel
theorem dL_law_2757 : decode cL_law 2757 = .ok (.iload 6, 2) := by decide +kernel
theorem dL_law_2759 : decode cL_law 2759 = .ok (.ifCond .ne 15, 3) := by decide +kernel
theorem dL_law_2762 : decode cL_law 2762 = .ok (.aload_n 3, 1) := by decide +kernel
theorem dL_law_2763 : decode cL_law 2763 = .ok (.iconst 0, 1) := by decide +kernel
theorem dL_law_2764 : decode cL_law 2764 = .ok (.laload, 1) := by decide +kernel
theorem dL_law_2765 : decode cL_law 2765 = .ok (.iload 7, 2) := by decide +kernel
theorem dL_law_2767 : decode cL_law 2767 = .ok (.i2l, 1) := by decide +kernel
theorem dL_law_2768 : decode cL_law 2768 = .ok (.lcmp, 1) := by decide +kernel
theorem dL_law_2769 : decode cL_law 2769 = .ok (.ifCond .eq 5, 3) := by decide +kernel
theorem dL_law_2772 : decode cL_law 2772 = .ok (.iconst 0, 1) := by decide +kernel
theorem dL_law_2773 : decode cL_law 2773 = .ok (.ireturn, 1) := by decide +kernel
theorem dL_law_2774 : decode cL_law 2774 = .ok (.goto 239, 3) := by decide +kernel
theorem dL_law_2777 : decode cL_law 2777 = .ok (.aload_n 1, 1) := by decide +kernel
theorem dL_law_2778 : decode cL_law 2778 = .ok (.aload_n 0, 1) := by decide +kernel
theorem dL_law_2779 : decode cL_law 2779 = .ok (.iload 5, 2) := by decide +kernel
theorem dL_law_2781 : decode cL_law 2781 = .ok (.iconst 1, 1) := by decide +kernel
theorem dL_law_2782 : decode cL_law 2782 = .ok (.iadd, 1) := by decide +kernel
theorem dL_law_2783 : decode cL_law 2783 = .ok (.iaload, 1) := by decide +kernel
theorem dL_law_2784 : decode cL_law 2784 = .ok (.aload_n 3, 1) := by decide +kernel
theorem dL_law_2785 : decode cL_law 2785 = .ok (.invokestatic 287, 3) := by decide +kernel
theorem dL_law_2788 : decode cL_law 2788 = .ok (.istore 6, 2) := by decide +kernel
theorem dL_law_2790 : decode cL_law 2790 = .ok (.aload_n 2, 1) := by decide +kernel
theorem dL_law_2791 : decode cL_law 2791 = .ok (.aload_n 0, 1) := by decide +kernel
theorem dL_law_2792 : decode cL_law 2792 = .ok (.iload 5, 2) := by decide +kernel
theorem dL_law_2794 : decode cL_law 2794 = .ok (.iconst 1, 1) := by decide +kernel
theorem dL_law_2795 : decode cL_law 2795 = .ok (.iadd, 1) := by decide +kernel
theorem dL_law_2796 : decode cL_law 2796 = .ok (.iaload, 1) := by decide +kernel
theorem dL_law_2797 : decode cL_law 2797 = .ok (.invokevirtual 289, 3) := by decide +kernel
theorem dL_law_2800 : decode cL_law 2800 = .ok (.istore 7, 2) := by decide +kernel
theorem dL_law_2802 : decode cL_law 2802 = .ok (.aload_n 2, 1) := by decide +kernel
theorem dL_law_2803 : decode cL_law 2803 = .ok (.invokevirtual 155, 3) := by decide +kernel
theorem dL_law_2806 : decode cL_law 2806 = .ok (.iload 6, 2) := by decide +kernel
theorem dL_law_2808 : decode cL_law 2808 = .ok (.if_icmp .eq 5, 3) := by decide +kernel
theorem dL_law_2811 : decode cL_law 2811 = .ok (.iconst 0, 1) := by decide +kernel
theorem dL_law_2812 : decode cL_law 2812 = .ok (.ireturn, 1) := by decide +kernel
theorem dL_law_2813 : decode cL_law 2813 = .ok (.iload 6, 2) := by decide +kernel
theorem dL_law_2815 : decode cL_law 2815 = .ok (.ifCond .ne 15, 3) := by decide +kernel
theorem dL_law_2818 : decode cL_law 2818 = .ok (.aload_n 3, 1) := by decide +kernel
theorem dL_law_2819 : decode cL_law 2819 = .ok (.iconst 0, 1) := by decide +kernel
theorem dL_law_2820 : decode cL_law 2820 = .ok (.laload, 1) := by decide +kernel
theorem dL_law_2821 : decode cL_law 2821 = .ok (.iload 7, 2) := by decide +kernel
theorem dL_law_2823 : decode cL_law 2823 = .ok (.i2l, 1) := by decide +kernel
theorem dL_law_2824 : decode cL_law 2824 = .ok (.lcmp, 1) := by decide +kernel
theorem dL_law_2825 : decode cL_law 2825 = .ok (.ifCond .eq 5, 3) := by decide +kernel
theorem dL_law_2828 : decode cL_law 2828 = .ok (.iconst 0, 1) := by decide +kernel
theorem dL_law_2829 : decode cL_law 2829 = .ok (.ireturn, 1) := by decide +kernel
theorem dL_law_2830 : decode cL_law 2830 = .ok (.goto 183, 3) := by decide +kernel
theorem dL_law_2833 : decode cL_law 2833 = .ok (.aload_n 1, 1) := by decide +kernel
theorem dL_law_2834 : decode cL_law 2834 = .ok (.aload_n 0, 1) := by decide +kernel
theorem dL_law_2835 : decode cL_law 2835 = .ok (.iload 5, 2) := by decide +kernel
theorem dL_law_2837 : decode cL_law 2837 = .ok (.iconst 1, 1) := by decide +kernel
theorem dL_law_2838 : decode cL_law 2838 = .ok (.iadd, 1) := by decide +kernel
theorem dL_law_2839 : decode cL_law 2839 = .ok (.iaload, 1) := by decide +kernel
theorem dL_law_2840 : decode cL_law 2840 = .ok (.aload_n 0, 1) := by decide +kernel
theorem dL_law_2841 : decode cL_law 2841 = .ok (.iload 5, 2) := by decide +kernel
theorem dL_law_2843 : decode cL_law 2843 = .ok (.iconst 2, 1) := by decide +kernel
theorem dL_law_2844 : decode cL_law 2844 = .ok (.iadd, 1) := by decide +kernel
theorem dL_law_2845 : decode cL_law 2845 = .ok (.iaload, 1) := by decide +kernel
theorem dL_law_2846 : decode cL_law 2846 = .ok (.aload_n 3, 1) := by decide +kernel
theorem dL_law_2847 : decode cL_law 2847 = .ok (.invokestatic 290, 3) := by decide +kernel
theorem dL_law_2850 : decode cL_law 2850 = .ok (.istore 6, 2) := by decide +kernel
theorem dL_law_2852 : decode cL_law 2852 = .ok (.aload_n 2, 1) := by decide +kernel
theorem dL_law_2853 : decode cL_law 2853 = .ok (.aload_n 0, 1) := by decide +kernel
theorem dL_law_2854 : decode cL_law 2854 = .ok (.iload 5, 2) := by decide +kernel
theorem dL_law_2856 : decode cL_law 2856 = .ok (.iconst 1, 1) := by decide +kernel
theorem dL_law_2857 : decode cL_law 2857 = .ok (.iadd, 1) := by decide +kernel
theorem dL_law_2858 : decode cL_law 2858 = .ok (.iaload, 1) := by decide +kernel
theorem dL_law_2859 : decode cL_law 2859 = .ok (.aload_n 0, 1) := by decide +kernel
theorem dL_law_2860 : decode cL_law 2860 = .ok (.iload 5, 2) := by decide +kernel
theorem dL_law_2862 : decode cL_law 2862 = .ok (.iconst 2, 1) := by decide +kernel
theorem dL_law_2863 : decode cL_law 2863 = .ok (.iadd, 1) := by decide +kernel
theorem dL_law_2864 : decode cL_law 2864 = .ok (.iaload, 1) := by decide +kernel
theorem dL_law_2865 : decode cL_law 2865 = .ok (.invokevirtual 292, 3) := by decide +kernel
theorem dL_law_2868 : decode cL_law 2868 = .ok (.istore 7, 2) := by decide +kernel
theorem dL_law_2870 : decode cL_law 2870 = .ok (.aload_n 2, 1) := by decide +kernel
theorem dL_law_2871 : decode cL_law 2871 = .ok (.invokevirtual 155, 3) := by decide +kernel
theorem dL_law_2874 : decode cL_law 2874 = .ok (.iload 6, 2) := by decide +kernel
theorem dL_law_2876 : decode cL_law 2876 = .ok (.if_icmp .eq 5, 3) := by decide +kernel
theorem dL_law_2879 : decode cL_law 2879 = .ok (.iconst 0, 1) := by decide +kernel
theorem dL_law_2880 : decode cL_law 2880 = .ok (.ireturn, 1) := by decide +kernel
theorem dL_law_2881 : decode cL_law 2881 = .ok (.iload 6, 2) := by decide +kernel
theorem dL_law_2883 : decode cL_law 2883 = .ok (.ifCond .ne 15, 3) := by decide +kernel
theorem dL_law_2886 : decode cL_law 2886 = .ok (.aload_n 3, 1) := by decide +kernel
theorem dL_law_2887 : decode cL_law 2887 = .ok (.iconst 0, 1) := by decide +kernel
theorem dL_law_2888 : decode cL_law 2888 = .ok (.laload, 1) := by decide +kernel
theorem dL_law_2889 : decode cL_law 2889 = .ok (.iload 7, 2) := by decide +kernel
theorem dL_law_2891 : decode cL_law 2891 = .ok (.i2l, 1) := by decide +kernel
theorem dL_law_2892 : decode cL_law 2892 = .ok (.lcmp, 1) := by decide +kernel
theorem dL_law_2893 : decode cL_law 2893 = .ok (.ifCond .eq 5, 3) := by decide +kernel
theorem dL_law_2896 : decode cL_law 2896 = .ok (.iconst 0, 1) := by decide +kernel
theorem dL_law_2897 : decode cL_law 2897 = .ok (.ireturn, 1) := by decide +kernel
theorem dL_law_2898 : decode cL_law 2898 = .ok (.goto 115, 3) := by decide +kernel
theorem dL_law_2901 : decode cL_law 2901 = .ok (.aload_n 1, 1) := by decide +kernel
theorem dL_law_2902 : decode cL_law 2902 = .ok (.aload_n 0, 1) := by decide +kernel
theorem dL_law_2903 : decode cL_law 2903 = .ok (.iload 5, 2) := by decide +kernel
theorem dL_law_2905 : decode cL_law 2905 = .ok (.iconst 1, 1) := by decide +kernel
theorem dL_law_2906 : decode cL_law 2906 = .ok (.iadd, 1) := by decide +kernel
theorem dL_law_2907 : decode cL_law 2907 = .ok (.iaload, 1) := by decide +kernel
theorem dL_law_2908 : decode cL_law 2908 = .ok (.aload_n 3, 1) := by decide +kernel
theorem dL_law_2909 : decode cL_law 2909 = .ok (.invokestatic 293, 3) := by decide +kernel
theorem dL_law_2912 : decode cL_law 2912 = .ok (.istore 6, 2) := by decide +kernel
theorem dL_law_2914 : decode cL_law 2914 = .ok (.aload_n 2, 1) := by decide +kernel
theorem dL_law_2915 : decode cL_law 2915 = .ok (.aload_n 0, 1) := by decide +kernel
theorem dL_law_2916 : decode cL_law 2916 = .ok (.iload 5, 2) := by decide +kernel
theorem dL_law_2918 : decode cL_law 2918 = .ok (.iconst 1, 1) := by decide +kernel
theorem dL_law_2919 : decode cL_law 2919 = .ok (.iadd, 1) := by decide +kernel
theorem dL_law_2920 : decode cL_law 2920 = .ok (.iaload, 1) := by decide +kernel
theorem dL_law_2921 : decode cL_law 2921 = .ok (.invokevirtual 295, 3) := by decide +kernel
theorem dL_law_2924 : decode cL_law 2924 = .ok (.istore 7, 2) := by decide +kernel
theorem dL_law_2926 : decode cL_law 2926 = .ok (.aload_n 2, 1) := by decide +kernel
theorem dL_law_2927 : decode cL_law 2927 = .ok (.invokevirtual 155, 3) := by decide +kernel
theorem dL_law_2930 : decode cL_law 2930 = .ok (.iload 6, 2) := by decide +kernel
theorem dL_law_2932 : decode cL_law 2932 = .ok (.if_icmp .eq 5, 3) := by decide +kernel
theorem dL_law_2935 : decode cL_law 2935 = .ok (.iconst 0, 1) := by decide +kernel
theorem dL_law_2936 : decode cL_law 2936 = .ok (.ireturn, 1) := by decide +kernel
theorem dL_law_2937 : decode cL_law 2937 = .ok (.iload 6, 2) := by decide +kernel
theorem dL_law_2939 : decode cL_law 2939 = .ok (.ifCond .ne 15, 3) := by decide +kernel
theorem dL_law_2942 : decode cL_law 2942 = .ok (.aload_n 3, 1) := by decide +kernel
theorem dL_law_2943 : decode cL_law 2943 = .ok (.iconst 0, 1) := by decide +kernel
theorem dL_law_2944 : decode cL_law 2944 = .ok (.laload, 1) := by decide +kernel
theorem dL_law_2945 : decode cL_law 2945 = .ok (.iload 7, 2) := by decide +kernel
theorem dL_law_2947 : decode cL_law 2947 = .ok (.i2l, 1) := by decide +kernel
theorem dL_law_2948 : decode cL_law 2948 = .ok (.lcmp, 1) := by decide +kernel
theorem dL_law_2949 : decode cL_law 2949 = .ok (.ifCond .eq 5, 3) := by decide +kernel
theorem dL_law_2952 : decode cL_law 2952 = .ok (.iconst 0, 1) := by decide +kernel
theorem dL_law_2953 : decode cL_law 2953 = .ok (.ireturn, 1) := by decide +kernel
theorem dL_law_2954 : decode cL_law 2954 = .ok (.goto 59, 3) := by decide +kernel
theorem dL_law_2957 : decode cL_law 2957 = .ok (.aload_n 1, 1) := by decide +kernel
theorem dL_law_2958 : decode cL_law 2958 = .ok (.aload_n 0, 1) := by decide +kernel
theorem dL_law_2959 : decode cL_law 2959 = .ok (.iload 5, 2) := by decide +kernel
theorem dL_law_2961 : decode cL_law 2961 = .ok (.iconst 1, 1) := by decide +kernel
theorem dL_law_2962 : decode cL_law 2962 = .ok (.iadd, 1) := by decide +kernel
theorem dL_law_2963 : decode cL_law 2963 = .ok (.iaload, 1) := by decide +kernel
theorem dL_law_2964 : decode cL_law 2964 = .ok (.aload_n 3, 1) := by decide +kernel
theorem dL_law_2965 : decode cL_law 2965 = .ok (.invokestatic 296, 3) := by decide +kernel
theorem dL_law_2968 : decode cL_law 2968 = .ok (.istore 6, 2) := by decide +kernel
theorem dL_law_2970 : decode cL_law 2970 = .ok (.aload_n 2, 1) := by decide +kernel
theorem dL_law_2971 : decode cL_law 2971 = .ok (.aload_n 0, 1) := by decide +kernel
theorem dL_law_2972 : decode cL_law 2972 = .ok (.iload 5, 2) := by decide +kernel
theorem dL_law_2974 : decode cL_law 2974 = .ok (.iconst 1, 1) := by decide +kernel
theorem dL_law_2975 : decode cL_law 2975 = .ok (.iadd, 1) := by decide +kernel
theorem dL_law_2976 : decode cL_law 2976 = .ok (.iaload, 1) := by decide +kernel
theorem dL_law_2977 : decode cL_law 2977 = .ok (.invokevirtual 298, 3) := by decide +kernel
theorem dL_law_2980 : decode cL_law 2980 = .ok (.istore 7, 2) := by decide +kernel
theorem dL_law_2982 : decode cL_law 2982 = .ok (.aload_n 2, 1) := by decide +kernel
theorem dL_law_2983 : decode cL_law 2983 = .ok (.invokevirtual 155, 3) := by decide +kernel
theorem dL_law_2986 : decode cL_law 2986 = .ok (.iload 6, 2) := by decide +kernel
theorem dL_law_2988 : decode cL_law 2988 = .ok (.if_icmp .eq 5, 3) := by decide +kernel
theorem dL_law_2991 : decode cL_law 2991 = .ok (.iconst 0, 1) := by decide +kernel
theorem dL_law_2992 : decode cL_law 2992 = .ok (.ireturn, 1) := by decide +kernel
theorem dL_law_2993 : decode cL_law 2993 = .ok (.iload 6, 2) := by decide +kernel
theorem dL_law_2995 : decode cL_law 2995 = .ok (.ifCond .ne 15, 3) := by decide +kernel
theorem dL_law_2998 : decode cL_law 2998 = .ok (.aload_n 3, 1) := by decide +kernel
theorem dL_law_2999 : decode cL_law 2999 = .ok (.iconst 0, 1) := by decide +kernel
theorem dL_law_3000 : decode cL_law 3000 = .ok (.laload, 1) := by decide +kernel
theorem dL_law_3001 : decode cL_law 3001 = .ok (.iload 7, 2) := by decide +kernel
theorem dL_law_3003 : decode cL_law 3003 = .ok (.i2l, 1) := by decide +kernel
theorem dL_law_3004 : decode cL_law 3004 = .ok (.lcmp, 1) := by decide +kernel
theorem dL_law_3005 : decode cL_law 3005 = .ok (.ifCond .eq 5, 3) := by decide +kernel
theorem dL_law_3008 : decode cL_law 3008 = .ok (.iconst 0, 1) := by decide +kernel
theorem dL_law_3009 : decode cL_law 3009 = .ok (.ireturn, 1) := by decide +kernel
theorem dL_law_3010 : decode cL_law 3010 = .ok (.goto 3, 3) := by decide +kernel
theorem dL_law_3013 : decode cL_law 3013 = .ok (.iinc 5 4, 3) := by decide +kernel
theorem dL_law_3016 : decode cL_law 3016 = .ok (.goto (-2988), 3) := by decide +kernel
theorem dL_law_3019 : decode cL_law 3019 = .ok (.iconst 1, 1) := by decide +kernel
theorem dL_law_3020 : decode cL_law 3020 = .ok (.ireturn, 1) := by decide +kernel
