theorem dX8_init_0 : decode cX8_init 0 = .ok (.aload_n 0, 1) := by decide +kernel
theorem dX8_init_1 : decode cX8_init 1 = .ok (.invokespecial 1, 3) := by decide +kernel
theorem dX8_init_4 : decode cX8_init 4 = .ok (.aload_n 0, 1) := by decide +kernel
theorem dX8_init_5 : decode cX8_init 5 = .ok (.new 7, 3) := by decide +kernel
theorem dX8_init_8 : decode cX8_init 8 = .ok (.dup, 1) := by decide +kernel
theorem dX8_init_9 : decode cX8_init 9 = .ok (.invokespecial 9, 3) := by decide +kernel
theorem dX8_init_12 : decode cX8_init 12 = .ok (.putfield 10, 3) := by decide +kernel
theorem dX8_init_15 : decode cX8_init 15 = .ok (.aload_n 0, 1) := by decide +kernel
theorem dX8_init_16 : decode cX8_init 16 = .ok (.new 16, 3) := by decide +kernel
theorem dX8_init_19 : decode cX8_init 19 = .ok (.dup, 1) := by decide +kernel
theorem dX8_init_20 : decode cX8_init 20 = .ok (.aload_n 0, 1) := by decide +kernel
theorem dX8_init_21 : decode cX8_init 21 = .ok (.getfield 10, 3) := by decide +kernel
theorem dX8_init_24 : decode cX8_init 24 = .ok (.invokespecial 18, 3) := by decide +kernel
theorem dX8_init_27 : decode cX8_init 27 = .ok (.putfield 21, 3) := by decide +kernel
theorem dX8_init_30 : decode cX8_init 30 = .ok (.aload_n 0, 1) := by decide +kernel
theorem dX8_init_31 : decode cX8_init 31 = .ok (.new 25, 3) := by decide +kernel
theorem dX8_init_34 : decode cX8_init 34 = .ok (.dup, 1) := by decide +kernel
theorem dX8_init_35 : decode cX8_init 35 = .ok (.aload_n 0, 1) := by decide +kernel
theorem dX8_init_36 : decode cX8_init 36 = .ok (.getfield 10, 3) := by decide +kernel
theorem dX8_init_39 : decode cX8_init 39 = .ok (.aload_n 0, 1) := by decide +kernel
theorem dX8_init_40 : decode cX8_init 40 = .ok (.getfield 21, 3) := by decide +kernel
theorem dX8_init_43 : decode cX8_init 43 = .ok (.invokespecial 27, 3) := by decide +kernel
theorem dX8_init_46 : decode cX8_init 46 = .ok (.putfield 30, 3) := by decide +kernel
theorem dX8_init_49 : decode cX8_init 49 = .ok (.aload_n 0, 1) := by decide +kernel
theorem dX8_init_50 : decode cX8_init 50 = .ok (.new 34, 3) := by decide +kernel
theorem dX8_init_53 : decode cX8_init 53 = .ok (.dup, 1) := by decide +kernel
theorem dX8_init_54 : decode cX8_init 54 = .ok (.aload_n 0, 1) := by decide +kernel
theorem dX8_init_55 : decode cX8_init 55 = .ok (.getfield 10, 3) := by decide +kernel
theorem dX8_init_58 : decode cX8_init 58 = .ok (.aload_n 0, 1) := by decide +kernel
theorem dX8_init_59 : decode cX8_init 59 = .ok (.getfield 21, 3) := by decide +kernel
theorem dX8_init_62 : decode cX8_init 62 = .ok (.aload_n 0, 1) := by decide +kernel
theorem dX8_init_63 : decode cX8_init 63 = .ok (.getfield 30, 3) := by decide +kernel
theorem dX8_init_66 : decode cX8_init 66 = .ok (.invokespecial 36, 3) := by decide +kernel
theorem dX8_init_69 : decode cX8_init 69 = .ok (.putfield 39, 3) := by decide +kernel
theorem dX8_init_72 : decode cX8_init 72 = .ok (.aload_n 0, 1) := by decide +kernel
theorem dX8_init_73 : decode cX8_init 73 = .ok (.new 43, 3) := by decide +kernel
theorem dX8_init_76 : decode cX8_init 76 = .ok (.dup, 1) := by decide +kernel
theorem dX8_init_77 : decode cX8_init 77 = .ok (.aload_n 0, 1) := by decide +kernel
theorem dX8_init_78 : decode cX8_init 78 = .ok (.getfield 10, 3) := by decide +kernel
theorem dX8_init_81 : decode cX8_init 81 = .ok (.invokespecial 45, 3) := by decide +kernel
theorem dX8_init_84 : decode cX8_init 84 = .ok (.putfield 46, 3) := by decide +kernel
theorem dX8_init_87 : decode cX8_init 87 = .ok (.aload_n 0, 1) := by decide +kernel
theorem dX8_init_88 : decode cX8_init 88 = .ok (.new 50, 3) := by decide +kernel
theorem dX8_init_91 : decode cX8_init 91 = .ok (.dup, 1) := by decide +kernel
theorem dX8_init_92 : decode cX8_init 92 = .ok (.aload_n 0, 1) := by decide +kernel
theorem dX8_init_93 : decode cX8_init 93 = .ok (.getfield 10, 3) := by decide +kernel
theorem dX8_init_96 : decode cX8_init 96 = .ok (.invokespecial 52, 3) := by decide +kernel
theorem dX8_init_99 : decode cX8_init 99 = .ok (.putfield 53, 3) := by decide +kernel
theorem dX8_init_102 : decode cX8_init 102 = .ok (.aload_n 0, 1) := by decide +kernel
theorem dX8_init_103 : decode cX8_init 103 = .ok (.new 57, 3) := by decide +kernel
theorem dX8_init_106 : decode cX8_init 106 = .ok (.dup, 1) := by decide +kernel
theorem dX8_init_107 : decode cX8_init 107 = .ok (.aload_n 0, 1) := by decide +kernel
theorem dX8_init_108 : decode cX8_init 108 = .ok (.getfield 10, 3) := by decide +kernel
theorem dX8_init_111 : decode cX8_init 111 = .ok (.aload_n 0, 1) := by decide +kernel
theorem dX8_init_112 : decode cX8_init 112 = .ok (.getfield 30, 3) := by decide +kernel
theorem dX8_init_115 : decode cX8_init 115 = .ok (.invokespecial 59, 3) := by decide +kernel
theorem dX8_init_118 : decode cX8_init 118 = .ok (.putfield 62, 3) := by decide +kernel
theorem dX8_init_121 : decode cX8_init 121 = .ok (.aload_n 0, 1) := by decide +kernel
theorem dX8_init_122 : decode cX8_init 122 = .ok (.new 66, 3) := by decide +kernel
theorem dX8_init_125 : decode cX8_init 125 = .ok (.dup, 1) := by decide +kernel
theorem dX8_init_126 : decode cX8_init 126 = .ok (.aload_n 0, 1) := by decide +kernel
theorem dX8_init_127 : decode cX8_init 127 = .ok (.getfield 10, 3) := by decide +kernel
theorem dX8_init_130 : decode cX8_init 130 = .ok (.aload_n 0, 1) := by decide +kernel
theorem dX8_init_131 : decode cX8_init 131 = .ok (.getfield 30, 3) := by decide +kernel
theorem dX8_init_134 : decode cX8_init 134 = .ok (.invokespecial 68, 3) := by decide +kernel
theorem dX8_init_137 : decode cX8_init 137 = .ok (.putfield 69, 3) := by decide +kernel
theorem dX8_init_140 : decode cX8_init 140 = .ok (.return_, 1) := by decide +kernel
theorem dX8_addVertex_0 : decode cX8_addVertex 0 = .ok (.iload_n 1, 1) := by decide +kernel
theorem dX8_addVertex_1 : decode cX8_addVertex 1 = .ok (.invokestatic 73, 3) := by decide +kernel
theorem dX8_addVertex_4 : decode cX8_addVertex 4 = .ok (.aload_n 0, 1) := by decide +kernel
theorem dX8_addVertex_5 : decode cX8_addVertex 5 = .ok (.getfield 10, 3) := by decide +kernel
theorem dX8_addVertex_8 : decode cX8_addVertex 8 = .ok (.invokevirtual 77, 3) := by decide +kernel
theorem dX8_addVertex_11 : decode cX8_addVertex 11 = .ok (.bipush 20, 2) := by decide +kernel
theorem dX8_addVertex_13 : decode cX8_addVertex 13 = .ok (.if_icmp .lt 13, 3) := by decide +kernel
theorem dX8_addVertex_16 : decode cX8_addVertex 16 = .ok (.new 81, 3) := by decide +kernel
theorem dX8_addVertex_19 : decode cX8_addVertex 19 = .ok (.dup, 1) := by decide +kernel
theorem dX8_addVertex_20 : decode cX8_addVertex 20 = .ok (.ldc 83, 2) := by decide +kernel
theorem dX8_addVertex_22 : decode cX8_addVertex 22 = .ok (.invokespecial 85, 3) := by decide +kernel
theorem dX8_addVertex_25 : decode cX8_addVertex 25 = .ok (.athrow, 1) := by decide +kernel
theorem dX8_addVertex_26 : decode cX8_addVertex 26 = .ok (.aload_n 0, 1) := by decide +kernel
theorem dX8_addVertex_27 : decode cX8_addVertex 27 = .ok (.getfield 10, 3) := by decide +kernel
theorem dX8_addVertex_30 : decode cX8_addVertex 30 = .ok (.iload_n 1, 1) := by decide +kernel
theorem dX8_addVertex_31 : decode cX8_addVertex 31 = .ok (.invokevirtual 88, 3) := by decide +kernel
theorem dX8_addVertex_34 : decode cX8_addVertex 34 = .ok (.ireturn, 1) := by decide +kernel
theorem dX8_setValue_0 : decode cX8_setValue 0 = .ok (.aload_n 0, 1) := by decide +kernel
theorem dX8_setValue_1 : decode cX8_setValue 1 = .ok (.iload_n 1, 1) := by decide +kernel
theorem dX8_setValue_2 : decode cX8_setValue 2 = .ok (.invokevirtual 92, 3) := by decide +kernel
theorem dX8_setValue_5 : decode cX8_setValue 5 = .ok (.iload_n 2, 1) := by decide +kernel
theorem dX8_setValue_6 : decode cX8_setValue 6 = .ok (.invokestatic 73, 3) := by decide +kernel
theorem dX8_setValue_9 : decode cX8_setValue 9 = .ok (.aload_n 0, 1) := by decide +kernel
theorem dX8_setValue_10 : decode cX8_setValue 10 = .ok (.getfield 10, 3) := by decide +kernel
theorem dX8_setValue_13 : decode cX8_setValue 13 = .ok (.iload_n 1, 1) := by decide +kernel
theorem dX8_setValue_14 : decode cX8_setValue 14 = .ok (.invokevirtual 95, 3) := by decide +kernel
theorem dX8_setValue_17 : decode cX8_setValue 17 = .ok (.istore_n 3, 1) := by decide +kernel
theorem dX8_setValue_18 : decode cX8_setValue 18 = .ok (.aload_n 0, 1) := by decide +kernel
theorem dX8_setValue_19 : decode cX8_setValue 19 = .ok (.getfield 10, 3) := by decide +kernel
theorem dX8_setValue_22 : decode cX8_setValue 22 = .ok (.iload_n 1, 1) := by decide +kernel
theorem dX8_setValue_23 : decode cX8_setValue 23 = .ok (.iload_n 2, 1) := by decide +kernel
theorem dX8_setValue_24 : decode cX8_setValue 24 = .ok (.invokevirtual 98, 3) := by decide +kernel
theorem dX8_setValue_27 : decode cX8_setValue 27 = .ok (.iload_n 3, 1) := by decide +kernel
theorem dX8_setValue_28 : decode cX8_setValue 28 = .ok (.ireturn, 1) := by decide +kernel
theorem dX8_addEdge_0 : decode cX8_addEdge 0 = .ok (.aload_n 0, 1) := by decide +kernel
theorem dX8_addEdge_1 : decode cX8_addEdge 1 = .ok (.iload_n 1, 1) := by decide +kernel
theorem dX8_addEdge_2 : decode cX8_addEdge 2 = .ok (.iload_n 2, 1) := by decide +kernel
theorem dX8_addEdge_3 : decode cX8_addEdge 3 = .ok (.invokevirtual 102, 3) := by decide +kernel
theorem dX8_addEdge_6 : decode cX8_addEdge 6 = .ok (.iload_n 3, 1) := by decide +kernel
theorem dX8_addEdge_7 : decode cX8_addEdge 7 = .ok (.invokestatic 105, 3) := by decide +kernel
theorem dX8_addEdge_10 : decode cX8_addEdge 10 = .ok (.iload_n 1, 1) := by decide +kernel
theorem dX8_addEdge_11 : decode cX8_addEdge 11 = .ok (.iload_n 2, 1) := by decide +kernel
theorem dX8_addEdge_12 : decode cX8_addEdge 12 = .ok (.invokestatic 108, 3) := by decide +kernel
theorem dX8_addEdge_15 : decode cX8_addEdge 15 = .ok (.aload_n 0, 1) := by decide +kernel
theorem dX8_addEdge_16 : decode cX8_addEdge 16 = .ok (.getfield 10, 3) := by decide +kernel
theorem dX8_addEdge_19 : decode cX8_addEdge 19 = .ok (.invokevirtual 111, 3) := by decide +kernel
theorem dX8_addEdge_22 : decode cX8_addEdge 22 = .ok (.bipush 60, 2) := by decide +kernel
theorem dX8_addEdge_24 : decode cX8_addEdge 24 = .ok (.if_icmp .lt 13, 3) := by decide +kernel
theorem dX8_addEdge_27 : decode cX8_addEdge 27 = .ok (.new 81, 3) := by decide +kernel
theorem dX8_addEdge_30 : decode cX8_addEdge 30 = .ok (.dup, 1) := by decide +kernel
theorem dX8_addEdge_31 : decode cX8_addEdge 31 = .ok (.ldc 114, 2) := by decide +kernel
theorem dX8_addEdge_33 : decode cX8_addEdge 33 = .ok (.invokespecial 85, 3) := by decide +kernel
theorem dX8_addEdge_36 : decode cX8_addEdge 36 = .ok (.athrow, 1) := by decide +kernel
theorem dX8_addEdge_37 : decode cX8_addEdge 37 = .ok (.aload_n 0, 1) := by decide +kernel
theorem dX8_addEdge_38 : decode cX8_addEdge 38 = .ok (.getfield 10, 3) := by decide +kernel
theorem dX8_addEdge_41 : decode cX8_addEdge 41 = .ok (.iload_n 1, 1) := by decide +kernel
theorem dX8_addEdge_42 : decode cX8_addEdge 42 = .ok (.iload_n 2, 1) := by decide +kernel
theorem dX8_addEdge_43 : decode cX8_addEdge 43 = .ok (.iload_n 3, 1) := by decide +kernel
theorem dX8_addEdge_44 : decode cX8_addEdge 44 = .ok (.invokevirtual 116, 3) := by decide +kernel
theorem dX8_addEdge_47 : decode cX8_addEdge 47 = .ok (.istore 4, 2) := by decide +kernel
theorem dX8_addEdge_49 : decode cX8_addEdge 49 = .ok (.aload_n 0, 1) := by decide +kernel
theorem dX8_addEdge_50 : decode cX8_addEdge 50 = .ok (.getfield 39, 3) := by decide +kernel
theorem dX8_addEdge_53 : decode cX8_addEdge 53 = .ok (.iload 4, 2) := by decide +kernel
theorem dX8_addEdge_55 : decode cX8_addEdge 55 = .ok (.invokevirtual 120, 3) := by decide +kernel
theorem dX8_addEdge_58 : decode cX8_addEdge 58 = .ok (.iload 4, 2) := by decide +kernel
theorem dX8_addEdge_60 : decode cX8_addEdge 60 = .ok (.ireturn, 1) := by decide +kernel
theorem dX8_removeEdge_0 : decode cX8_removeEdge 0 = .ok (.aload_n 0, 1) := by decide +kernel
theorem dX8_removeEdge_1 : decode cX8_removeEdge 1 = .ok (.iload_n 1, 1) := by decide +kernel
theorem dX8_removeEdge_2 : decode cX8_removeEdge 2 = .ok (.invokevirtual 123, 3) := by decide +kernel
theorem dX8_removeEdge_5 : decode cX8_removeEdge 5 = .ok (.aload_n 0, 1) := by decide +kernel
theorem dX8_removeEdge_6 : decode cX8_removeEdge 6 = .ok (.iload_n 1, 1) := by decide +kernel
theorem dX8_removeEdge_7 : decode cX8_removeEdge 7 = .ok (.invokevirtual 126, 3) := by decide +kernel
theorem dX8_removeEdge_10 : decode cX8_removeEdge 10 = .ok (.aload_n 0, 1) := by decide +kernel
theorem dX8_removeEdge_11 : decode cX8_removeEdge 11 = .ok (.getfield 39, 3) := by decide +kernel
theorem dX8_removeEdge_14 : decode cX8_removeEdge 14 = .ok (.iload_n 1, 1) := by decide +kernel
theorem dX8_removeEdge_15 : decode cX8_removeEdge 15 = .ok (.invokevirtual 129, 3) := by decide +kernel
theorem dX8_removeEdge_18 : decode cX8_removeEdge 18 = .ok (.ireturn, 1) := by decide +kernel
theorem dX8_setWeight_0 : decode cX8_setWeight 0 = .ok (.aload_n 0, 1) := by decide +kernel
theorem dX8_setWeight_1 : decode cX8_setWeight 1 = .ok (.iload_n 1, 1) := by decide +kernel
theorem dX8_setWeight_2 : decode cX8_setWeight 2 = .ok (.invokevirtual 123, 3) := by decide +kernel
theorem dX8_setWeight_5 : decode cX8_setWeight 5 = .ok (.iload_n 2, 1) := by decide +kernel
theorem dX8_setWeight_6 : decode cX8_setWeight 6 = .ok (.invokestatic 105, 3) := by decide +kernel
theorem dX8_setWeight_9 : decode cX8_setWeight 9 = .ok (.aload_n 0, 1) := by decide +kernel
theorem dX8_setWeight_10 : decode cX8_setWeight 10 = .ok (.iload_n 1, 1) := by decide +kernel
theorem dX8_setWeight_11 : decode cX8_setWeight 11 = .ok (.invokevirtual 126, 3) := by decide +kernel
theorem dX8_setWeight_14 : decode cX8_setWeight 14 = .ok (.aload_n 0, 1) := by decide +kernel
theorem dX8_setWeight_15 : decode cX8_setWeight 15 = .ok (.getfield 10, 3) := by decide +kernel
theorem dX8_setWeight_18 : decode cX8_setWeight 18 = .ok (.iload_n 1, 1) := by decide +kernel
theorem dX8_setWeight_19 : decode cX8_setWeight 19 = .ok (.invokevirtual 132, 3) := by decide +kernel
theorem dX8_setWeight_22 : decode cX8_setWeight 22 = .ok (.istore_n 3, 1) := by decide +kernel
theorem dX8_setWeight_23 : decode cX8_setWeight 23 = .ok (.aload_n 0, 1) := by decide +kernel
theorem dX8_setWeight_24 : decode cX8_setWeight 24 = .ok (.getfield 39, 3) := by decide +kernel
theorem dX8_setWeight_27 : decode cX8_setWeight 27 = .ok (.iload_n 1, 1) := by decide +kernel
theorem dX8_setWeight_28 : decode cX8_setWeight 28 = .ok (.iload_n 2, 1) := by decide +kernel
theorem dX8_setWeight_29 : decode cX8_setWeight 29 = .ok (.invokevirtual 135, 3) := by decide +kernel
theorem dX8_setWeight_32 : decode cX8_setWeight 32 = .ok (.iload_n 3, 1) := by decide +kernel
theorem dX8_setWeight_33 : decode cX8_setWeight 33 = .ok (.ireturn, 1) := by decide +kernel
theorem dX8_addOnPath_0 : decode cX8_addOnPath 0 = .ok (.aload_n 0, 1) := by decide +kernel
theorem dX8_addOnPath_1 : decode cX8_addOnPath 1 = .ok (.iload_n 1, 1) := by decide +kernel
theorem dX8_addOnPath_2 : decode cX8_addOnPath 2 = .ok (.iload_n 2, 1) := by decide +kernel
theorem dX8_addOnPath_3 : decode cX8_addOnPath 3 = .ok (.invokevirtual 102, 3) := by decide +kernel
theorem dX8_addOnPath_6 : decode cX8_addOnPath 6 = .ok (.iload_n 3, 1) := by decide +kernel
theorem dX8_addOnPath_7 : decode cX8_addOnPath 7 = .ok (.bipush (-9), 2) := by decide +kernel
theorem dX8_addOnPath_9 : decode cX8_addOnPath 9 = .ok (.bipush 9, 2) := by decide +kernel
theorem dX8_addOnPath_11 : decode cX8_addOnPath 11 = .ok (.invokestatic 138, 3) := by decide +kernel
theorem dX8_addOnPath_14 : decode cX8_addOnPath 14 = .ok (.ifCond .ne 13, 3) := by decide +kernel
theorem dX8_addOnPath_17 : decode cX8_addOnPath 17 = .ok (.new 142, 3) := by decide +kernel
theorem dX8_addOnPath_20 : decode cX8_addOnPath 20 = .ok (.dup, 1) := by decide +kernel
theorem dX8_addOnPath_21 : decode cX8_addOnPath 21 = .ok (.ldc 144, 2) := by decide +kernel
theorem dX8_addOnPath_23 : decode cX8_addOnPath 23 = .ok (.invokespecial 146, 3) := by decide +kernel
theorem dX8_addOnPath_26 : decode cX8_addOnPath 26 = .ok (.athrow, 1) := by decide +kernel
theorem dX8_addOnPath_27 : decode cX8_addOnPath 27 = .ok (.aload_n 0, 1) := by decide +kernel
theorem dX8_addOnPath_28 : decode cX8_addOnPath 28 = .ok (.iload_n 2, 1) := by decide +kernel
theorem dX8_addOnPath_29 : decode cX8_addOnPath 29 = .ok (.iload_n 1, 1) := by decide +kernel
theorem dX8_addOnPath_30 : decode cX8_addOnPath 30 = .ok (.invokevirtual 147, 3) := by decide +kernel
theorem dX8_addOnPath_33 : decode cX8_addOnPath 33 = .ok (.aload_n 0, 1) := by decide +kernel
theorem dX8_addOnPath_34 : decode cX8_addOnPath 34 = .ok (.getfield 30, 3) := by decide +kernel
theorem dX8_addOnPath_37 : decode cX8_addOnPath 37 = .ok (.iload_n 1, 1) := by decide +kernel
theorem dX8_addOnPath_38 : decode cX8_addOnPath 38 = .ok (.iload_n 3, 1) := by decide +kernel
theorem dX8_addOnPath_39 : decode cX8_addOnPath 39 = .ok (.invokevirtual 150, 3) := by decide +kernel
theorem dX8_addOnPath_42 : decode cX8_addOnPath 42 = .ok (.aload_n 0, 1) := by decide +kernel
theorem dX8_addOnPath_43 : decode cX8_addOnPath 43 = .ok (.getfield 30, 3) := by decide +kernel
theorem dX8_addOnPath_46 : decode cX8_addOnPath 46 = .ok (.iload_n 1, 1) := by decide +kernel
theorem dX8_addOnPath_47 : decode cX8_addOnPath 47 = .ok (.invokevirtual 153, 3) := by decide +kernel
theorem dX8_addOnPath_50 : decode cX8_addOnPath 50 = .ok (.iconst 1, 1) := by decide +kernel
theorem dX8_addOnPath_51 : decode cX8_addOnPath 51 = .ok (.iadd, 1) := by decide +kernel
theorem dX8_addOnPath_52 : decode cX8_addOnPath 52 = .ok (.ireturn, 1) := by decide +kernel
theorem dX8_vertices_0 : decode cX8_vertices 0 = .ok (.aload_n 0, 1) := by decide +kernel
theorem dX8_vertices_1 : decode cX8_vertices 1 = .ok (.getfield 10, 3) := by decide +kernel
theorem dX8_vertices_4 : decode cX8_vertices 4 = .ok (.invokevirtual 77, 3) := by decide +kernel
theorem dX8_vertices_7 : decode cX8_vertices 7 = .ok (.ireturn, 1) := by decide +kernel
theorem dX8_edges_0 : decode cX8_edges 0 = .ok (.aload_n 0, 1) := by decide +kernel
theorem dX8_edges_1 : decode cX8_edges 1 = .ok (.getfield 10, 3) := by decide +kernel
theorem dX8_edges_4 : decode cX8_edges 4 = .ok (.invokevirtual 111, 3) := by decide +kernel
theorem dX8_edges_7 : decode cX8_edges 7 = .ok (.ireturn, 1) := by decide +kernel
theorem dX8_value_0 : decode cX8_value 0 = .ok (.aload_n 0, 1) := by decide +kernel
theorem dX8_value_1 : decode cX8_value 1 = .ok (.iload_n 1, 1) := by decide +kernel
theorem dX8_value_2 : decode cX8_value 2 = .ok (.invokevirtual 92, 3) := by decide +kernel
theorem dX8_value_5 : decode cX8_value 5 = .ok (.aload_n 0, 1) := by decide +kernel
theorem dX8_value_6 : decode cX8_value 6 = .ok (.getfield 10, 3) := by decide +kernel
theorem dX8_value_9 : decode cX8_value 9 = .ok (.iload_n 1, 1) := by decide +kernel
theorem dX8_value_10 : decode cX8_value 10 = .ok (.invokevirtual 95, 3) := by decide +kernel
theorem dX8_value_13 : decode cX8_value 13 = .ok (.ireturn, 1) := by decide +kernel
theorem dX8_weight_0 : decode cX8_weight 0 = .ok (.aload_n 0, 1) := by decide +kernel
theorem dX8_weight_1 : decode cX8_weight 1 = .ok (.iload_n 1, 1) := by decide +kernel
theorem dX8_weight_2 : decode cX8_weight 2 = .ok (.invokevirtual 123, 3) := by decide +kernel
theorem dX8_weight_5 : decode cX8_weight 5 = .ok (.aload_n 0, 1) := by decide +kernel
theorem dX8_weight_6 : decode cX8_weight 6 = .ok (.getfield 10, 3) := by decide +kernel
theorem dX8_weight_9 : decode cX8_weight 9 = .ok (.iload_n 1, 1) := by decide +kernel
theorem dX8_weight_10 : decode cX8_weight 10 = .ok (.invokevirtual 132, 3) := by decide +kernel
theorem dX8_weight_13 : decode cX8_weight 13 = .ok (.ireturn, 1) := by decide +kernel
theorem dX8_state_0 : decode cX8_state 0 = .ok (.aload_n 0, 1) := by decide +kernel
theorem dX8_state_1 : decode cX8_state 1 = .ok (.iload_n 1, 1) := by decide +kernel
theorem dX8_state_2 : decode cX8_state 2 = .ok (.invokevirtual 123, 3) := by decide +kernel
theorem dX8_state_5 : decode cX8_state 5 = .ok (.aload_n 0, 1) := by decide +kernel
theorem dX8_state_6 : decode cX8_state 6 = .ok (.getfield 10, 3) := by decide +kernel
theorem dX8_state_9 : decode cX8_state 9 = .ok (.iload_n 1, 1) := by decide +kernel
theorem dX8_state_10 : decode cX8_state 10 = .ok (.invokevirtual 156, 3) := by decide +kernel
theorem dX8_state_13 : decode cX8_state 13 = .ok (.ifCond .ne 6, 3) := by decide +kernel
theorem dX8_state_16 : decode cX8_state 16 = .ok (.bipush 114, 2) := by decide +kernel
theorem dX8_state_18 : decode cX8_state 18 = .ok (.ireturn, 1) := by decide +kernel
theorem dX8_state_19 : decode cX8_state 19 = .ok (.aload_n 0, 1) := by decide +kernel
theorem dX8_state_20 : decode cX8_state 20 = .ok (.getfield 21, 3) := by decide +kernel
theorem dX8_state_23 : decode cX8_state 23 = .ok (.iload_n 1, 1) := by decide +kernel
theorem dX8_state_24 : decode cX8_state 24 = .ok (.invokevirtual 160, 3) := by decide +kernel
theorem dX8_state_27 : decode cX8_state 27 = .ok (.ifCond .eq 8, 3) := by decide +kernel
theorem dX8_state_30 : decode cX8_state 30 = .ok (.bipush 102, 2) := by decide +kernel
theorem dX8_state_32 : decode cX8_state 32 = .ok (.goto 5, 3) := by decide +kernel
theorem dX8_state_35 : decode cX8_state 35 = .ok (.bipush 111, 2) := by decide +kernel
theorem dX8_state_37 : decode cX8_state 37 = .ok (.ireturn, 1) := by decide +kernel
theorem dX8_otherEnd_0 : decode cX8_otherEnd 0 = .ok (.aload_n 0, 1) := by decide +kernel
theorem dX8_otherEnd_1 : decode cX8_otherEnd 1 = .ok (.iload_n 1, 1) := by decide +kernel
theorem dX8_otherEnd_2 : decode cX8_otherEnd 2 = .ok (.invokevirtual 123, 3) := by decide +kernel
theorem dX8_otherEnd_5 : decode cX8_otherEnd 5 = .ok (.aload_n 0, 1) := by decide +kernel
theorem dX8_otherEnd_6 : decode cX8_otherEnd 6 = .ok (.iload_n 2, 1) := by decide +kernel
theorem dX8_otherEnd_7 : decode cX8_otherEnd 7 = .ok (.invokevirtual 92, 3) := by decide +kernel
theorem dX8_otherEnd_10 : decode cX8_otherEnd 10 = .ok (.aload_n 0, 1) := by decide +kernel
theorem dX8_otherEnd_11 : decode cX8_otherEnd 11 = .ok (.getfield 10, 3) := by decide +kernel
theorem dX8_otherEnd_14 : decode cX8_otherEnd 14 = .ok (.iload_n 1, 1) := by decide +kernel
theorem dX8_otherEnd_15 : decode cX8_otherEnd 15 = .ok (.iload_n 2, 1) := by decide +kernel
theorem dX8_otherEnd_16 : decode cX8_otherEnd 16 = .ok (.invokevirtual 163, 3) := by decide +kernel
theorem dX8_otherEnd_19 : decode cX8_otherEnd 19 = .ok (.istore_n 3, 1) := by decide +kernel
theorem dX8_otherEnd_20 : decode cX8_otherEnd 20 = .ok (.iload_n 3, 1) := by decide +kernel
theorem dX8_otherEnd_21 : decode cX8_otherEnd 21 = .ok (.iconst (-1), 1) := by decide +kernel
theorem dX8_otherEnd_22 : decode cX8_otherEnd 22 = .ok (.if_icmp .ne 13, 3) := by decide +kernel
theorem dX8_otherEnd_25 : decode cX8_otherEnd 25 = .ok (.new 167, 3) := by decide +kernel
theorem dX8_otherEnd_28 : decode cX8_otherEnd 28 = .ok (.dup, 1) := by decide +kernel
theorem dX8_otherEnd_29 : decode cX8_otherEnd 29 = .ok (.ldc 169, 2) := by decide +kernel
theorem dX8_otherEnd_31 : decode cX8_otherEnd 31 = .ok (.invokespecial 171, 3) := by decide +kernel
theorem dX8_otherEnd_34 : decode cX8_otherEnd 34 = .ok (.athrow, 1) := by decide +kernel
theorem dX8_otherEnd_35 : decode cX8_otherEnd 35 = .ok (.iload_n 3, 1) := by decide +kernel
theorem dX8_otherEnd_36 : decode cX8_otherEnd 36 = .ok (.ireturn, 1) := by decide +kernel
theorem dX8_parallel_0 : decode cX8_parallel 0 = .ok (.aload_n 0, 1) := by decide +kernel
theorem dX8_parallel_1 : decode cX8_parallel 1 = .ok (.iload_n 1, 1) := by decide +kernel
theorem dX8_parallel_2 : decode cX8_parallel 2 = .ok (.iload_n 2, 1) := by decide +kernel
theorem dX8_parallel_3 : decode cX8_parallel 3 = .ok (.invokevirtual 102, 3) := by decide +kernel
theorem dX8_parallel_6 : decode cX8_parallel 6 = .ok (.aload_n 0, 1) := by decide +kernel
theorem dX8_parallel_7 : decode cX8_parallel 7 = .ok (.getfield 10, 3) := by decide +kernel
theorem dX8_parallel_10 : decode cX8_parallel 10 = .ok (.iload_n 1, 1) := by decide +kernel
theorem dX8_parallel_11 : decode cX8_parallel 11 = .ok (.iload_n 2, 1) := by decide +kernel
theorem dX8_parallel_12 : decode cX8_parallel 12 = .ok (.invokevirtual 172, 3) := by decide +kernel
theorem dX8_parallel_15 : decode cX8_parallel 15 = .ok (.ireturn, 1) := by decide +kernel
theorem dX8_lightest_0 : decode cX8_lightest 0 = .ok (.aload_n 0, 1) := by decide +kernel
theorem dX8_lightest_1 : decode cX8_lightest 1 = .ok (.iload_n 1, 1) := by decide +kernel
theorem dX8_lightest_2 : decode cX8_lightest 2 = .ok (.iload_n 2, 1) := by decide +kernel
theorem dX8_lightest_3 : decode cX8_lightest 3 = .ok (.invokevirtual 102, 3) := by decide +kernel
theorem dX8_lightest_6 : decode cX8_lightest 6 = .ok (.aload_n 0, 1) := by decide +kernel
theorem dX8_lightest_7 : decode cX8_lightest 7 = .ok (.getfield 10, 3) := by decide +kernel
theorem dX8_lightest_10 : decode cX8_lightest 10 = .ok (.iload_n 1, 1) := by decide +kernel
theorem dX8_lightest_11 : decode cX8_lightest 11 = .ok (.iload_n 2, 1) := by decide +kernel
theorem dX8_lightest_12 : decode cX8_lightest 12 = .ok (.invokevirtual 175, 3) := by decide +kernel
theorem dX8_lightest_15 : decode cX8_lightest 15 = .ok (.istore_n 3, 1) := by decide +kernel
theorem dX8_lightest_16 : decode cX8_lightest 16 = .ok (.iload_n 3, 1) := by decide +kernel
theorem dX8_lightest_17 : decode cX8_lightest 17 = .ok (.iconst (-1), 1) := by decide +kernel
theorem dX8_lightest_18 : decode cX8_lightest 18 = .ok (.if_icmp .ne 13, 3) := by decide +kernel
theorem dX8_lightest_21 : decode cX8_lightest 21 = .ok (.new 167, 3) := by decide +kernel
theorem dX8_lightest_24 : decode cX8_lightest 24 = .ok (.dup, 1) := by decide +kernel
theorem dX8_lightest_25 : decode cX8_lightest 25 = .ok (.ldc 178, 2) := by decide +kernel
theorem dX8_lightest_27 : decode cX8_lightest 27 = .ok (.invokespecial 171, 3) := by decide +kernel
theorem dX8_lightest_30 : decode cX8_lightest 30 = .ok (.athrow, 1) := by decide +kernel
theorem dX8_lightest_31 : decode cX8_lightest 31 = .ok (.iload_n 3, 1) := by decide +kernel
theorem dX8_lightest_32 : decode cX8_lightest 32 = .ok (.ireturn, 1) := by decide +kernel
theorem dX8_forestWeight_0 : decode cX8_forestWeight 0 = .ok (.aload_n 0, 1) := by decide +kernel
theorem dX8_forestWeight_1 : decode cX8_forestWeight 1 = .ok (.getfield 21, 3) := by decide +kernel
theorem dX8_forestWeight_4 : decode cX8_forestWeight 4 = .ok (.invokevirtual 180, 3) := by decide +kernel
theorem dX8_forestWeight_7 : decode cX8_forestWeight 7 = .ok (.ireturn, 1) := by decide +kernel
theorem dX8_forestWeightAnew_0 : decode cX8_forestWeightAnew 0 = .ok (.aload_n 0, 1) := by decide +kernel
theorem dX8_forestWeightAnew_1 : decode cX8_forestWeightAnew 1 = .ok (.getfield 46, 3) := by decide +kernel
theorem dX8_forestWeightAnew_4 : decode cX8_forestWeightAnew 4 = .ok (.iconst (-1), 1) := by decide +kernel
theorem dX8_forestWeightAnew_5 : decode cX8_forestWeightAnew 5 = .ok (.invokevirtual 183, 3) := by decide +kernel
theorem dX8_forestWeightAnew_8 : decode cX8_forestWeightAnew 8 = .ok (.aload_n 0, 1) := by decide +kernel
theorem dX8_forestWeightAnew_9 : decode cX8_forestWeightAnew 9 = .ok (.getfield 46, 3) := by decide +kernel
theorem dX8_forestWeightAnew_12 : decode cX8_forestWeightAnew 12 = .ok (.invokevirtual 186, 3) := by decide +kernel
theorem dX8_forestWeightAnew_15 : decode cX8_forestWeightAnew 15 = .ok (.ireturn, 1) := by decide +kernel
theorem dX8_trees_0 : decode cX8_trees 0 = .ok (.aload_n 0, 1) := by decide +kernel
theorem dX8_trees_1 : decode cX8_trees 1 = .ok (.getfield 10, 3) := by decide +kernel
theorem dX8_trees_4 : decode cX8_trees 4 = .ok (.invokevirtual 77, 3) := by decide +kernel
theorem dX8_trees_7 : decode cX8_trees 7 = .ok (.aload_n 0, 1) := by decide +kernel
theorem dX8_trees_8 : decode cX8_trees 8 = .ok (.getfield 21, 3) := by decide +kernel
theorem dX8_trees_11 : decode cX8_trees 11 = .ok (.invokevirtual 187, 3) := by decide +kernel
theorem dX8_trees_14 : decode cX8_trees 14 = .ok (.isub, 1) := by decide +kernel
theorem dX8_trees_15 : decode cX8_trees 15 = .ok (.ireturn, 1) := by decide +kernel
theorem dX8_degree_0 : decode cX8_degree 0 = .ok (.aload_n 0, 1) := by decide +kernel
theorem dX8_degree_1 : decode cX8_degree 1 = .ok (.iload_n 1, 1) := by decide +kernel
theorem dX8_degree_2 : decode cX8_degree 2 = .ok (.invokevirtual 92, 3) := by decide +kernel
theorem dX8_degree_5 : decode cX8_degree 5 = .ok (.aload_n 0, 1) := by decide +kernel
theorem dX8_degree_6 : decode cX8_degree 6 = .ok (.getfield 21, 3) := by decide +kernel
theorem dX8_degree_9 : decode cX8_degree 9 = .ok (.iload_n 1, 1) := by decide +kernel
theorem dX8_degree_10 : decode cX8_degree 10 = .ok (.invokevirtual 190, 3) := by decide +kernel
theorem dX8_degree_13 : decode cX8_degree 13 = .ok (.ireturn, 1) := by decide +kernel
theorem dX8_neighbour_0 : decode cX8_neighbour 0 = .ok (.aload_n 0, 1) := by decide +kernel
theorem dX8_neighbour_1 : decode cX8_neighbour 1 = .ok (.iload_n 1, 1) := by decide +kernel
theorem dX8_neighbour_2 : decode cX8_neighbour 2 = .ok (.invokevirtual 92, 3) := by decide +kernel
theorem dX8_neighbour_5 : decode cX8_neighbour 5 = .ok (.aload_n 0, 1) := by decide +kernel
theorem dX8_neighbour_6 : decode cX8_neighbour 6 = .ok (.getfield 21, 3) := by decide +kernel
theorem dX8_neighbour_9 : decode cX8_neighbour 9 = .ok (.iload_n 1, 1) := by decide +kernel
theorem dX8_neighbour_10 : decode cX8_neighbour 10 = .ok (.iload_n 2, 1) := by decide +kernel
theorem dX8_neighbour_11 : decode cX8_neighbour 11 = .ok (.invokevirtual 193, 3) := by decide +kernel
theorem dX8_neighbour_14 : decode cX8_neighbour 14 = .ok (.istore_n 3, 1) := by decide +kernel
theorem dX8_neighbour_15 : decode cX8_neighbour 15 = .ok (.iload_n 3, 1) := by decide +kernel
theorem dX8_neighbour_16 : decode cX8_neighbour 16 = .ok (.iconst (-1), 1) := by decide +kernel
theorem dX8_neighbour_17 : decode cX8_neighbour 17 = .ok (.if_icmp .ne 13, 3) := by decide +kernel
theorem dX8_neighbour_20 : decode cX8_neighbour 20 = .ok (.new 167, 3) := by decide +kernel
theorem dX8_neighbour_23 : decode cX8_neighbour 23 = .ok (.dup, 1) := by decide +kernel
theorem dX8_neighbour_24 : decode cX8_neighbour 24 = .ok (.ldc 196, 2) := by decide +kernel
theorem dX8_neighbour_26 : decode cX8_neighbour 26 = .ok (.invokespecial 171, 3) := by decide +kernel
theorem dX8_neighbour_29 : decode cX8_neighbour 29 = .ok (.athrow, 1) := by decide +kernel
theorem dX8_neighbour_30 : decode cX8_neighbour 30 = .ok (.iload_n 3, 1) := by decide +kernel
theorem dX8_neighbour_31 : decode cX8_neighbour 31 = .ok (.ireturn, 1) := by decide +kernel
theorem dX8_isConnected_0 : decode cX8_isConnected 0 = .ok (.aload_n 0, 1) := by decide +kernel
theorem dX8_isConnected_1 : decode cX8_isConnected 1 = .ok (.iload_n 1, 1) := by decide +kernel
theorem dX8_isConnected_2 : decode cX8_isConnected 2 = .ok (.iload_n 2, 1) := by decide +kernel
theorem dX8_isConnected_3 : decode cX8_isConnected 3 = .ok (.invokevirtual 102, 3) := by decide +kernel
theorem dX8_isConnected_6 : decode cX8_isConnected 6 = .ok (.aload_n 0, 1) := by decide +kernel
theorem dX8_isConnected_7 : decode cX8_isConnected 7 = .ok (.getfield 30, 3) := by decide +kernel
theorem dX8_isConnected_10 : decode cX8_isConnected 10 = .ok (.iload_n 1, 1) := by decide +kernel
theorem dX8_isConnected_11 : decode cX8_isConnected 11 = .ok (.iconst (-1), 1) := by decide +kernel
theorem dX8_isConnected_12 : decode cX8_isConnected 12 = .ok (.invokevirtual 198, 3) := by decide +kernel
theorem dX8_isConnected_15 : decode cX8_isConnected 15 = .ok (.aload_n 0, 1) := by decide +kernel
theorem dX8_isConnected_16 : decode cX8_isConnected 16 = .ok (.getfield 30, 3) := by decide +kernel
theorem dX8_isConnected_19 : decode cX8_isConnected 19 = .ok (.iload_n 2, 1) := by decide +kernel
theorem dX8_isConnected_20 : decode cX8_isConnected 20 = .ok (.invokevirtual 201, 3) := by decide +kernel
theorem dX8_isConnected_23 : decode cX8_isConnected 23 = .ok (.ireturn, 1) := by decide +kernel
theorem dX8_isConnectedByWalk_0 : decode cX8_isConnectedByWalk 0 = .ok (.aload_n 0, 1) := by decide +kernel
theorem dX8_isConnectedByWalk_1 : decode cX8_isConnectedByWalk 1 = .ok (.iload_n 1, 1) := by decide +kernel
theorem dX8_isConnectedByWalk_2 : decode cX8_isConnectedByWalk 2 = .ok (.iload_n 2, 1) := by decide +kernel
theorem dX8_isConnectedByWalk_3 : decode cX8_isConnectedByWalk 3 = .ok (.invokevirtual 102, 3) := by decide +kernel
theorem dX8_isConnectedByWalk_6 : decode cX8_isConnectedByWalk 6 = .ok (.aload_n 0, 1) := by decide +kernel
theorem dX8_isConnectedByWalk_7 : decode cX8_isConnectedByWalk 7 = .ok (.getfield 53, 3) := by decide +kernel
theorem dX8_isConnectedByWalk_10 : decode cX8_isConnectedByWalk 10 = .ok (.iload_n 1, 1) := by decide +kernel
theorem dX8_isConnectedByWalk_11 : decode cX8_isConnectedByWalk 11 = .ok (.iload_n 2, 1) := by decide +kernel
theorem dX8_isConnectedByWalk_12 : decode cX8_isConnectedByWalk 12 = .ok (.invokevirtual 202, 3) := by decide +kernel
theorem dX8_isConnectedByWalk_15 : decode cX8_isConnectedByWalk 15 = .ok (.ireturn, 1) := by decide +kernel
theorem dX8_replacement_0 : decode cX8_replacement 0 = .ok (.aload_n 0, 1) := by decide +kernel
theorem dX8_replacement_1 : decode cX8_replacement 1 = .ok (.iload_n 1, 1) := by decide +kernel
theorem dX8_replacement_2 : decode cX8_replacement 2 = .ok (.invokevirtual 123, 3) := by decide +kernel
theorem dX8_replacement_5 : decode cX8_replacement 5 = .ok (.aload_n 0, 1) := by decide +kernel
theorem dX8_replacement_6 : decode cX8_replacement 6 = .ok (.iload_n 1, 1) := by decide +kernel
theorem dX8_replacement_7 : decode cX8_replacement 7 = .ok (.invokevirtual 206, 3) := by decide +kernel
theorem dX8_replacement_10 : decode cX8_replacement 10 = .ok (.aload_n 0, 1) := by decide +kernel
theorem dX8_replacement_11 : decode cX8_replacement 11 = .ok (.getfield 39, 3) := by decide +kernel
theorem dX8_replacement_14 : decode cX8_replacement 14 = .ok (.iload_n 1, 1) := by decide +kernel
theorem dX8_replacement_15 : decode cX8_replacement 15 = .ok (.invokevirtual 209, 3) := by decide +kernel
theorem dX8_replacement_18 : decode cX8_replacement 18 = .ok (.invokestatic 212, 3) := by decide +kernel
theorem dX8_replacement_21 : decode cX8_replacement 21 = .ok (.ireturn, 1) := by decide +kernel
theorem dX8_replacementAnew_0 : decode cX8_replacementAnew 0 = .ok (.aload_n 0, 1) := by decide +kernel
theorem dX8_replacementAnew_1 : decode cX8_replacementAnew 1 = .ok (.iload_n 1, 1) := by decide +kernel
theorem dX8_replacementAnew_2 : decode cX8_replacementAnew 2 = .ok (.invokevirtual 123, 3) := by decide +kernel
theorem dX8_replacementAnew_5 : decode cX8_replacementAnew 5 = .ok (.aload_n 0, 1) := by decide +kernel
theorem dX8_replacementAnew_6 : decode cX8_replacementAnew 6 = .ok (.iload_n 1, 1) := by decide +kernel
theorem dX8_replacementAnew_7 : decode cX8_replacementAnew 7 = .ok (.invokevirtual 206, 3) := by decide +kernel
theorem dX8_replacementAnew_10 : decode cX8_replacementAnew 10 = .ok (.aload_n 0, 1) := by decide +kernel
theorem dX8_replacementAnew_11 : decode cX8_replacementAnew 11 = .ok (.getfield 46, 3) := by decide +kernel
theorem dX8_replacementAnew_14 : decode cX8_replacementAnew 14 = .ok (.iload_n 1, 1) := by decide +kernel
theorem dX8_replacementAnew_15 : decode cX8_replacementAnew 15 = .ok (.invokevirtual 183, 3) := by decide +kernel
theorem dX8_replacementAnew_18 : decode cX8_replacementAnew 18 = .ok (.aload_n 0, 1) := by decide +kernel
theorem dX8_replacementAnew_19 : decode cX8_replacementAnew 19 = .ok (.getfield 46, 3) := by decide +kernel
theorem dX8_replacementAnew_22 : decode cX8_replacementAnew 22 = .ok (.aload_n 0, 1) := by decide +kernel
theorem dX8_replacementAnew_23 : decode cX8_replacementAnew 23 = .ok (.getfield 21, 3) := by decide +kernel
theorem dX8_replacementAnew_26 : decode cX8_replacementAnew 26 = .ok (.invokevirtual 215, 3) := by decide +kernel
theorem dX8_replacementAnew_29 : decode cX8_replacementAnew 29 = .ok (.invokestatic 212, 3) := by decide +kernel
theorem dX8_replacementAnew_32 : decode cX8_replacementAnew 32 = .ok (.ireturn, 1) := by decide +kernel
theorem dX8_pathVertices_0 : decode cX8_pathVertices 0 = .ok (.aload_n 0, 1) := by decide +kernel
theorem dX8_pathVertices_1 : decode cX8_pathVertices 1 = .ok (.iload_n 1, 1) := by decide +kernel
theorem dX8_pathVertices_2 : decode cX8_pathVertices 2 = .ok (.iload_n 2, 1) := by decide +kernel
theorem dX8_pathVertices_3 : decode cX8_pathVertices 3 = .ok (.invokevirtual 102, 3) := by decide +kernel
theorem dX8_pathVertices_6 : decode cX8_pathVertices 6 = .ok (.aload_n 0, 1) := by decide +kernel
theorem dX8_pathVertices_7 : decode cX8_pathVertices 7 = .ok (.iload_n 1, 1) := by decide +kernel
theorem dX8_pathVertices_8 : decode cX8_pathVertices 8 = .ok (.iload_n 2, 1) := by decide +kernel
theorem dX8_pathVertices_9 : decode cX8_pathVertices 9 = .ok (.invokevirtual 147, 3) := by decide +kernel
theorem dX8_pathVertices_12 : decode cX8_pathVertices 12 = .ok (.aload_n 0, 1) := by decide +kernel
theorem dX8_pathVertices_13 : decode cX8_pathVertices 13 = .ok (.getfield 30, 3) := by decide +kernel
theorem dX8_pathVertices_16 : decode cX8_pathVertices 16 = .ok (.iload_n 2, 1) := by decide +kernel
theorem dX8_pathVertices_17 : decode cX8_pathVertices 17 = .ok (.invokevirtual 153, 3) := by decide +kernel
theorem dX8_pathVertices_20 : decode cX8_pathVertices 20 = .ok (.iconst 1, 1) := by decide +kernel
theorem dX8_pathVertices_21 : decode cX8_pathVertices 21 = .ok (.iadd, 1) := by decide +kernel
theorem dX8_pathVertices_22 : decode cX8_pathVertices 22 = .ok (.ireturn, 1) := by decide +kernel
theorem dX8_pathVertex_0 : decode cX8_pathVertex 0 = .ok (.aload_n 0, 1) := by decide +kernel
theorem dX8_pathVertex_1 : decode cX8_pathVertex 1 = .ok (.iload_n 1, 1) := by decide +kernel
theorem dX8_pathVertex_2 : decode cX8_pathVertex 2 = .ok (.iload_n 2, 1) := by decide +kernel
theorem dX8_pathVertex_3 : decode cX8_pathVertex 3 = .ok (.invokevirtual 102, 3) := by decide +kernel
theorem dX8_pathVertex_6 : decode cX8_pathVertex 6 = .ok (.aload_n 0, 1) := by decide +kernel
theorem dX8_pathVertex_7 : decode cX8_pathVertex 7 = .ok (.iload_n 2, 1) := by decide +kernel
theorem dX8_pathVertex_8 : decode cX8_pathVertex 8 = .ok (.iload_n 1, 1) := by decide +kernel
theorem dX8_pathVertex_9 : decode cX8_pathVertex 9 = .ok (.invokevirtual 147, 3) := by decide +kernel
theorem dX8_pathVertex_12 : decode cX8_pathVertex 12 = .ok (.iload_n 3, 1) := by decide +kernel
theorem dX8_pathVertex_13 : decode cX8_pathVertex 13 = .ok (.iconst 0, 1) := by decide +kernel
theorem dX8_pathVertex_14 : decode cX8_pathVertex 14 = .ok (.aload_n 0, 1) := by decide +kernel
theorem dX8_pathVertex_15 : decode cX8_pathVertex 15 = .ok (.getfield 30, 3) := by decide +kernel
theorem dX8_pathVertex_18 : decode cX8_pathVertex 18 = .ok (.iload_n 1, 1) := by decide +kernel
theorem dX8_pathVertex_19 : decode cX8_pathVertex 19 = .ok (.invokevirtual 153, 3) := by decide +kernel
theorem dX8_pathVertex_22 : decode cX8_pathVertex 22 = .ok (.invokestatic 138, 3) := by decide +kernel
theorem dX8_pathVertex_25 : decode cX8_pathVertex 25 = .ok (.ifCond .ne 13, 3) := by decide +kernel
theorem dX8_pathVertex_28 : decode cX8_pathVertex 28 = .ok (.new 142, 3) := by decide +kernel
theorem dX8_pathVertex_31 : decode cX8_pathVertex 31 = .ok (.dup, 1) := by decide +kernel
theorem dX8_pathVertex_32 : decode cX8_pathVertex 32 = .ok (.ldc 219, 2) := by decide +kernel
theorem dX8_pathVertex_34 : decode cX8_pathVertex 34 = .ok (.invokespecial 146, 3) := by decide +kernel
theorem dX8_pathVertex_37 : decode cX8_pathVertex 37 = .ok (.athrow, 1) := by decide +kernel
theorem dX8_pathVertex_38 : decode cX8_pathVertex 38 = .ok (.aload_n 0, 1) := by decide +kernel
theorem dX8_pathVertex_39 : decode cX8_pathVertex 39 = .ok (.getfield 30, 3) := by decide +kernel
theorem dX8_pathVertex_42 : decode cX8_pathVertex 42 = .ok (.iload_n 1, 1) := by decide +kernel
theorem dX8_pathVertex_43 : decode cX8_pathVertex 43 = .ok (.iload_n 3, 1) := by decide +kernel
theorem dX8_pathVertex_44 : decode cX8_pathVertex 44 = .ok (.invokevirtual 221, 3) := by decide +kernel
theorem dX8_pathVertex_47 : decode cX8_pathVertex 47 = .ok (.ireturn, 1) := by decide +kernel
theorem dX8_pathSum_0 : decode cX8_pathSum 0 = .ok (.aload_n 0, 1) := by decide +kernel
theorem dX8_pathSum_1 : decode cX8_pathSum 1 = .ok (.iload_n 1, 1) := by decide +kernel
theorem dX8_pathSum_2 : decode cX8_pathSum 2 = .ok (.iload_n 2, 1) := by decide +kernel
theorem dX8_pathSum_3 : decode cX8_pathSum 3 = .ok (.invokevirtual 102, 3) := by decide +kernel
theorem dX8_pathSum_6 : decode cX8_pathSum 6 = .ok (.aload_n 0, 1) := by decide +kernel
theorem dX8_pathSum_7 : decode cX8_pathSum 7 = .ok (.iload_n 1, 1) := by decide +kernel
theorem dX8_pathSum_8 : decode cX8_pathSum 8 = .ok (.iload_n 2, 1) := by decide +kernel
theorem dX8_pathSum_9 : decode cX8_pathSum 9 = .ok (.invokevirtual 147, 3) := by decide +kernel
theorem dX8_pathSum_12 : decode cX8_pathSum 12 = .ok (.aload_n 0, 1) := by decide +kernel
theorem dX8_pathSum_13 : decode cX8_pathSum 13 = .ok (.getfield 30, 3) := by decide +kernel
theorem dX8_pathSum_16 : decode cX8_pathSum 16 = .ok (.iload_n 2, 1) := by decide +kernel
theorem dX8_pathSum_17 : decode cX8_pathSum 17 = .ok (.invokevirtual 224, 3) := by decide +kernel
theorem dX8_pathSum_20 : decode cX8_pathSum 20 = .ok (.ireturn, 1) := by decide +kernel
theorem dX8_pathSumByHeavyPaths_0 : decode cX8_pathSumByHeavyPaths 0 = .ok (.aload_n 0, 1) := by decide +kernel
theorem dX8_pathSumByHeavyPaths_1 : decode cX8_pathSumByHeavyPaths 1 = .ok (.iload_n 1, 1) := by decide +kernel
theorem dX8_pathSumByHeavyPaths_2 : decode cX8_pathSumByHeavyPaths 2 = .ok (.iload_n 2, 1) := by decide +kernel
theorem dX8_pathSumByHeavyPaths_3 : decode cX8_pathSumByHeavyPaths 3 = .ok (.invokevirtual 102, 3) := by decide +kernel
theorem dX8_pathSumByHeavyPaths_6 : decode cX8_pathSumByHeavyPaths 6 = .ok (.aload_n 0, 1) := by decide +kernel
theorem dX8_pathSumByHeavyPaths_7 : decode cX8_pathSumByHeavyPaths 7 = .ok (.iload_n 1, 1) := by decide +kernel
theorem dX8_pathSumByHeavyPaths_8 : decode cX8_pathSumByHeavyPaths 8 = .ok (.iload_n 2, 1) := by decide +kernel
theorem dX8_pathSumByHeavyPaths_9 : decode cX8_pathSumByHeavyPaths 9 = .ok (.invokevirtual 147, 3) := by decide +kernel
theorem dX8_pathSumByHeavyPaths_12 : decode cX8_pathSumByHeavyPaths 12 = .ok (.aload_n 0, 1) := by decide +kernel
theorem dX8_pathSumByHeavyPaths_13 : decode cX8_pathSumByHeavyPaths 13 = .ok (.getfield 62, 3) := by decide +kernel
theorem dX8_pathSumByHeavyPaths_16 : decode cX8_pathSumByHeavyPaths 16 = .ok (.invokevirtual 227, 3) := by decide +kernel
theorem dX8_pathSumByHeavyPaths_19 : decode cX8_pathSumByHeavyPaths 19 = .ok (.aload_n 0, 1) := by decide +kernel
theorem dX8_pathSumByHeavyPaths_20 : decode cX8_pathSumByHeavyPaths 20 = .ok (.getfield 62, 3) := by decide +kernel
theorem dX8_pathSumByHeavyPaths_23 : decode cX8_pathSumByHeavyPaths 23 = .ok (.iload_n 2, 1) := by decide +kernel
theorem dX8_pathSumByHeavyPaths_24 : decode cX8_pathSumByHeavyPaths 24 = .ok (.invokevirtual 229, 3) := by decide +kernel
theorem dX8_pathSumByHeavyPaths_27 : decode cX8_pathSumByHeavyPaths 27 = .ok (.ireturn, 1) := by decide +kernel
theorem dX8_pathSumByWalk_0 : decode cX8_pathSumByWalk 0 = .ok (.aload_n 0, 1) := by decide +kernel
theorem dX8_pathSumByWalk_1 : decode cX8_pathSumByWalk 1 = .ok (.iload_n 1, 1) := by decide +kernel
theorem dX8_pathSumByWalk_2 : decode cX8_pathSumByWalk 2 = .ok (.iload_n 2, 1) := by decide +kernel
theorem dX8_pathSumByWalk_3 : decode cX8_pathSumByWalk 3 = .ok (.invokevirtual 102, 3) := by decide +kernel
theorem dX8_pathSumByWalk_6 : decode cX8_pathSumByWalk 6 = .ok (.aload_n 0, 1) := by decide +kernel
theorem dX8_pathSumByWalk_7 : decode cX8_pathSumByWalk 7 = .ok (.iload_n 2, 1) := by decide +kernel
theorem dX8_pathSumByWalk_8 : decode cX8_pathSumByWalk 8 = .ok (.iload_n 1, 1) := by decide +kernel
theorem dX8_pathSumByWalk_9 : decode cX8_pathSumByWalk 9 = .ok (.invokevirtual 147, 3) := by decide +kernel
theorem dX8_pathSumByWalk_12 : decode cX8_pathSumByWalk 12 = .ok (.aload_n 0, 1) := by decide +kernel
theorem dX8_pathSumByWalk_13 : decode cX8_pathSumByWalk 13 = .ok (.getfield 30, 3) := by decide +kernel
theorem dX8_pathSumByWalk_16 : decode cX8_pathSumByWalk 16 = .ok (.iload_n 1, 1) := by decide +kernel
theorem dX8_pathSumByWalk_17 : decode cX8_pathSumByWalk 17 = .ok (.invokevirtual 232, 3) := by decide +kernel
theorem dX8_pathSumByWalk_20 : decode cX8_pathSumByWalk 20 = .ok (.ireturn, 1) := by decide +kernel
theorem dX8_last_0 : decode cX8_last 0 = .ok (.aload_n 0, 1) := by decide +kernel
theorem dX8_last_1 : decode cX8_last 1 = .ok (.iload_n 1, 1) := by decide +kernel
theorem dX8_last_2 : decode cX8_last 2 = .ok (.iload_n 2, 1) := by decide +kernel
theorem dX8_last_3 : decode cX8_last 3 = .ok (.invokevirtual 102, 3) := by decide +kernel
theorem dX8_last_6 : decode cX8_last 6 = .ok (.aload_n 0, 1) := by decide +kernel
theorem dX8_last_7 : decode cX8_last 7 = .ok (.iload_n 1, 1) := by decide +kernel
theorem dX8_last_8 : decode cX8_last 8 = .ok (.iload_n 2, 1) := by decide +kernel
theorem dX8_last_9 : decode cX8_last 9 = .ok (.invokevirtual 147, 3) := by decide +kernel
theorem dX8_last_12 : decode cX8_last 12 = .ok (.iload_n 1, 1) := by decide +kernel
theorem dX8_last_13 : decode cX8_last 13 = .ok (.iload_n 2, 1) := by decide +kernel
theorem dX8_last_14 : decode cX8_last 14 = .ok (.invokestatic 108, 3) := by decide +kernel
theorem dX8_last_17 : decode cX8_last 17 = .ok (.aload_n 0, 1) := by decide +kernel
theorem dX8_last_18 : decode cX8_last 18 = .ok (.getfield 30, 3) := by decide +kernel
theorem dX8_last_21 : decode cX8_last 21 = .ok (.iload_n 2, 1) := by decide +kernel
theorem dX8_last_22 : decode cX8_last 22 = .ok (.invokevirtual 235, 3) := by decide +kernel
theorem dX8_last_25 : decode cX8_last 25 = .ok (.ireturn, 1) := by decide +kernel
theorem dX8_lastByWalk_0 : decode cX8_lastByWalk 0 = .ok (.aload_n 0, 1) := by decide +kernel
theorem dX8_lastByWalk_1 : decode cX8_lastByWalk 1 = .ok (.iload_n 1, 1) := by decide +kernel
theorem dX8_lastByWalk_2 : decode cX8_lastByWalk 2 = .ok (.iload_n 2, 1) := by decide +kernel
theorem dX8_lastByWalk_3 : decode cX8_lastByWalk 3 = .ok (.invokevirtual 102, 3) := by decide +kernel
theorem dX8_lastByWalk_6 : decode cX8_lastByWalk 6 = .ok (.aload_n 0, 1) := by decide +kernel
theorem dX8_lastByWalk_7 : decode cX8_lastByWalk 7 = .ok (.iload_n 2, 1) := by decide +kernel
theorem dX8_lastByWalk_8 : decode cX8_lastByWalk 8 = .ok (.iload_n 1, 1) := by decide +kernel
theorem dX8_lastByWalk_9 : decode cX8_lastByWalk 9 = .ok (.invokevirtual 147, 3) := by decide +kernel
theorem dX8_lastByWalk_12 : decode cX8_lastByWalk 12 = .ok (.iload_n 1, 1) := by decide +kernel
theorem dX8_lastByWalk_13 : decode cX8_lastByWalk 13 = .ok (.iload_n 2, 1) := by decide +kernel
theorem dX8_lastByWalk_14 : decode cX8_lastByWalk 14 = .ok (.invokestatic 108, 3) := by decide +kernel
theorem dX8_lastByWalk_17 : decode cX8_lastByWalk 17 = .ok (.aload_n 0, 1) := by decide +kernel
theorem dX8_lastByWalk_18 : decode cX8_lastByWalk 18 = .ok (.getfield 30, 3) := by decide +kernel
theorem dX8_lastByWalk_21 : decode cX8_lastByWalk 21 = .ok (.iload_n 1, 1) := by decide +kernel
theorem dX8_lastByWalk_22 : decode cX8_lastByWalk 22 = .ok (.invokevirtual 238, 3) := by decide +kernel
theorem dX8_lastByWalk_25 : decode cX8_lastByWalk 25 = .ok (.ireturn, 1) := by decide +kernel
theorem dX8_mean_0 : decode cX8_mean 0 = .ok (.aload_n 0, 1) := by decide +kernel
theorem dX8_mean_1 : decode cX8_mean 1 = .ok (.iload_n 1, 1) := by decide +kernel
theorem dX8_mean_2 : decode cX8_mean 2 = .ok (.iload_n 2, 1) := by decide +kernel
theorem dX8_mean_3 : decode cX8_mean 3 = .ok (.invokevirtual 102, 3) := by decide +kernel
theorem dX8_mean_6 : decode cX8_mean 6 = .ok (.aload_n 0, 1) := by decide +kernel
theorem dX8_mean_7 : decode cX8_mean 7 = .ok (.iload_n 1, 1) := by decide +kernel
theorem dX8_mean_8 : decode cX8_mean 8 = .ok (.iload_n 2, 1) := by decide +kernel
theorem dX8_mean_9 : decode cX8_mean 9 = .ok (.invokevirtual 147, 3) := by decide +kernel
theorem dX8_mean_12 : decode cX8_mean 12 = .ok (.aload_n 0, 1) := by decide +kernel
theorem dX8_mean_13 : decode cX8_mean 13 = .ok (.getfield 30, 3) := by decide +kernel
theorem dX8_mean_16 : decode cX8_mean 16 = .ok (.iload_n 2, 1) := by decide +kernel
theorem dX8_mean_17 : decode cX8_mean 17 = .ok (.invokevirtual 224, 3) := by decide +kernel
theorem dX8_mean_20 : decode cX8_mean 20 = .ok (.aload_n 0, 1) := by decide +kernel
theorem dX8_mean_21 : decode cX8_mean 21 = .ok (.getfield 30, 3) := by decide +kernel
theorem dX8_mean_24 : decode cX8_mean 24 = .ok (.iload_n 2, 1) := by decide +kernel
theorem dX8_mean_25 : decode cX8_mean 25 = .ok (.invokevirtual 153, 3) := by decide +kernel
theorem dX8_mean_28 : decode cX8_mean 28 = .ok (.iconst 1, 1) := by decide +kernel
theorem dX8_mean_29 : decode cX8_mean 29 = .ok (.iadd, 1) := by decide +kernel
theorem dX8_mean_30 : decode cX8_mean 30 = .ok (.invokestatic 241, 3) := by decide +kernel
theorem dX8_mean_33 : decode cX8_mean 33 = .ok (.freturn, 1) := by decide +kernel
theorem dX8_parent_0 : decode cX8_parent 0 = .ok (.aload_n 0, 1) := by decide +kernel
theorem dX8_parent_1 : decode cX8_parent 1 = .ok (.iload_n 1, 1) := by decide +kernel
theorem dX8_parent_2 : decode cX8_parent 2 = .ok (.iload_n 2, 1) := by decide +kernel
theorem dX8_parent_3 : decode cX8_parent 3 = .ok (.invokevirtual 102, 3) := by decide +kernel
theorem dX8_parent_6 : decode cX8_parent 6 = .ok (.aload_n 0, 1) := by decide +kernel
theorem dX8_parent_7 : decode cX8_parent 7 = .ok (.iload_n 1, 1) := by decide +kernel
theorem dX8_parent_8 : decode cX8_parent 8 = .ok (.iload_n 2, 1) := by decide +kernel
theorem dX8_parent_9 : decode cX8_parent 9 = .ok (.invokevirtual 147, 3) := by decide +kernel
theorem dX8_parent_12 : decode cX8_parent 12 = .ok (.iload_n 1, 1) := by decide +kernel
theorem dX8_parent_13 : decode cX8_parent 13 = .ok (.iload_n 2, 1) := by decide +kernel
theorem dX8_parent_14 : decode cX8_parent 14 = .ok (.if_icmp .ne 13, 3) := by decide +kernel
theorem dX8_parent_17 : decode cX8_parent 17 = .ok (.new 245, 3) := by decide +kernel
theorem dX8_parent_20 : decode cX8_parent 20 = .ok (.dup, 1) := by decide +kernel
theorem dX8_parent_21 : decode cX8_parent 21 = .ok (.ldc 247, 2) := by decide +kernel
theorem dX8_parent_23 : decode cX8_parent 23 = .ok (.invokespecial 249, 3) := by decide +kernel
theorem dX8_parent_26 : decode cX8_parent 26 = .ok (.athrow, 1) := by decide +kernel
theorem dX8_parent_27 : decode cX8_parent 27 = .ok (.aload_n 0, 1) := by decide +kernel
theorem dX8_parent_28 : decode cX8_parent 28 = .ok (.getfield 30, 3) := by decide +kernel
theorem dX8_parent_31 : decode cX8_parent 31 = .ok (.iload_n 2, 1) := by decide +kernel
theorem dX8_parent_32 : decode cX8_parent 32 = .ok (.invokevirtual 250, 3) := by decide +kernel
theorem dX8_parent_35 : decode cX8_parent 35 = .ok (.ireturn, 1) := by decide +kernel
theorem dX8_depth_0 : decode cX8_depth 0 = .ok (.aload_n 0, 1) := by decide +kernel
theorem dX8_depth_1 : decode cX8_depth 1 = .ok (.iload_n 1, 1) := by decide +kernel
theorem dX8_depth_2 : decode cX8_depth 2 = .ok (.iload_n 2, 1) := by decide +kernel
theorem dX8_depth_3 : decode cX8_depth 3 = .ok (.invokevirtual 102, 3) := by decide +kernel
theorem dX8_depth_6 : decode cX8_depth 6 = .ok (.aload_n 0, 1) := by decide +kernel
theorem dX8_depth_7 : decode cX8_depth 7 = .ok (.iload_n 1, 1) := by decide +kernel
theorem dX8_depth_8 : decode cX8_depth 8 = .ok (.iload_n 2, 1) := by decide +kernel
theorem dX8_depth_9 : decode cX8_depth 9 = .ok (.invokevirtual 147, 3) := by decide +kernel
theorem dX8_depth_12 : decode cX8_depth 12 = .ok (.aload_n 0, 1) := by decide +kernel
theorem dX8_depth_13 : decode cX8_depth 13 = .ok (.getfield 30, 3) := by decide +kernel
theorem dX8_depth_16 : decode cX8_depth 16 = .ok (.iload_n 2, 1) := by decide +kernel
theorem dX8_depth_17 : decode cX8_depth 17 = .ok (.invokevirtual 153, 3) := by decide +kernel
theorem dX8_depth_20 : decode cX8_depth 20 = .ok (.ireturn, 1) := by decide +kernel
theorem dX8_ancestor_0 : decode cX8_ancestor 0 = .ok (.aload_n 0, 1) := by decide +kernel
theorem dX8_ancestor_1 : decode cX8_ancestor 1 = .ok (.iload_n 1, 1) := by decide +kernel
theorem dX8_ancestor_2 : decode cX8_ancestor 2 = .ok (.iload_n 2, 1) := by decide +kernel
theorem dX8_ancestor_3 : decode cX8_ancestor 3 = .ok (.invokevirtual 102, 3) := by decide +kernel
theorem dX8_ancestor_6 : decode cX8_ancestor 6 = .ok (.aload_n 0, 1) := by decide +kernel
theorem dX8_ancestor_7 : decode cX8_ancestor 7 = .ok (.iload_n 1, 1) := by decide +kernel
theorem dX8_ancestor_8 : decode cX8_ancestor 8 = .ok (.iload_n 2, 1) := by decide +kernel
theorem dX8_ancestor_9 : decode cX8_ancestor 9 = .ok (.invokevirtual 147, 3) := by decide +kernel
theorem dX8_ancestor_12 : decode cX8_ancestor 12 = .ok (.aload_n 0, 1) := by decide +kernel
theorem dX8_ancestor_13 : decode cX8_ancestor 13 = .ok (.iload_n 2, 1) := by decide +kernel
theorem dX8_ancestor_14 : decode cX8_ancestor 14 = .ok (.iload_n 3, 1) := by decide +kernel
theorem dX8_ancestor_15 : decode cX8_ancestor 15 = .ok (.invokevirtual 253, 3) := by decide +kernel
theorem dX8_ancestor_18 : decode cX8_ancestor 18 = .ok (.aload_n 0, 1) := by decide +kernel
theorem dX8_ancestor_19 : decode cX8_ancestor 19 = .ok (.getfield 69, 3) := by decide +kernel
theorem dX8_ancestor_22 : decode cX8_ancestor 22 = .ok (.invokevirtual 256, 3) := by decide +kernel
theorem dX8_ancestor_25 : decode cX8_ancestor 25 = .ok (.aload_n 0, 1) := by decide +kernel
theorem dX8_ancestor_26 : decode cX8_ancestor 26 = .ok (.getfield 69, 3) := by decide +kernel
theorem dX8_ancestor_29 : decode cX8_ancestor 29 = .ok (.iload_n 2, 1) := by decide +kernel
theorem dX8_ancestor_30 : decode cX8_ancestor 30 = .ok (.iload_n 3, 1) := by decide +kernel
theorem dX8_ancestor_31 : decode cX8_ancestor 31 = .ok (.invokevirtual 257, 3) := by decide +kernel
theorem dX8_ancestor_34 : decode cX8_ancestor 34 = .ok (.ireturn, 1) := by decide +kernel
theorem dX8_ancestorByWalk_0 : decode cX8_ancestorByWalk 0 = .ok (.aload_n 0, 1) := by decide +kernel
theorem dX8_ancestorByWalk_1 : decode cX8_ancestorByWalk 1 = .ok (.iload_n 1, 1) := by decide +kernel
theorem dX8_ancestorByWalk_2 : decode cX8_ancestorByWalk 2 = .ok (.iload_n 2, 1) := by decide +kernel
theorem dX8_ancestorByWalk_3 : decode cX8_ancestorByWalk 3 = .ok (.invokevirtual 102, 3) := by decide +kernel
theorem dX8_ancestorByWalk_6 : decode cX8_ancestorByWalk 6 = .ok (.aload_n 0, 1) := by decide +kernel
theorem dX8_ancestorByWalk_7 : decode cX8_ancestorByWalk 7 = .ok (.iload_n 1, 1) := by decide +kernel
theorem dX8_ancestorByWalk_8 : decode cX8_ancestorByWalk 8 = .ok (.iload_n 2, 1) := by decide +kernel
theorem dX8_ancestorByWalk_9 : decode cX8_ancestorByWalk 9 = .ok (.invokevirtual 147, 3) := by decide +kernel
theorem dX8_ancestorByWalk_12 : decode cX8_ancestorByWalk 12 = .ok (.aload_n 0, 1) := by decide +kernel
theorem dX8_ancestorByWalk_13 : decode cX8_ancestorByWalk 13 = .ok (.iload_n 2, 1) := by decide +kernel
theorem dX8_ancestorByWalk_14 : decode cX8_ancestorByWalk 14 = .ok (.iload_n 3, 1) := by decide +kernel
theorem dX8_ancestorByWalk_15 : decode cX8_ancestorByWalk 15 = .ok (.invokevirtual 253, 3) := by decide +kernel
theorem dX8_ancestorByWalk_18 : decode cX8_ancestorByWalk 18 = .ok (.aload_n 0, 1) := by decide +kernel
theorem dX8_ancestorByWalk_19 : decode cX8_ancestorByWalk 19 = .ok (.getfield 30, 3) := by decide +kernel
theorem dX8_ancestorByWalk_22 : decode cX8_ancestorByWalk 22 = .ok (.iload_n 2, 1) := by decide +kernel
theorem dX8_ancestorByWalk_23 : decode cX8_ancestorByWalk 23 = .ok (.iload_n 3, 1) := by decide +kernel
theorem dX8_ancestorByWalk_24 : decode cX8_ancestorByWalk 24 = .ok (.invokevirtual 221, 3) := by decide +kernel
theorem dX8_ancestorByWalk_27 : decode cX8_ancestorByWalk 27 = .ok (.ireturn, 1) := by decide +kernel
theorem dX8_common_0 : decode cX8_common 0 = .ok (.aload_n 0, 1) := by decide +kernel
theorem dX8_common_1 : decode cX8_common 1 = .ok (.iload_n 1, 1) := by decide +kernel
theorem dX8_common_2 : decode cX8_common 2 = .ok (.invokevirtual 92, 3) := by decide +kernel
theorem dX8_common_5 : decode cX8_common 5 = .ok (.aload_n 0, 1) := by decide +kernel
theorem dX8_common_6 : decode cX8_common 6 = .ok (.iload_n 2, 1) := by decide +kernel
theorem dX8_common_7 : decode cX8_common 7 = .ok (.iload_n 3, 1) := by decide +kernel
theorem dX8_common_8 : decode cX8_common 8 = .ok (.invokevirtual 102, 3) := by decide +kernel
theorem dX8_common_11 : decode cX8_common 11 = .ok (.aload_n 0, 1) := by decide +kernel
theorem dX8_common_12 : decode cX8_common 12 = .ok (.iload_n 1, 1) := by decide +kernel
theorem dX8_common_13 : decode cX8_common 13 = .ok (.iload_n 2, 1) := by decide +kernel
theorem dX8_common_14 : decode cX8_common 14 = .ok (.invokevirtual 147, 3) := by decide +kernel
theorem dX8_common_17 : decode cX8_common 17 = .ok (.aload_n 0, 1) := by decide +kernel
theorem dX8_common_18 : decode cX8_common 18 = .ok (.iload_n 3, 1) := by decide +kernel
theorem dX8_common_19 : decode cX8_common 19 = .ok (.invokevirtual 258, 3) := by decide +kernel
theorem dX8_common_22 : decode cX8_common 22 = .ok (.aload_n 0, 1) := by decide +kernel
theorem dX8_common_23 : decode cX8_common 23 = .ok (.getfield 69, 3) := by decide +kernel
theorem dX8_common_26 : decode cX8_common 26 = .ok (.invokevirtual 256, 3) := by decide +kernel
theorem dX8_common_29 : decode cX8_common 29 = .ok (.aload_n 0, 1) := by decide +kernel
theorem dX8_common_30 : decode cX8_common 30 = .ok (.getfield 69, 3) := by decide +kernel
theorem dX8_common_33 : decode cX8_common 33 = .ok (.iload_n 2, 1) := by decide +kernel
theorem dX8_common_34 : decode cX8_common 34 = .ok (.iload_n 3, 1) := by decide +kernel
theorem dX8_common_35 : decode cX8_common 35 = .ok (.invokevirtual 261, 3) := by decide +kernel
theorem dX8_common_38 : decode cX8_common 38 = .ok (.ireturn, 1) := by decide +kernel
theorem dX8_commonByWalk_0 : decode cX8_commonByWalk 0 = .ok (.aload_n 0, 1) := by decide +kernel
theorem dX8_commonByWalk_1 : decode cX8_commonByWalk 1 = .ok (.iload_n 1, 1) := by decide +kernel
theorem dX8_commonByWalk_2 : decode cX8_commonByWalk 2 = .ok (.invokevirtual 92, 3) := by decide +kernel
theorem dX8_commonByWalk_5 : decode cX8_commonByWalk 5 = .ok (.aload_n 0, 1) := by decide +kernel
theorem dX8_commonByWalk_6 : decode cX8_commonByWalk 6 = .ok (.iload_n 2, 1) := by decide +kernel
theorem dX8_commonByWalk_7 : decode cX8_commonByWalk 7 = .ok (.iload_n 3, 1) := by decide +kernel
theorem dX8_commonByWalk_8 : decode cX8_commonByWalk 8 = .ok (.invokevirtual 102, 3) := by decide +kernel
theorem dX8_commonByWalk_11 : decode cX8_commonByWalk 11 = .ok (.aload_n 0, 1) := by decide +kernel
theorem dX8_commonByWalk_12 : decode cX8_commonByWalk 12 = .ok (.iload_n 1, 1) := by decide +kernel
theorem dX8_commonByWalk_13 : decode cX8_commonByWalk 13 = .ok (.iload_n 2, 1) := by decide +kernel
theorem dX8_commonByWalk_14 : decode cX8_commonByWalk 14 = .ok (.invokevirtual 147, 3) := by decide +kernel
theorem dX8_commonByWalk_17 : decode cX8_commonByWalk 17 = .ok (.aload_n 0, 1) := by decide +kernel
theorem dX8_commonByWalk_18 : decode cX8_commonByWalk 18 = .ok (.iload_n 3, 1) := by decide +kernel
theorem dX8_commonByWalk_19 : decode cX8_commonByWalk 19 = .ok (.invokevirtual 258, 3) := by decide +kernel
theorem dX8_commonByWalk_22 : decode cX8_commonByWalk 22 = .ok (.aload_n 0, 1) := by decide +kernel
theorem dX8_commonByWalk_23 : decode cX8_commonByWalk 23 = .ok (.getfield 30, 3) := by decide +kernel
theorem dX8_commonByWalk_26 : decode cX8_commonByWalk 26 = .ok (.iload_n 2, 1) := by decide +kernel
theorem dX8_commonByWalk_27 : decode cX8_commonByWalk 27 = .ok (.iload_n 3, 1) := by decide +kernel
theorem dX8_commonByWalk_28 : decode cX8_commonByWalk 28 = .ok (.invokevirtual 264, 3) := by decide +kernel
theorem dX8_commonByWalk_31 : decode cX8_commonByWalk 31 = .ok (.ireturn, 1) := by decide +kernel
theorem dX8_subtreeSize_0 : decode cX8_subtreeSize 0 = .ok (.aload_n 0, 1) := by decide +kernel
theorem dX8_subtreeSize_1 : decode cX8_subtreeSize 1 = .ok (.iload_n 1, 1) := by decide +kernel
theorem dX8_subtreeSize_2 : decode cX8_subtreeSize 2 = .ok (.iload_n 2, 1) := by decide +kernel
theorem dX8_subtreeSize_3 : decode cX8_subtreeSize 3 = .ok (.invokevirtual 102, 3) := by decide +kernel
theorem dX8_subtreeSize_6 : decode cX8_subtreeSize 6 = .ok (.aload_n 0, 1) := by decide +kernel
theorem dX8_subtreeSize_7 : decode cX8_subtreeSize 7 = .ok (.iload_n 1, 1) := by decide +kernel
theorem dX8_subtreeSize_8 : decode cX8_subtreeSize 8 = .ok (.iload_n 2, 1) := by decide +kernel
theorem dX8_subtreeSize_9 : decode cX8_subtreeSize 9 = .ok (.invokevirtual 147, 3) := by decide +kernel
theorem dX8_subtreeSize_12 : decode cX8_subtreeSize 12 = .ok (.aload_n 0, 1) := by decide +kernel
theorem dX8_subtreeSize_13 : decode cX8_subtreeSize 13 = .ok (.getfield 62, 3) := by decide +kernel
theorem dX8_subtreeSize_16 : decode cX8_subtreeSize 16 = .ok (.invokevirtual 227, 3) := by decide +kernel
theorem dX8_subtreeSize_19 : decode cX8_subtreeSize 19 = .ok (.aload_n 0, 1) := by decide +kernel
theorem dX8_subtreeSize_20 : decode cX8_subtreeSize 20 = .ok (.getfield 62, 3) := by decide +kernel
theorem dX8_subtreeSize_23 : decode cX8_subtreeSize 23 = .ok (.iload_n 2, 1) := by decide +kernel
theorem dX8_subtreeSize_24 : decode cX8_subtreeSize 24 = .ok (.invokevirtual 267, 3) := by decide +kernel
theorem dX8_subtreeSize_27 : decode cX8_subtreeSize 27 = .ok (.ireturn, 1) := by decide +kernel
theorem dX8_subtreeSum_0 : decode cX8_subtreeSum 0 = .ok (.aload_n 0, 1) := by decide +kernel
theorem dX8_subtreeSum_1 : decode cX8_subtreeSum 1 = .ok (.iload_n 1, 1) := by decide +kernel
theorem dX8_subtreeSum_2 : decode cX8_subtreeSum 2 = .ok (.iload_n 2, 1) := by decide +kernel
theorem dX8_subtreeSum_3 : decode cX8_subtreeSum 3 = .ok (.invokevirtual 102, 3) := by decide +kernel
theorem dX8_subtreeSum_6 : decode cX8_subtreeSum 6 = .ok (.aload_n 0, 1) := by decide +kernel
theorem dX8_subtreeSum_7 : decode cX8_subtreeSum 7 = .ok (.iload_n 1, 1) := by decide +kernel
theorem dX8_subtreeSum_8 : decode cX8_subtreeSum 8 = .ok (.iload_n 2, 1) := by decide +kernel
theorem dX8_subtreeSum_9 : decode cX8_subtreeSum 9 = .ok (.invokevirtual 147, 3) := by decide +kernel
theorem dX8_subtreeSum_12 : decode cX8_subtreeSum 12 = .ok (.aload_n 0, 1) := by decide +kernel
theorem dX8_subtreeSum_13 : decode cX8_subtreeSum 13 = .ok (.getfield 62, 3) := by decide +kernel
theorem dX8_subtreeSum_16 : decode cX8_subtreeSum 16 = .ok (.invokevirtual 227, 3) := by decide +kernel
theorem dX8_subtreeSum_19 : decode cX8_subtreeSum 19 = .ok (.aload_n 0, 1) := by decide +kernel
theorem dX8_subtreeSum_20 : decode cX8_subtreeSum 20 = .ok (.getfield 62, 3) := by decide +kernel
theorem dX8_subtreeSum_23 : decode cX8_subtreeSum 23 = .ok (.iload_n 2, 1) := by decide +kernel
theorem dX8_subtreeSum_24 : decode cX8_subtreeSum 24 = .ok (.invokevirtual 270, 3) := by decide +kernel
theorem dX8_subtreeSum_27 : decode cX8_subtreeSum 27 = .ok (.ireturn, 1) := by decide +kernel
theorem dX8_heavyChild_0 : decode cX8_heavyChild 0 = .ok (.aload_n 0, 1) := by decide +kernel
theorem dX8_heavyChild_1 : decode cX8_heavyChild 1 = .ok (.iload_n 1, 1) := by decide +kernel
theorem dX8_heavyChild_2 : decode cX8_heavyChild 2 = .ok (.iload_n 2, 1) := by decide +kernel
theorem dX8_heavyChild_3 : decode cX8_heavyChild 3 = .ok (.invokevirtual 102, 3) := by decide +kernel
theorem dX8_heavyChild_6 : decode cX8_heavyChild 6 = .ok (.aload_n 0, 1) := by decide +kernel
theorem dX8_heavyChild_7 : decode cX8_heavyChild 7 = .ok (.iload_n 1, 1) := by decide +kernel
theorem dX8_heavyChild_8 : decode cX8_heavyChild 8 = .ok (.iload_n 2, 1) := by decide +kernel
theorem dX8_heavyChild_9 : decode cX8_heavyChild 9 = .ok (.invokevirtual 147, 3) := by decide +kernel
theorem dX8_heavyChild_12 : decode cX8_heavyChild 12 = .ok (.aload_n 0, 1) := by decide +kernel
theorem dX8_heavyChild_13 : decode cX8_heavyChild 13 = .ok (.getfield 62, 3) := by decide +kernel
theorem dX8_heavyChild_16 : decode cX8_heavyChild 16 = .ok (.invokevirtual 227, 3) := by decide +kernel
theorem dX8_heavyChild_19 : decode cX8_heavyChild 19 = .ok (.aload_n 0, 1) := by decide +kernel
theorem dX8_heavyChild_20 : decode cX8_heavyChild 20 = .ok (.getfield 62, 3) := by decide +kernel
theorem dX8_heavyChild_23 : decode cX8_heavyChild 23 = .ok (.iload_n 2, 1) := by decide +kernel
theorem dX8_heavyChild_24 : decode cX8_heavyChild 24 = .ok (.invokevirtual 273, 3) := by decide +kernel
theorem dX8_heavyChild_27 : decode cX8_heavyChild 27 = .ok (.istore_n 3, 1) := by decide +kernel
theorem dX8_heavyChild_28 : decode cX8_heavyChild 28 = .ok (.iload_n 3, 1) := by decide +kernel
theorem dX8_heavyChild_29 : decode cX8_heavyChild 29 = .ok (.iconst (-1), 1) := by decide +kernel
theorem dX8_heavyChild_30 : decode cX8_heavyChild 30 = .ok (.if_icmp .ne 14, 3) := by decide +kernel
theorem dX8_heavyChild_33 : decode cX8_heavyChild 33 = .ok (.new 245, 3) := by decide +kernel
theorem dX8_heavyChild_36 : decode cX8_heavyChild 36 = .ok (.dup, 1) := by decide +kernel
theorem dX8_heavyChild_37 : decode cX8_heavyChild 37 = .ok (.ldc_w 276, 3) := by decide +kernel
theorem dX8_heavyChild_40 : decode cX8_heavyChild 40 = .ok (.invokespecial 249, 3) := by decide +kernel
theorem dX8_heavyChild_43 : decode cX8_heavyChild 43 = .ok (.athrow, 1) := by decide +kernel
theorem dX8_heavyChild_44 : decode cX8_heavyChild 44 = .ok (.iload_n 3, 1) := by decide +kernel
theorem dX8_heavyChild_45 : decode cX8_heavyChild 45 = .ok (.ireturn, 1) := by decide +kernel
theorem dX8_head_0 : decode cX8_head 0 = .ok (.aload_n 0, 1) := by decide +kernel
theorem dX8_head_1 : decode cX8_head 1 = .ok (.iload_n 1, 1) := by decide +kernel
theorem dX8_head_2 : decode cX8_head 2 = .ok (.iload_n 2, 1) := by decide +kernel
theorem dX8_head_3 : decode cX8_head 3 = .ok (.invokevirtual 102, 3) := by decide +kernel
theorem dX8_head_6 : decode cX8_head 6 = .ok (.aload_n 0, 1) := by decide +kernel
theorem dX8_head_7 : decode cX8_head 7 = .ok (.iload_n 1, 1) := by decide +kernel
theorem dX8_head_8 : decode cX8_head 8 = .ok (.iload_n 2, 1) := by decide +kernel
theorem dX8_head_9 : decode cX8_head 9 = .ok (.invokevirtual 147, 3) := by decide +kernel
theorem dX8_head_12 : decode cX8_head 12 = .ok (.aload_n 0, 1) := by decide +kernel
theorem dX8_head_13 : decode cX8_head 13 = .ok (.getfield 62, 3) := by decide +kernel
theorem dX8_head_16 : decode cX8_head 16 = .ok (.invokevirtual 227, 3) := by decide +kernel
theorem dX8_head_19 : decode cX8_head 19 = .ok (.aload_n 0, 1) := by decide +kernel
theorem dX8_head_20 : decode cX8_head 20 = .ok (.getfield 62, 3) := by decide +kernel
theorem dX8_head_23 : decode cX8_head 23 = .ok (.iload_n 2, 1) := by decide +kernel
theorem dX8_head_24 : decode cX8_head 24 = .ok (.invokevirtual 278, 3) := by decide +kernel
theorem dX8_head_27 : decode cX8_head 27 = .ok (.ireturn, 1) := by decide +kernel
theorem dX8_heavyPaths_0 : decode cX8_heavyPaths 0 = .ok (.aload_n 0, 1) := by decide +kernel
theorem dX8_heavyPaths_1 : decode cX8_heavyPaths 1 = .ok (.iload_n 1, 1) := by decide +kernel
theorem dX8_heavyPaths_2 : decode cX8_heavyPaths 2 = .ok (.invokevirtual 92, 3) := by decide +kernel
theorem dX8_heavyPaths_5 : decode cX8_heavyPaths 5 = .ok (.aload_n 0, 1) := by decide +kernel
theorem dX8_heavyPaths_6 : decode cX8_heavyPaths 6 = .ok (.getfield 30, 3) := by decide +kernel
theorem dX8_heavyPaths_9 : decode cX8_heavyPaths 9 = .ok (.iload_n 1, 1) := by decide +kernel
theorem dX8_heavyPaths_10 : decode cX8_heavyPaths 10 = .ok (.iconst (-1), 1) := by decide +kernel
theorem dX8_heavyPaths_11 : decode cX8_heavyPaths 11 = .ok (.invokevirtual 198, 3) := by decide +kernel
theorem dX8_heavyPaths_14 : decode cX8_heavyPaths 14 = .ok (.aload_n 0, 1) := by decide +kernel
theorem dX8_heavyPaths_15 : decode cX8_heavyPaths 15 = .ok (.getfield 62, 3) := by decide +kernel
theorem dX8_heavyPaths_18 : decode cX8_heavyPaths 18 = .ok (.invokevirtual 227, 3) := by decide +kernel
theorem dX8_heavyPaths_21 : decode cX8_heavyPaths 21 = .ok (.aload_n 0, 1) := by decide +kernel
theorem dX8_heavyPaths_22 : decode cX8_heavyPaths 22 = .ok (.getfield 62, 3) := by decide +kernel
theorem dX8_heavyPaths_25 : decode cX8_heavyPaths 25 = .ok (.invokevirtual 281, 3) := by decide +kernel
theorem dX8_heavyPaths_28 : decode cX8_heavyPaths 28 = .ok (.ireturn, 1) := by decide +kernel
theorem dX8_lightEdges_0 : decode cX8_lightEdges 0 = .ok (.aload_n 0, 1) := by decide +kernel
theorem dX8_lightEdges_1 : decode cX8_lightEdges 1 = .ok (.iload_n 1, 1) := by decide +kernel
theorem dX8_lightEdges_2 : decode cX8_lightEdges 2 = .ok (.iload_n 2, 1) := by decide +kernel
theorem dX8_lightEdges_3 : decode cX8_lightEdges 3 = .ok (.invokevirtual 102, 3) := by decide +kernel
theorem dX8_lightEdges_6 : decode cX8_lightEdges 6 = .ok (.aload_n 0, 1) := by decide +kernel
theorem dX8_lightEdges_7 : decode cX8_lightEdges 7 = .ok (.iload_n 1, 1) := by decide +kernel
theorem dX8_lightEdges_8 : decode cX8_lightEdges 8 = .ok (.iload_n 2, 1) := by decide +kernel
theorem dX8_lightEdges_9 : decode cX8_lightEdges 9 = .ok (.invokevirtual 147, 3) := by decide +kernel
theorem dX8_lightEdges_12 : decode cX8_lightEdges 12 = .ok (.aload_n 0, 1) := by decide +kernel
theorem dX8_lightEdges_13 : decode cX8_lightEdges 13 = .ok (.getfield 62, 3) := by decide +kernel
theorem dX8_lightEdges_16 : decode cX8_lightEdges 16 = .ok (.invokevirtual 227, 3) := by decide +kernel
theorem dX8_lightEdges_19 : decode cX8_lightEdges 19 = .ok (.aload_n 0, 1) := by decide +kernel
theorem dX8_lightEdges_20 : decode cX8_lightEdges 20 = .ok (.getfield 62, 3) := by decide +kernel
theorem dX8_lightEdges_23 : decode cX8_lightEdges 23 = .ok (.iload_n 2, 1) := by decide +kernel
theorem dX8_lightEdges_24 : decode cX8_lightEdges 24 = .ok (.invokevirtual 284, 3) := by decide +kernel
theorem dX8_lightEdges_27 : decode cX8_lightEdges 27 = .ok (.ireturn, 1) := by decide +kernel
theorem dX8_diameter_0 : decode cX8_diameter 0 = .ok (.aload_n 0, 1) := by decide +kernel
theorem dX8_diameter_1 : decode cX8_diameter 1 = .ok (.iload_n 1, 1) := by decide +kernel
theorem dX8_diameter_2 : decode cX8_diameter 2 = .ok (.invokevirtual 92, 3) := by decide +kernel
theorem dX8_diameter_5 : decode cX8_diameter 5 = .ok (.aload_n 0, 1) := by decide +kernel
theorem dX8_diameter_6 : decode cX8_diameter 6 = .ok (.getfield 30, 3) := by decide +kernel
theorem dX8_diameter_9 : decode cX8_diameter 9 = .ok (.iload_n 1, 1) := by decide +kernel
theorem dX8_diameter_10 : decode cX8_diameter 10 = .ok (.iconst (-1), 1) := by decide +kernel
theorem dX8_diameter_11 : decode cX8_diameter 11 = .ok (.invokevirtual 198, 3) := by decide +kernel
theorem dX8_diameter_14 : decode cX8_diameter 14 = .ok (.aload_n 0, 1) := by decide +kernel
theorem dX8_diameter_15 : decode cX8_diameter 15 = .ok (.getfield 30, 3) := by decide +kernel
theorem dX8_diameter_18 : decode cX8_diameter 18 = .ok (.aload_n 0, 1) := by decide +kernel
theorem dX8_diameter_19 : decode cX8_diameter 19 = .ok (.getfield 30, 3) := by decide +kernel
theorem dX8_diameter_22 : decode cX8_diameter 22 = .ok (.invokevirtual 287, 3) := by decide +kernel
theorem dX8_diameter_25 : decode cX8_diameter 25 = .ok (.iconst (-1), 1) := by decide +kernel
theorem dX8_diameter_26 : decode cX8_diameter 26 = .ok (.invokevirtual 198, 3) := by decide +kernel
theorem dX8_diameter_29 : decode cX8_diameter 29 = .ok (.aload_n 0, 1) := by decide +kernel
theorem dX8_diameter_30 : decode cX8_diameter 30 = .ok (.getfield 30, 3) := by decide +kernel
theorem dX8_diameter_33 : decode cX8_diameter 33 = .ok (.aload_n 0, 1) := by decide +kernel
theorem dX8_diameter_34 : decode cX8_diameter 34 = .ok (.getfield 30, 3) := by decide +kernel
theorem dX8_diameter_37 : decode cX8_diameter 37 = .ok (.invokevirtual 287, 3) := by decide +kernel
theorem dX8_diameter_40 : decode cX8_diameter 40 = .ok (.invokevirtual 153, 3) := by decide +kernel
theorem dX8_diameter_43 : decode cX8_diameter 43 = .ok (.ireturn, 1) := by decide +kernel
theorem dX8_diameterByTrying_0 : decode cX8_diameterByTrying 0 = .ok (.aload_n 0, 1) := by decide +kernel
theorem dX8_diameterByTrying_1 : decode cX8_diameterByTrying 1 = .ok (.iload_n 1, 1) := by decide +kernel
theorem dX8_diameterByTrying_2 : decode cX8_diameterByTrying 2 = .ok (.invokevirtual 92, 3) := by decide +kernel
theorem dX8_diameterByTrying_5 : decode cX8_diameterByTrying 5 = .ok (.iconst 0, 1) := by decide +kernel
theorem dX8_diameterByTrying_6 : decode cX8_diameterByTrying 6 = .ok (.istore_n 2, 1) := by decide +kernel
theorem dX8_diameterByTrying_7 : decode cX8_diameterByTrying 7 = .ok (.iconst 0, 1) := by decide +kernel
theorem dX8_diameterByTrying_8 : decode cX8_diameterByTrying 8 = .ok (.istore_n 3, 1) := by decide +kernel
theorem dX8_diameterByTrying_9 : decode cX8_diameterByTrying 9 = .ok (.iload_n 3, 1) := by decide +kernel
theorem dX8_diameterByTrying_10 : decode cX8_diameterByTrying 10 = .ok (.aload_n 0, 1) := by decide +kernel
theorem dX8_diameterByTrying_11 : decode cX8_diameterByTrying 11 = .ok (.getfield 10, 3) := by decide +kernel
theorem dX8_diameterByTrying_14 : decode cX8_diameterByTrying 14 = .ok (.invokevirtual 77, 3) := by decide +kernel
theorem dX8_diameterByTrying_17 : decode cX8_diameterByTrying 17 = .ok (.if_icmp .ge 38, 3) := by decide +kernel
theorem dX8_diameterByTrying_20 : decode cX8_diameterByTrying 20 = .ok (.aload_n 0, 1) := by decide +kernel
theorem dX8_diameterByTrying_21 : decode cX8_diameterByTrying 21 = .ok (.getfield 30, 3) := by decide +kernel
theorem dX8_diameterByTrying_24 : decode cX8_diameterByTrying 24 = .ok (.iload_n 3, 1) := by decide +kernel
theorem dX8_diameterByTrying_25 : decode cX8_diameterByTrying 25 = .ok (.iconst (-1), 1) := by decide +kernel
theorem dX8_diameterByTrying_26 : decode cX8_diameterByTrying 26 = .ok (.invokevirtual 198, 3) := by decide +kernel
theorem dX8_diameterByTrying_29 : decode cX8_diameterByTrying 29 = .ok (.aload_n 0, 1) := by decide +kernel
theorem dX8_diameterByTrying_30 : decode cX8_diameterByTrying 30 = .ok (.getfield 30, 3) := by decide +kernel
theorem dX8_diameterByTrying_33 : decode cX8_diameterByTrying 33 = .ok (.iload_n 1, 1) := by decide +kernel
theorem dX8_diameterByTrying_34 : decode cX8_diameterByTrying 34 = .ok (.invokevirtual 201, 3) := by decide +kernel
theorem dX8_diameterByTrying_37 : decode cX8_diameterByTrying 37 = .ok (.ifCond .eq 12, 3) := by decide +kernel
theorem dX8_diameterByTrying_40 : decode cX8_diameterByTrying 40 = .ok (.iload_n 2, 1) := by decide +kernel
theorem dX8_diameterByTrying_41 : decode cX8_diameterByTrying 41 = .ok (.aload_n 0, 1) := by decide +kernel
theorem dX8_diameterByTrying_42 : decode cX8_diameterByTrying 42 = .ok (.invokevirtual 290, 3) := by decide +kernel
theorem dX8_diameterByTrying_45 : decode cX8_diameterByTrying 45 = .ok (.invokestatic 293, 3) := by decide +kernel
theorem dX8_diameterByTrying_48 : decode cX8_diameterByTrying 48 = .ok (.istore_n 2, 1) := by decide +kernel
theorem dX8_diameterByTrying_49 : decode cX8_diameterByTrying 49 = .ok (.iinc 3 1, 3) := by decide +kernel
theorem dX8_diameterByTrying_52 : decode cX8_diameterByTrying 52 = .ok (.goto (-43), 3) := by decide +kernel
theorem dX8_diameterByTrying_55 : decode cX8_diameterByTrying 55 = .ok (.iload_n 2, 1) := by decide +kernel
theorem dX8_diameterByTrying_56 : decode cX8_diameterByTrying 56 = .ok (.ireturn, 1) := by decide +kernel
theorem dX8_isBetween_0 : decode cX8_isBetween 0 = .ok (.iload_n 0, 1) := by decide +kernel
theorem dX8_isBetween_1 : decode cX8_isBetween 1 = .ok (.iload_n 1, 1) := by decide +kernel
theorem dX8_isBetween_2 : decode cX8_isBetween 2 = .ok (.if_icmp .lt 12, 3) := by decide +kernel
theorem dX8_isBetween_5 : decode cX8_isBetween 5 = .ok (.iload_n 0, 1) := by decide +kernel
theorem dX8_isBetween_6 : decode cX8_isBetween 6 = .ok (.iload_n 2, 1) := by decide +kernel
theorem dX8_isBetween_7 : decode cX8_isBetween 7 = .ok (.if_icmp .gt 7, 3) := by decide +kernel
theorem dX8_isBetween_10 : decode cX8_isBetween 10 = .ok (.iconst 1, 1) := by decide +kernel
theorem dX8_isBetween_11 : decode cX8_isBetween 11 = .ok (.goto 4, 3) := by decide +kernel
theorem dX8_isBetween_14 : decode cX8_isBetween 14 = .ok (.iconst 0, 1) := by decide +kernel
theorem dX8_isBetween_15 : decode cX8_isBetween 15 = .ok (.ireturn, 1) := by decide +kernel
theorem dX8_requireValue_0 : decode cX8_requireValue 0 = .ok (.iload_n 0, 1) := by decide +kernel
theorem dX8_requireValue_1 : decode cX8_requireValue 1 = .ok (.bipush (-99), 2) := by decide +kernel
theorem dX8_requireValue_3 : decode cX8_requireValue 3 = .ok (.bipush 99, 2) := by decide +kernel
theorem dX8_requireValue_5 : decode cX8_requireValue 5 = .ok (.invokestatic 138, 3) := by decide +kernel
theorem dX8_requireValue_8 : decode cX8_requireValue 8 = .ok (.ifCond .ne 14, 3) := by decide +kernel
theorem dX8_requireValue_11 : decode cX8_requireValue 11 = .ok (.new 142, 3) := by decide +kernel
theorem dX8_requireValue_14 : decode cX8_requireValue 14 = .ok (.dup, 1) := by decide +kernel
theorem dX8_requireValue_15 : decode cX8_requireValue 15 = .ok (.ldc_w 298, 3) := by decide +kernel
theorem dX8_requireValue_18 : decode cX8_requireValue 18 = .ok (.invokespecial 146, 3) := by decide +kernel
theorem dX8_requireValue_21 : decode cX8_requireValue 21 = .ok (.athrow, 1) := by decide +kernel
theorem dX8_requireValue_22 : decode cX8_requireValue 22 = .ok (.return_, 1) := by decide +kernel
theorem dX8_requireWeight_0 : decode cX8_requireWeight 0 = .ok (.iload_n 0, 1) := by decide +kernel
theorem dX8_requireWeight_1 : decode cX8_requireWeight 1 = .ok (.iconst 1, 1) := by decide +kernel
theorem dX8_requireWeight_2 : decode cX8_requireWeight 2 = .ok (.bipush 99, 2) := by decide +kernel
theorem dX8_requireWeight_4 : decode cX8_requireWeight 4 = .ok (.invokestatic 138, 3) := by decide +kernel
theorem dX8_requireWeight_7 : decode cX8_requireWeight 7 = .ok (.ifCond .ne 14, 3) := by decide +kernel
theorem dX8_requireWeight_10 : decode cX8_requireWeight 10 = .ok (.new 142, 3) := by decide +kernel
theorem dX8_requireWeight_13 : decode cX8_requireWeight 13 = .ok (.dup, 1) := by decide +kernel
theorem dX8_requireWeight_14 : decode cX8_requireWeight 14 = .ok (.ldc_w 300, 3) := by decide +kernel
theorem dX8_requireWeight_17 : decode cX8_requireWeight 17 = .ok (.invokespecial 146, 3) := by decide +kernel
theorem dX8_requireWeight_20 : decode cX8_requireWeight 20 = .ok (.athrow, 1) := by decide +kernel
theorem dX8_requireWeight_21 : decode cX8_requireWeight 21 = .ok (.return_, 1) := by decide +kernel
theorem dX8_requireDifferent_0 : decode cX8_requireDifferent 0 = .ok (.iload_n 0, 1) := by decide +kernel
theorem dX8_requireDifferent_1 : decode cX8_requireDifferent 1 = .ok (.iload_n 1, 1) := by decide +kernel
theorem dX8_requireDifferent_2 : decode cX8_requireDifferent 2 = .ok (.if_icmp .ne 14, 3) := by decide +kernel
theorem dX8_requireDifferent_5 : decode cX8_requireDifferent 5 = .ok (.new 245, 3) := by decide +kernel
theorem dX8_requireDifferent_8 : decode cX8_requireDifferent 8 = .ok (.dup, 1) := by decide +kernel
theorem dX8_requireDifferent_9 : decode cX8_requireDifferent 9 = .ok (.ldc_w 302, 3) := by decide +kernel
theorem dX8_requireDifferent_12 : decode cX8_requireDifferent 12 = .ok (.invokespecial 249, 3) := by decide +kernel
theorem dX8_requireDifferent_15 : decode cX8_requireDifferent 15 = .ok (.athrow, 1) := by decide +kernel
theorem dX8_requireDifferent_16 : decode cX8_requireDifferent 16 = .ok (.return_, 1) := by decide +kernel
theorem dX8_requireVertex_0 : decode cX8_requireVertex 0 = .ok (.aload_n 0, 1) := by decide +kernel
theorem dX8_requireVertex_1 : decode cX8_requireVertex 1 = .ok (.getfield 10, 3) := by decide +kernel
theorem dX8_requireVertex_4 : decode cX8_requireVertex 4 = .ok (.iload_n 1, 1) := by decide +kernel
theorem dX8_requireVertex_5 : decode cX8_requireVertex 5 = .ok (.invokevirtual 304, 3) := by decide +kernel
theorem dX8_requireVertex_8 : decode cX8_requireVertex 8 = .ok (.ifCond .ne 14, 3) := by decide +kernel
theorem dX8_requireVertex_11 : decode cX8_requireVertex 11 = .ok (.new 307, 3) := by decide +kernel
theorem dX8_requireVertex_14 : decode cX8_requireVertex 14 = .ok (.dup, 1) := by decide +kernel
theorem dX8_requireVertex_15 : decode cX8_requireVertex 15 = .ok (.ldc_w 309, 3) := by decide +kernel
theorem dX8_requireVertex_18 : decode cX8_requireVertex 18 = .ok (.invokespecial 311, 3) := by decide +kernel
theorem dX8_requireVertex_21 : decode cX8_requireVertex 21 = .ok (.athrow, 1) := by decide +kernel
theorem dX8_requireVertex_22 : decode cX8_requireVertex 22 = .ok (.return_, 1) := by decide +kernel
theorem dX8_requireVertices_0 : decode cX8_requireVertices 0 = .ok (.aload_n 0, 1) := by decide +kernel
theorem dX8_requireVertices_1 : decode cX8_requireVertices 1 = .ok (.iload_n 1, 1) := by decide +kernel
theorem dX8_requireVertices_2 : decode cX8_requireVertices 2 = .ok (.invokevirtual 92, 3) := by decide +kernel
theorem dX8_requireVertices_5 : decode cX8_requireVertices 5 = .ok (.aload_n 0, 1) := by decide +kernel
theorem dX8_requireVertices_6 : decode cX8_requireVertices 6 = .ok (.iload_n 2, 1) := by decide +kernel
theorem dX8_requireVertices_7 : decode cX8_requireVertices 7 = .ok (.invokevirtual 92, 3) := by decide +kernel
theorem dX8_requireVertices_10 : decode cX8_requireVertices 10 = .ok (.return_, 1) := by decide +kernel
theorem dX8_requireEdge_0 : decode cX8_requireEdge 0 = .ok (.aload_n 0, 1) := by decide +kernel
theorem dX8_requireEdge_1 : decode cX8_requireEdge 1 = .ok (.getfield 10, 3) := by decide +kernel
theorem dX8_requireEdge_4 : decode cX8_requireEdge 4 = .ok (.iload_n 1, 1) := by decide +kernel
theorem dX8_requireEdge_5 : decode cX8_requireEdge 5 = .ok (.invokevirtual 312, 3) := by decide +kernel
theorem dX8_requireEdge_8 : decode cX8_requireEdge 8 = .ok (.ifCond .ne 14, 3) := by decide +kernel
theorem dX8_requireEdge_11 : decode cX8_requireEdge 11 = .ok (.new 307, 3) := by decide +kernel
theorem dX8_requireEdge_14 : decode cX8_requireEdge 14 = .ok (.dup, 1) := by decide +kernel
theorem dX8_requireEdge_15 : decode cX8_requireEdge 15 = .ok (.ldc_w 315, 3) := by decide +kernel
theorem dX8_requireEdge_18 : decode cX8_requireEdge 18 = .ok (.invokespecial 311, 3) := by decide +kernel
theorem dX8_requireEdge_21 : decode cX8_requireEdge 21 = .ok (.athrow, 1) := by decide +kernel
theorem dX8_requireEdge_22 : decode cX8_requireEdge 22 = .ok (.return_, 1) := by decide +kernel
theorem dX8_requirePresent_0 : decode cX8_requirePresent 0 = .ok (.aload_n 0, 1) := by decide +kernel
theorem dX8_requirePresent_1 : decode cX8_requirePresent 1 = .ok (.getfield 10, 3) := by decide +kernel
theorem dX8_requirePresent_4 : decode cX8_requirePresent 4 = .ok (.iload_n 1, 1) := by decide +kernel
theorem dX8_requirePresent_5 : decode cX8_requirePresent 5 = .ok (.invokevirtual 156, 3) := by decide +kernel
theorem dX8_requirePresent_8 : decode cX8_requirePresent 8 = .ok (.ifCond .ne 14, 3) := by decide +kernel
theorem dX8_requirePresent_11 : decode cX8_requirePresent 11 = .ok (.new 81, 3) := by decide +kernel
theorem dX8_requirePresent_14 : decode cX8_requirePresent 14 = .ok (.dup, 1) := by decide +kernel
theorem dX8_requirePresent_15 : decode cX8_requirePresent 15 = .ok (.ldc_w 317, 3) := by decide +kernel
theorem dX8_requirePresent_18 : decode cX8_requirePresent 18 = .ok (.invokespecial 85, 3) := by decide +kernel
theorem dX8_requirePresent_21 : decode cX8_requirePresent 21 = .ok (.athrow, 1) := by decide +kernel
theorem dX8_requirePresent_22 : decode cX8_requirePresent 22 = .ok (.return_, 1) := by decide +kernel
theorem dX8_requireInForest_0 : decode cX8_requireInForest 0 = .ok (.aload_n 0, 1) := by decide +kernel
theorem dX8_requireInForest_1 : decode cX8_requireInForest 1 = .ok (.getfield 21, 3) := by decide +kernel
theorem dX8_requireInForest_4 : decode cX8_requireInForest 4 = .ok (.iload_n 1, 1) := by decide +kernel
theorem dX8_requireInForest_5 : decode cX8_requireInForest 5 = .ok (.invokevirtual 160, 3) := by decide +kernel
theorem dX8_requireInForest_8 : decode cX8_requireInForest 8 = .ok (.ifCond .ne 14, 3) := by decide +kernel
theorem dX8_requireInForest_11 : decode cX8_requireInForest 11 = .ok (.new 81, 3) := by decide +kernel
theorem dX8_requireInForest_14 : decode cX8_requireInForest 14 = .ok (.dup, 1) := by decide +kernel
theorem dX8_requireInForest_15 : decode cX8_requireInForest 15 = .ok (.ldc_w 319, 3) := by decide +kernel
theorem dX8_requireInForest_18 : decode cX8_requireInForest 18 = .ok (.invokespecial 85, 3) := by decide +kernel
theorem dX8_requireInForest_21 : decode cX8_requireInForest 21 = .ok (.athrow, 1) := by decide +kernel
theorem dX8_requireInForest_22 : decode cX8_requireInForest 22 = .ok (.return_, 1) := by decide +kernel
theorem dX8_requireReplacement_0 : decode cX8_requireReplacement 0 = .ok (.iload_n 0, 1) := by decide +kernel
theorem dX8_requireReplacement_1 : decode cX8_requireReplacement 1 = .ok (.iconst (-1), 1) := by decide +kernel
theorem dX8_requireReplacement_2 : decode cX8_requireReplacement 2 = .ok (.if_icmp .ne 14, 3) := by decide +kernel
theorem dX8_requireReplacement_5 : decode cX8_requireReplacement 5 = .ok (.new 167, 3) := by decide +kernel
theorem dX8_requireReplacement_8 : decode cX8_requireReplacement 8 = .ok (.dup, 1) := by decide +kernel
theorem dX8_requireReplacement_9 : decode cX8_requireReplacement 9 = .ok (.ldc_w 321, 3) := by decide +kernel
theorem dX8_requireReplacement_12 : decode cX8_requireReplacement 12 = .ok (.invokespecial 171, 3) := by decide +kernel
theorem dX8_requireReplacement_15 : decode cX8_requireReplacement 15 = .ok (.athrow, 1) := by decide +kernel
theorem dX8_requireReplacement_16 : decode cX8_requireReplacement 16 = .ok (.iload_n 0, 1) := by decide +kernel
theorem dX8_requireReplacement_17 : decode cX8_requireReplacement 17 = .ok (.ireturn, 1) := by decide +kernel
theorem dX8_requireInTree_0 : decode cX8_requireInTree 0 = .ok (.aload_n 0, 1) := by decide +kernel
theorem dX8_requireInTree_1 : decode cX8_requireInTree 1 = .ok (.getfield 30, 3) := by decide +kernel
theorem dX8_requireInTree_4 : decode cX8_requireInTree 4 = .ok (.iload_n 1, 1) := by decide +kernel
theorem dX8_requireInTree_5 : decode cX8_requireInTree 5 = .ok (.invokevirtual 201, 3) := by decide +kernel
theorem dX8_requireInTree_8 : decode cX8_requireInTree 8 = .ok (.ifCond .ne 14, 3) := by decide +kernel
theorem dX8_requireInTree_11 : decode cX8_requireInTree 11 = .ok (.new 167, 3) := by decide +kernel
theorem dX8_requireInTree_14 : decode cX8_requireInTree 14 = .ok (.dup, 1) := by decide +kernel
theorem dX8_requireInTree_15 : decode cX8_requireInTree 15 = .ok (.ldc_w 323, 3) := by decide +kernel
theorem dX8_requireInTree_18 : decode cX8_requireInTree 18 = .ok (.invokespecial 171, 3) := by decide +kernel
theorem dX8_requireInTree_21 : decode cX8_requireInTree 21 = .ok (.athrow, 1) := by decide +kernel
theorem dX8_requireInTree_22 : decode cX8_requireInTree 22 = .ok (.return_, 1) := by decide +kernel
theorem dX8_requireDistance_0 : decode cX8_requireDistance 0 = .ok (.iload_n 2, 1) := by decide +kernel
theorem dX8_requireDistance_1 : decode cX8_requireDistance 1 = .ok (.iconst 0, 1) := by decide +kernel
theorem dX8_requireDistance_2 : decode cX8_requireDistance 2 = .ok (.aload_n 0, 1) := by decide +kernel
theorem dX8_requireDistance_3 : decode cX8_requireDistance 3 = .ok (.getfield 30, 3) := by decide +kernel
theorem dX8_requireDistance_6 : decode cX8_requireDistance 6 = .ok (.iload_n 1, 1) := by decide +kernel
theorem dX8_requireDistance_7 : decode cX8_requireDistance 7 = .ok (.invokevirtual 153, 3) := by decide +kernel
theorem dX8_requireDistance_10 : decode cX8_requireDistance 10 = .ok (.invokestatic 138, 3) := by decide +kernel
theorem dX8_requireDistance_13 : decode cX8_requireDistance 13 = .ok (.ifCond .ne 14, 3) := by decide +kernel
theorem dX8_requireDistance_16 : decode cX8_requireDistance 16 = .ok (.new 142, 3) := by decide +kernel
theorem dX8_requireDistance_19 : decode cX8_requireDistance 19 = .ok (.dup, 1) := by decide +kernel
theorem dX8_requireDistance_20 : decode cX8_requireDistance 20 = .ok (.ldc_w 325, 3) := by decide +kernel
theorem dX8_requireDistance_23 : decode cX8_requireDistance 23 = .ok (.invokespecial 146, 3) := by decide +kernel
theorem dX8_requireDistance_26 : decode cX8_requireDistance 26 = .ok (.athrow, 1) := by decide +kernel
theorem dX8_requireDistance_27 : decode cX8_requireDistance 27 = .ok (.return_, 1) := by decide +kernel
theorem dX8_plantHolding_0 : decode cX8_plantHolding 0 = .ok (.aload_n 0, 1) := by decide +kernel
theorem dX8_plantHolding_1 : decode cX8_plantHolding 1 = .ok (.getfield 30, 3) := by decide +kernel
theorem dX8_plantHolding_4 : decode cX8_plantHolding 4 = .ok (.iload_n 1, 1) := by decide +kernel
theorem dX8_plantHolding_5 : decode cX8_plantHolding 5 = .ok (.iconst (-1), 1) := by decide +kernel
theorem dX8_plantHolding_6 : decode cX8_plantHolding 6 = .ok (.invokevirtual 198, 3) := by decide +kernel
theorem dX8_plantHolding_9 : decode cX8_plantHolding 9 = .ok (.aload_n 0, 1) := by decide +kernel
theorem dX8_plantHolding_10 : decode cX8_plantHolding 10 = .ok (.iload_n 2, 1) := by decide +kernel
theorem dX8_plantHolding_11 : decode cX8_plantHolding 11 = .ok (.invokevirtual 258, 3) := by decide +kernel
theorem dX8_plantHolding_14 : decode cX8_plantHolding 14 = .ok (.return_, 1) := by decide +kernel
theorem dX8_greatestDepth_0 : decode cX8_greatestDepth 0 = .ok (.iconst 0, 1) := by decide +kernel
theorem dX8_greatestDepth_1 : decode cX8_greatestDepth 1 = .ok (.istore_n 1, 1) := by decide +kernel
theorem dX8_greatestDepth_2 : decode cX8_greatestDepth 2 = .ok (.iconst 0, 1) := by decide +kernel
theorem dX8_greatestDepth_3 : decode cX8_greatestDepth 3 = .ok (.istore_n 2, 1) := by decide +kernel
theorem dX8_greatestDepth_4 : decode cX8_greatestDepth 4 = .ok (.iload_n 2, 1) := by decide +kernel
theorem dX8_greatestDepth_5 : decode cX8_greatestDepth 5 = .ok (.aload_n 0, 1) := by decide +kernel
theorem dX8_greatestDepth_6 : decode cX8_greatestDepth 6 = .ok (.getfield 10, 3) := by decide +kernel
theorem dX8_greatestDepth_9 : decode cX8_greatestDepth 9 = .ok (.invokevirtual 77, 3) := by decide +kernel
theorem dX8_greatestDepth_12 : decode cX8_greatestDepth 12 = .ok (.if_icmp .ge 33, 3) := by decide +kernel
theorem dX8_greatestDepth_15 : decode cX8_greatestDepth 15 = .ok (.aload_n 0, 1) := by decide +kernel
theorem dX8_greatestDepth_16 : decode cX8_greatestDepth 16 = .ok (.getfield 30, 3) := by decide +kernel
theorem dX8_greatestDepth_19 : decode cX8_greatestDepth 19 = .ok (.iload_n 2, 1) := by decide +kernel
theorem dX8_greatestDepth_20 : decode cX8_greatestDepth 20 = .ok (.invokevirtual 201, 3) := by decide +kernel
theorem dX8_greatestDepth_23 : decode cX8_greatestDepth 23 = .ok (.ifCond .eq 16, 3) := by decide +kernel
theorem dX8_greatestDepth_26 : decode cX8_greatestDepth 26 = .ok (.iload_n 1, 1) := by decide +kernel
theorem dX8_greatestDepth_27 : decode cX8_greatestDepth 27 = .ok (.aload_n 0, 1) := by decide +kernel
theorem dX8_greatestDepth_28 : decode cX8_greatestDepth 28 = .ok (.getfield 30, 3) := by decide +kernel
theorem dX8_greatestDepth_31 : decode cX8_greatestDepth 31 = .ok (.iload_n 2, 1) := by decide +kernel
theorem dX8_greatestDepth_32 : decode cX8_greatestDepth 32 = .ok (.invokevirtual 153, 3) := by decide +kernel
theorem dX8_greatestDepth_35 : decode cX8_greatestDepth 35 = .ok (.invokestatic 293, 3) := by decide +kernel
theorem dX8_greatestDepth_38 : decode cX8_greatestDepth 38 = .ok (.istore_n 1, 1) := by decide +kernel
theorem dX8_greatestDepth_39 : decode cX8_greatestDepth 39 = .ok (.iinc 2 1, 3) := by decide +kernel
theorem dX8_greatestDepth_42 : decode cX8_greatestDepth 42 = .ok (.goto (-38), 3) := by decide +kernel
theorem dX8_greatestDepth_45 : decode cX8_greatestDepth 45 = .ok (.iload_n 1, 1) := by decide +kernel
theorem dX8_greatestDepth_46 : decode cX8_greatestDepth 46 = .ok (.ireturn, 1) := by decide +kernel
theorem dX8_quotient_0 : decode cX8_quotient 0 = .ok (.iload_n 1, 1) := by decide +kernel
theorem dX8_quotient_1 : decode cX8_quotient 1 = .ok (.ifCond .ne 7, 3) := by decide +kernel
theorem dX8_quotient_4 : decode cX8_quotient 4 = .ok (.fconst 0, 1) := by decide +kernel
theorem dX8_quotient_5 : decode cX8_quotient 5 = .ok (.goto 8, 3) := by decide +kernel
theorem dX8_quotient_8 : decode cX8_quotient 8 = .ok (.iload_n 0, 1) := by decide +kernel
theorem dX8_quotient_9 : decode cX8_quotient 9 = .ok (.i2f, 1) := by decide +kernel
theorem dX8_quotient_10 : decode cX8_quotient 10 = .ok (.iload_n 1, 1) := by decide +kernel
theorem dX8_quotient_11 : decode cX8_quotient 11 = .ok (.i2f, 1) := by decide +kernel
theorem dX8_quotient_12 : decode cX8_quotient 12 = .ok (.fdiv, 1) := by decide +kernel
theorem dX8_quotient_13 : decode cX8_quotient 13 = .ok (.freturn, 1) := by decide +kernel
theorem dX9_init_0 : decode cX9_init 0 = .ok (.aload_n 0, 1) := by decide +kernel
theorem dX9_init_1 : decode cX9_init 1 = .ok (.invokespecial 1, 3) := by decide +kernel
theorem dX9_init_4 : decode cX9_init 4 = .ok (.aload_n 0, 1) := by decide +kernel
theorem dX9_init_5 : decode cX9_init 5 = .ok (.bipush 20, 2) := by decide +kernel
theorem dX9_init_7 : decode cX9_init 7 = .ok (.newarray .int, 2) := by decide +kernel
theorem dX9_init_9 : decode cX9_init 9 = .ok (.putfield 9, 3) := by decide +kernel
theorem dX9_init_12 : decode cX9_init 12 = .ok (.aload_n 0, 1) := by decide +kernel
theorem dX9_init_13 : decode cX9_init 13 = .ok (.bipush 60, 2) := by decide +kernel
theorem dX9_init_15 : decode cX9_init 15 = .ok (.newarray .int, 2) := by decide +kernel
theorem dX9_init_17 : decode cX9_init 17 = .ok (.putfield 13, 3) := by decide +kernel
theorem dX9_init_20 : decode cX9_init 20 = .ok (.aload_n 0, 1) := by decide +kernel
theorem dX9_init_21 : decode cX9_init 21 = .ok (.bipush 60, 2) := by decide +kernel
theorem dX9_init_23 : decode cX9_init 23 = .ok (.newarray .int, 2) := by decide +kernel
theorem dX9_init_25 : decode cX9_init 25 = .ok (.putfield 16, 3) := by decide +kernel
theorem dX9_init_28 : decode cX9_init 28 = .ok (.aload_n 0, 1) := by decide +kernel
theorem dX9_init_29 : decode cX9_init 29 = .ok (.bipush 60, 2) := by decide +kernel
theorem dX9_init_31 : decode cX9_init 31 = .ok (.newarray .int, 2) := by decide +kernel
theorem dX9_init_33 : decode cX9_init 33 = .ok (.putfield 19, 3) := by decide +kernel
theorem dX9_init_36 : decode cX9_init 36 = .ok (.aload_n 0, 1) := by decide +kernel
theorem dX9_init_37 : decode cX9_init 37 = .ok (.bipush 60, 2) := by decide +kernel
theorem dX9_init_39 : decode cX9_init 39 = .ok (.newarray .int, 2) := by decide +kernel
theorem dX9_init_41 : decode cX9_init 41 = .ok (.putfield 22, 3) := by decide +kernel
theorem dX9_init_44 : decode cX9_init 44 = .ok (.aload_n 0, 1) := by decide +kernel
theorem dX9_init_45 : decode cX9_init 45 = .ok (.bipush 20, 2) := by decide +kernel
theorem dX9_init_47 : decode cX9_init 47 = .ok (.newarray .int, 2) := by decide +kernel
theorem dX9_init_49 : decode cX9_init 49 = .ok (.putfield 25, 3) := by decide +kernel
theorem dX9_init_52 : decode cX9_init 52 = .ok (.aload_n 0, 1) := by decide +kernel
theorem dX9_init_53 : decode cX9_init 53 = .ok (.bipush 60, 2) := by decide +kernel
theorem dX9_init_55 : decode cX9_init 55 = .ok (.newarray .boolean, 2) := by decide +kernel
theorem dX9_init_57 : decode cX9_init 57 = .ok (.putfield 28, 3) := by decide +kernel
theorem dX9_init_60 : decode cX9_init 60 = .ok (.aload_n 0, 1) := by decide +kernel
theorem dX9_init_61 : decode cX9_init 61 = .ok (.bipush 60, 2) := by decide +kernel
theorem dX9_init_63 : decode cX9_init 63 = .ok (.newarray .boolean, 2) := by decide +kernel
theorem dX9_init_65 : decode cX9_init 65 = .ok (.putfield 32, 3) := by decide +kernel
theorem dX9_init_68 : decode cX9_init 68 = .ok (.aload_n 0, 1) := by decide +kernel
theorem dX9_init_69 : decode cX9_init 69 = .ok (.bipush 60, 2) := by decide +kernel
theorem dX9_init_71 : decode cX9_init 71 = .ok (.newarray .boolean, 2) := by decide +kernel
theorem dX9_init_73 : decode cX9_init 73 = .ok (.putfield 35, 3) := by decide +kernel
theorem dX9_init_76 : decode cX9_init 76 = .ok (.aload_n 0, 1) := by decide +kernel
theorem dX9_init_77 : decode cX9_init 77 = .ok (.bipush 20, 2) := by decide +kernel
theorem dX9_init_79 : decode cX9_init 79 = .ok (.newarray .int, 2) := by decide +kernel
theorem dX9_init_81 : decode cX9_init 81 = .ok (.putfield 38, 3) := by decide +kernel
theorem dX9_init_84 : decode cX9_init 84 = .ok (.aload_n 0, 1) := by decide +kernel
theorem dX9_init_85 : decode cX9_init 85 = .ok (.bipush 20, 2) := by decide +kernel
theorem dX9_init_87 : decode cX9_init 87 = .ok (.newarray .int, 2) := by decide +kernel
theorem dX9_init_89 : decode cX9_init 89 = .ok (.putfield 41, 3) := by decide +kernel
theorem dX9_init_92 : decode cX9_init 92 = .ok (.aload_n 0, 1) := by decide +kernel
theorem dX9_init_93 : decode cX9_init 93 = .ok (.bipush 20, 2) := by decide +kernel
theorem dX9_init_95 : decode cX9_init 95 = .ok (.newarray .int, 2) := by decide +kernel
theorem dX9_init_97 : decode cX9_init 97 = .ok (.putfield 44, 3) := by decide +kernel
theorem dX9_init_100 : decode cX9_init 100 = .ok (.aload_n 0, 1) := by decide +kernel
theorem dX9_init_101 : decode cX9_init 101 = .ok (.bipush 20, 2) := by decide +kernel
theorem dX9_init_103 : decode cX9_init 103 = .ok (.newarray .int, 2) := by decide +kernel
theorem dX9_init_105 : decode cX9_init 105 = .ok (.putfield 47, 3) := by decide +kernel
theorem dX9_init_108 : decode cX9_init 108 = .ok (.aload_n 0, 1) := by decide +kernel
theorem dX9_init_109 : decode cX9_init 109 = .ok (.bipush 20, 2) := by decide +kernel
theorem dX9_init_111 : decode cX9_init 111 = .ok (.newarray .int, 2) := by decide +kernel
theorem dX9_init_113 : decode cX9_init 113 = .ok (.putfield 50, 3) := by decide +kernel
theorem dX9_init_116 : decode cX9_init 116 = .ok (.return_, 1) := by decide +kernel
theorem dX9_thrown_0 : decode cX9_thrown 0 = .ok (.aload_n 0, 1) := by decide +kernel
theorem dX9_thrown_1 : decode cX9_thrown 1 = .ok (.getfield 53, 3) := by decide +kernel
theorem dX9_thrown_4 : decode cX9_thrown 4 = .ok (.ireturn, 1) := by decide +kernel
theorem dX9_fails_0 : decode cX9_fails 0 = .ok (.aload_n 0, 1) := by decide +kernel
theorem dX9_fails_1 : decode cX9_fails 1 = .ok (.iload_n 1, 1) := by decide +kernel
theorem dX9_fails_2 : decode cX9_fails 2 = .ok (.putfield 53, 3) := by decide +kernel
theorem dX9_fails_5 : decode cX9_fails 5 = .ok (.iconst 0, 1) := by decide +kernel
theorem dX9_fails_6 : decode cX9_fails 6 = .ok (.ireturn, 1) := by decide +kernel
theorem dX9_isBetween_0 : decode cX9_isBetween 0 = .ok (.iload_n 1, 1) := by decide +kernel
theorem dX9_isBetween_1 : decode cX9_isBetween 1 = .ok (.iload_n 0, 1) := by decide +kernel
theorem dX9_isBetween_2 : decode cX9_isBetween 2 = .ok (.if_icmp .gt 12, 3) := by decide +kernel
theorem dX9_isBetween_5 : decode cX9_isBetween 5 = .ok (.iload_n 0, 1) := by decide +kernel
theorem dX9_isBetween_6 : decode cX9_isBetween 6 = .ok (.iload_n 2, 1) := by decide +kernel
theorem dX9_isBetween_7 : decode cX9_isBetween 7 = .ok (.if_icmp .gt 7, 3) := by decide +kernel
theorem dX9_isBetween_10 : decode cX9_isBetween 10 = .ok (.iconst 1, 1) := by decide +kernel
theorem dX9_isBetween_11 : decode cX9_isBetween 11 = .ok (.goto 4, 3) := by decide +kernel
theorem dX9_isBetween_14 : decode cX9_isBetween 14 = .ok (.iconst 0, 1) := by decide +kernel
theorem dX9_isBetween_15 : decode cX9_isBetween 15 = .ok (.ireturn, 1) := by decide +kernel
theorem dX9_isVertex_0 : decode cX9_isVertex 0 = .ok (.iload_n 1, 1) := by decide +kernel
theorem dX9_isVertex_1 : decode cX9_isVertex 1 = .ok (.iconst 0, 1) := by decide +kernel
theorem dX9_isVertex_2 : decode cX9_isVertex 2 = .ok (.aload_n 0, 1) := by decide +kernel
theorem dX9_isVertex_3 : decode cX9_isVertex 3 = .ok (.getfield 57, 3) := by decide +kernel
theorem dX9_isVertex_6 : decode cX9_isVertex 6 = .ok (.iconst 1, 1) := by decide +kernel
theorem dX9_isVertex_7 : decode cX9_isVertex 7 = .ok (.isub, 1) := by decide +kernel
theorem dX9_isVertex_8 : decode cX9_isVertex 8 = .ok (.invokestatic 60, 3) := by decide +kernel
theorem dX9_isVertex_11 : decode cX9_isVertex 11 = .ok (.ireturn, 1) := by decide +kernel
theorem dX9_isEdge_0 : decode cX9_isEdge 0 = .ok (.iload_n 1, 1) := by decide +kernel
theorem dX9_isEdge_1 : decode cX9_isEdge 1 = .ok (.iconst 0, 1) := by decide +kernel
theorem dX9_isEdge_2 : decode cX9_isEdge 2 = .ok (.aload_n 0, 1) := by decide +kernel
theorem dX9_isEdge_3 : decode cX9_isEdge 3 = .ok (.getfield 64, 3) := by decide +kernel
theorem dX9_isEdge_6 : decode cX9_isEdge 6 = .ok (.iconst 1, 1) := by decide +kernel
theorem dX9_isEdge_7 : decode cX9_isEdge 7 = .ok (.isub, 1) := by decide +kernel
theorem dX9_isEdge_8 : decode cX9_isEdge 8 = .ok (.invokestatic 60, 3) := by decide +kernel
theorem dX9_isEdge_11 : decode cX9_isEdge 11 = .ok (.ireturn, 1) := by decide +kernel
theorem dX9_comesBefore_0 : decode cX9_comesBefore 0 = .ok (.aload_n 0, 1) := by decide +kernel
theorem dX9_comesBefore_1 : decode cX9_comesBefore 1 = .ok (.getfield 19, 3) := by decide +kernel
theorem dX9_comesBefore_4 : decode cX9_comesBefore 4 = .ok (.iload_n 1, 1) := by decide +kernel
theorem dX9_comesBefore_5 : decode cX9_comesBefore 5 = .ok (.iaload, 1) := by decide +kernel
theorem dX9_comesBefore_6 : decode cX9_comesBefore 6 = .ok (.aload_n 0, 1) := by decide +kernel
theorem dX9_comesBefore_7 : decode cX9_comesBefore 7 = .ok (.getfield 19, 3) := by decide +kernel
theorem dX9_comesBefore_10 : decode cX9_comesBefore 10 = .ok (.iload_n 2, 1) := by decide +kernel
theorem dX9_comesBefore_11 : decode cX9_comesBefore 11 = .ok (.iaload, 1) := by decide +kernel
theorem dX9_comesBefore_12 : decode cX9_comesBefore 12 = .ok (.if_icmp .eq 26, 3) := by decide +kernel
theorem dX9_comesBefore_15 : decode cX9_comesBefore 15 = .ok (.aload_n 0, 1) := by decide +kernel
theorem dX9_comesBefore_16 : decode cX9_comesBefore 16 = .ok (.getfield 19, 3) := by decide +kernel
theorem dX9_comesBefore_19 : decode cX9_comesBefore 19 = .ok (.iload_n 1, 1) := by decide +kernel
theorem dX9_comesBefore_20 : decode cX9_comesBefore 20 = .ok (.iaload, 1) := by decide +kernel
theorem dX9_comesBefore_21 : decode cX9_comesBefore 21 = .ok (.aload_n 0, 1) := by decide +kernel
theorem dX9_comesBefore_22 : decode cX9_comesBefore 22 = .ok (.getfield 19, 3) := by decide +kernel
theorem dX9_comesBefore_25 : decode cX9_comesBefore 25 = .ok (.iload_n 2, 1) := by decide +kernel
theorem dX9_comesBefore_26 : decode cX9_comesBefore 26 = .ok (.iaload, 1) := by decide +kernel
theorem dX9_comesBefore_27 : decode cX9_comesBefore 27 = .ok (.if_icmp .ge 7, 3) := by decide +kernel
theorem dX9_comesBefore_30 : decode cX9_comesBefore 30 = .ok (.iconst 1, 1) := by decide +kernel
theorem dX9_comesBefore_31 : decode cX9_comesBefore 31 = .ok (.goto 17, 3) := by decide +kernel
theorem dX9_comesBefore_34 : decode cX9_comesBefore 34 = .ok (.iconst 0, 1) := by decide +kernel
theorem dX9_comesBefore_35 : decode cX9_comesBefore 35 = .ok (.goto 13, 3) := by decide +kernel
theorem dX9_comesBefore_38 : decode cX9_comesBefore 38 = .ok (.iload_n 1, 1) := by decide +kernel
theorem dX9_comesBefore_39 : decode cX9_comesBefore 39 = .ok (.iload_n 2, 1) := by decide +kernel
theorem dX9_comesBefore_40 : decode cX9_comesBefore 40 = .ok (.if_icmp .ge 7, 3) := by decide +kernel
theorem dX9_comesBefore_43 : decode cX9_comesBefore 43 = .ok (.iconst 1, 1) := by decide +kernel
theorem dX9_comesBefore_44 : decode cX9_comesBefore 44 = .ok (.goto 4, 3) := by decide +kernel
theorem dX9_comesBefore_47 : decode cX9_comesBefore 47 = .ok (.iconst 0, 1) := by decide +kernel
theorem dX9_comesBefore_48 : decode cX9_comesBefore 48 = .ok (.ireturn, 1) := by decide +kernel
theorem dX9_sorts_0 : decode cX9_sorts 0 = .ok (.iconst 0, 1) := by decide +kernel
theorem dX9_sorts_1 : decode cX9_sorts 1 = .ok (.istore_n 1, 1) := by decide +kernel
theorem dX9_sorts_2 : decode cX9_sorts 2 = .ok (.iload_n 1, 1) := by decide +kernel
theorem dX9_sorts_3 : decode cX9_sorts 3 = .ok (.aload_n 0, 1) := by decide +kernel
theorem dX9_sorts_4 : decode cX9_sorts 4 = .ok (.getfield 64, 3) := by decide +kernel
theorem dX9_sorts_7 : decode cX9_sorts 7 = .ok (.if_icmp .ge 58, 3) := by decide +kernel
theorem dX9_sorts_10 : decode cX9_sorts 10 = .ok (.iload_n 1, 1) := by decide +kernel
theorem dX9_sorts_11 : decode cX9_sorts 11 = .ok (.istore_n 2, 1) := by decide +kernel
theorem dX9_sorts_12 : decode cX9_sorts 12 = .ok (.iload_n 2, 1) := by decide +kernel
theorem dX9_sorts_13 : decode cX9_sorts 13 = .ok (.ifCond .le 39, 3) := by decide +kernel
theorem dX9_sorts_16 : decode cX9_sorts 16 = .ok (.aload_n 0, 1) := by decide +kernel
theorem dX9_sorts_17 : decode cX9_sorts 17 = .ok (.iload_n 1, 1) := by decide +kernel
theorem dX9_sorts_18 : decode cX9_sorts 18 = .ok (.aload_n 0, 1) := by decide +kernel
theorem dX9_sorts_19 : decode cX9_sorts 19 = .ok (.getfield 22, 3) := by decide +kernel
theorem dX9_sorts_22 : decode cX9_sorts 22 = .ok (.iload_n 2, 1) := by decide +kernel
theorem dX9_sorts_23 : decode cX9_sorts 23 = .ok (.iconst 1, 1) := by decide +kernel
theorem dX9_sorts_24 : decode cX9_sorts 24 = .ok (.isub, 1) := by decide +kernel
theorem dX9_sorts_25 : decode cX9_sorts 25 = .ok (.iaload, 1) := by decide +kernel
theorem dX9_sorts_26 : decode cX9_sorts 26 = .ok (.invokevirtual 67, 3) := by decide +kernel
theorem dX9_sorts_29 : decode cX9_sorts 29 = .ok (.ifCond .eq 23, 3) := by decide +kernel
theorem dX9_sorts_32 : decode cX9_sorts 32 = .ok (.aload_n 0, 1) := by decide +kernel
theorem dX9_sorts_33 : decode cX9_sorts 33 = .ok (.getfield 22, 3) := by decide +kernel
theorem dX9_sorts_36 : decode cX9_sorts 36 = .ok (.iload_n 2, 1) := by decide +kernel
theorem dX9_sorts_37 : decode cX9_sorts 37 = .ok (.aload_n 0, 1) := by decide +kernel
theorem dX9_sorts_38 : decode cX9_sorts 38 = .ok (.getfield 22, 3) := by decide +kernel
theorem dX9_sorts_41 : decode cX9_sorts 41 = .ok (.iload_n 2, 1) := by decide +kernel
theorem dX9_sorts_42 : decode cX9_sorts 42 = .ok (.iconst 1, 1) := by decide +kernel
theorem dX9_sorts_43 : decode cX9_sorts 43 = .ok (.isub, 1) := by decide +kernel
theorem dX9_sorts_44 : decode cX9_sorts 44 = .ok (.iaload, 1) := by decide +kernel
theorem dX9_sorts_45 : decode cX9_sorts 45 = .ok (.iastore, 1) := by decide +kernel
theorem dX9_sorts_46 : decode cX9_sorts 46 = .ok (.iinc 2 (-1), 3) := by decide +kernel
theorem dX9_sorts_49 : decode cX9_sorts 49 = .ok (.goto (-37), 3) := by decide +kernel
theorem dX9_sorts_52 : decode cX9_sorts 52 = .ok (.aload_n 0, 1) := by decide +kernel
theorem dX9_sorts_53 : decode cX9_sorts 53 = .ok (.getfield 22, 3) := by decide +kernel
theorem dX9_sorts_56 : decode cX9_sorts 56 = .ok (.iload_n 2, 1) := by decide +kernel
theorem dX9_sorts_57 : decode cX9_sorts 57 = .ok (.iload_n 1, 1) := by decide +kernel
theorem dX9_sorts_58 : decode cX9_sorts 58 = .ok (.iastore, 1) := by decide +kernel
theorem dX9_sorts_59 : decode cX9_sorts 59 = .ok (.iinc 1 1, 3) := by decide +kernel
theorem dX9_sorts_62 : decode cX9_sorts 62 = .ok (.goto (-60), 3) := by decide +kernel
theorem dX9_sorts_65 : decode cX9_sorts 65 = .ok (.return_, 1) := by decide +kernel
theorem dX9_finds_0 : decode cX9_finds 0 = .ok (.aload_n 0, 1) := by decide +kernel
theorem dX9_finds_1 : decode cX9_finds 1 = .ok (.invokevirtual 71, 3) := by decide +kernel
theorem dX9_finds_4 : decode cX9_finds 4 = .ok (.iconst 0, 1) := by decide +kernel
theorem dX9_finds_5 : decode cX9_finds 5 = .ok (.istore_n 3, 1) := by decide +kernel
theorem dX9_finds_6 : decode cX9_finds 6 = .ok (.iload_n 3, 1) := by decide +kernel
theorem dX9_finds_7 : decode cX9_finds 7 = .ok (.aload_n 0, 1) := by decide +kernel
theorem dX9_finds_8 : decode cX9_finds 8 = .ok (.getfield 57, 3) := by decide +kernel
theorem dX9_finds_11 : decode cX9_finds 11 = .ok (.if_icmp .ge 16, 3) := by decide +kernel
theorem dX9_finds_14 : decode cX9_finds 14 = .ok (.aload_n 0, 1) := by decide +kernel
theorem dX9_finds_15 : decode cX9_finds 15 = .ok (.getfield 25, 3) := by decide +kernel
theorem dX9_finds_18 : decode cX9_finds 18 = .ok (.iload_n 3, 1) := by decide +kernel
theorem dX9_finds_19 : decode cX9_finds 19 = .ok (.iload_n 3, 1) := by decide +kernel
theorem dX9_finds_20 : decode cX9_finds 20 = .ok (.iastore, 1) := by decide +kernel
theorem dX9_finds_21 : decode cX9_finds 21 = .ok (.iinc 3 1, 3) := by decide +kernel
theorem dX9_finds_24 : decode cX9_finds 24 = .ok (.goto (-18), 3) := by decide +kernel
theorem dX9_finds_27 : decode cX9_finds 27 = .ok (.iconst 0, 1) := by decide +kernel
theorem dX9_finds_28 : decode cX9_finds 28 = .ok (.istore_n 3, 1) := by decide +kernel
theorem dX9_finds_29 : decode cX9_finds 29 = .ok (.iload_n 3, 1) := by decide +kernel
theorem dX9_finds_30 : decode cX9_finds 30 = .ok (.aload_n 0, 1) := by decide +kernel
theorem dX9_finds_31 : decode cX9_finds 31 = .ok (.getfield 64, 3) := by decide +kernel
theorem dX9_finds_34 : decode cX9_finds 34 = .ok (.if_icmp .ge 126, 3) := by decide +kernel
theorem dX9_finds_37 : decode cX9_finds 37 = .ok (.aload_n 0, 1) := by decide +kernel
theorem dX9_finds_38 : decode cX9_finds 38 = .ok (.getfield 22, 3) := by decide +kernel
theorem dX9_finds_41 : decode cX9_finds 41 = .ok (.iload_n 3, 1) := by decide +kernel
theorem dX9_finds_42 : decode cX9_finds 42 = .ok (.iaload, 1) := by decide +kernel
theorem dX9_finds_43 : decode cX9_finds 43 = .ok (.istore 4, 2) := by decide +kernel
theorem dX9_finds_45 : decode cX9_finds 45 = .ok (.aload_n 0, 1) := by decide +kernel
theorem dX9_finds_46 : decode cX9_finds 46 = .ok (.getfield 25, 3) := by decide +kernel
theorem dX9_finds_49 : decode cX9_finds 49 = .ok (.aload_n 0, 1) := by decide +kernel
theorem dX9_finds_50 : decode cX9_finds 50 = .ok (.getfield 13, 3) := by decide +kernel
theorem dX9_finds_53 : decode cX9_finds 53 = .ok (.iload 4, 2) := by decide +kernel
theorem dX9_finds_55 : decode cX9_finds 55 = .ok (.iaload, 1) := by decide +kernel
theorem dX9_finds_56 : decode cX9_finds 56 = .ok (.iaload, 1) := by decide +kernel
theorem dX9_finds_57 : decode cX9_finds 57 = .ok (.istore 5, 2) := by decide +kernel
theorem dX9_finds_59 : decode cX9_finds 59 = .ok (.aload_n 0, 1) := by decide +kernel
theorem dX9_finds_60 : decode cX9_finds 60 = .ok (.getfield 25, 3) := by decide +kernel
theorem dX9_finds_63 : decode cX9_finds 63 = .ok (.aload_n 0, 1) := by decide +kernel
theorem dX9_finds_64 : decode cX9_finds 64 = .ok (.getfield 16, 3) := by decide +kernel
theorem dX9_finds_67 : decode cX9_finds 67 = .ok (.iload 4, 2) := by decide +kernel
theorem dX9_finds_69 : decode cX9_finds 69 = .ok (.iaload, 1) := by decide +kernel
theorem dX9_finds_70 : decode cX9_finds 70 = .ok (.iaload, 1) := by decide +kernel
theorem dX9_finds_71 : decode cX9_finds 71 = .ok (.istore 6, 2) := by decide +kernel
theorem dX9_finds_73 : decode cX9_finds 73 = .ok (.aload_n 2, 1) := by decide +kernel
theorem dX9_finds_74 : decode cX9_finds 74 = .ok (.iload 4, 2) := by decide +kernel
theorem dX9_finds_76 : decode cX9_finds 76 = .ok (.aload_n 0, 1) := by decide +kernel
theorem dX9_finds_77 : decode cX9_finds 77 = .ok (.getfield 28, 3) := by decide +kernel
theorem dX9_finds_80 : decode cX9_finds 80 = .ok (.iload 4, 2) := by decide +kernel
theorem dX9_finds_82 : decode cX9_finds 82 = .ok (.baload, 1) := by decide +kernel
theorem dX9_finds_83 : decode cX9_finds 83 = .ok (.ifCond .eq 20, 3) := by decide +kernel
theorem dX9_finds_86 : decode cX9_finds 86 = .ok (.iload 4, 2) := by decide +kernel
theorem dX9_finds_88 : decode cX9_finds 88 = .ok (.iload_n 1, 1) := by decide +kernel
theorem dX9_finds_89 : decode cX9_finds 89 = .ok (.if_icmp .eq 14, 3) := by decide +kernel
theorem dX9_finds_92 : decode cX9_finds 92 = .ok (.iload 5, 2) := by decide +kernel
theorem dX9_finds_94 : decode cX9_finds 94 = .ok (.iload 6, 2) := by decide +kernel
theorem dX9_finds_96 : decode cX9_finds 96 = .ok (.if_icmp .eq 7, 3) := by decide +kernel
theorem dX9_finds_99 : decode cX9_finds 99 = .ok (.iconst 1, 1) := by decide +kernel
theorem dX9_finds_100 : decode cX9_finds 100 = .ok (.goto 4, 3) := by decide +kernel
theorem dX9_finds_103 : decode cX9_finds 103 = .ok (.iconst 0, 1) := by decide +kernel
theorem dX9_finds_104 : decode cX9_finds 104 = .ok (.bastore, 1) := by decide +kernel
theorem dX9_finds_105 : decode cX9_finds 105 = .ok (.aload_n 2, 1) := by decide +kernel
theorem dX9_finds_106 : decode cX9_finds 106 = .ok (.iload 4, 2) := by decide +kernel
theorem dX9_finds_108 : decode cX9_finds 108 = .ok (.baload, 1) := by decide +kernel
theorem dX9_finds_109 : decode cX9_finds 109 = .ok (.ifCond .ne 6, 3) := by decide +kernel
theorem dX9_finds_112 : decode cX9_finds 112 = .ok (.goto 42, 3) := by decide +kernel
theorem dX9_finds_115 : decode cX9_finds 115 = .ok (.iconst 0, 1) := by decide +kernel
theorem dX9_finds_116 : decode cX9_finds 116 = .ok (.istore 7, 2) := by decide +kernel
theorem dX9_finds_118 : decode cX9_finds 118 = .ok (.iload 7, 2) := by decide +kernel
theorem dX9_finds_120 : decode cX9_finds 120 = .ok (.aload_n 0, 1) := by decide +kernel
theorem dX9_finds_121 : decode cX9_finds 121 = .ok (.getfield 57, 3) := by decide +kernel
theorem dX9_finds_124 : decode cX9_finds 124 = .ok (.if_icmp .ge 30, 3) := by decide +kernel
theorem dX9_finds_127 : decode cX9_finds 127 = .ok (.aload_n 0, 1) := by decide +kernel
theorem dX9_finds_128 : decode cX9_finds 128 = .ok (.getfield 25, 3) := by decide +kernel
theorem dX9_finds_131 : decode cX9_finds 131 = .ok (.iload 7, 2) := by decide +kernel
theorem dX9_finds_133 : decode cX9_finds 133 = .ok (.iaload, 1) := by decide +kernel
theorem dX9_finds_134 : decode cX9_finds 134 = .ok (.iload 6, 2) := by decide +kernel
theorem dX9_finds_136 : decode cX9_finds 136 = .ok (.if_icmp .ne 12, 3) := by decide +kernel
theorem dX9_finds_139 : decode cX9_finds 139 = .ok (.aload_n 0, 1) := by decide +kernel
theorem dX9_finds_140 : decode cX9_finds 140 = .ok (.getfield 25, 3) := by decide +kernel
theorem dX9_finds_143 : decode cX9_finds 143 = .ok (.iload 7, 2) := by decide +kernel
theorem dX9_finds_145 : decode cX9_finds 145 = .ok (.iload 5, 2) := by decide +kernel
theorem dX9_finds_147 : decode cX9_finds 147 = .ok (.iastore, 1) := by decide +kernel
theorem dX9_finds_148 : decode cX9_finds 148 = .ok (.iinc 7 1, 3) := by decide +kernel
theorem dX9_finds_151 : decode cX9_finds 151 = .ok (.goto (-33), 3) := by decide +kernel
theorem dX9_finds_154 : decode cX9_finds 154 = .ok (.iinc 3 1, 3) := by decide +kernel
theorem dX9_finds_157 : decode cX9_finds 157 = .ok (.goto (-128), 3) := by decide +kernel
theorem dX9_finds_160 : decode cX9_finds 160 = .ok (.return_, 1) := by decide +kernel
theorem dX9_finds__0 : decode cX9_finds_ 0 = .ok (.aload_n 0, 1) := by decide +kernel
theorem dX9_finds__1 : decode cX9_finds_ 1 = .ok (.iconst (-1), 1) := by decide +kernel
theorem dX9_finds__2 : decode cX9_finds_ 2 = .ok (.aload_n 0, 1) := by decide +kernel
theorem dX9_finds__3 : decode cX9_finds_ 3 = .ok (.getfield 32, 3) := by decide +kernel
theorem dX9_finds__6 : decode cX9_finds_ 6 = .ok (.invokevirtual 74, 3) := by decide +kernel
theorem dX9_finds__9 : decode cX9_finds_ 9 = .ok (.return_, 1) := by decide +kernel
theorem dX9_addVertex_0 : decode cX9_addVertex 0 = .ok (.aload_n 0, 1) := by decide +kernel
theorem dX9_addVertex_1 : decode cX9_addVertex 1 = .ok (.iconst 0, 1) := by decide +kernel
theorem dX9_addVertex_2 : decode cX9_addVertex 2 = .ok (.putfield 53, 3) := by decide +kernel
theorem dX9_addVertex_5 : decode cX9_addVertex 5 = .ok (.iload_n 1, 1) := by decide +kernel
theorem dX9_addVertex_6 : decode cX9_addVertex 6 = .ok (.bipush (-99), 2) := by decide +kernel
theorem dX9_addVertex_8 : decode cX9_addVertex 8 = .ok (.bipush 99, 2) := by decide +kernel
theorem dX9_addVertex_10 : decode cX9_addVertex 10 = .ok (.invokestatic 60, 3) := by decide +kernel
theorem dX9_addVertex_13 : decode cX9_addVertex 13 = .ok (.ifCond .ne 9, 3) := by decide +kernel
theorem dX9_addVertex_16 : decode cX9_addVertex 16 = .ok (.aload_n 0, 1) := by decide +kernel
theorem dX9_addVertex_17 : decode cX9_addVertex 17 = .ok (.iconst 1, 1) := by decide +kernel
theorem dX9_addVertex_18 : decode cX9_addVertex 18 = .ok (.invokevirtual 78, 3) := by decide +kernel
theorem dX9_addVertex_21 : decode cX9_addVertex 21 = .ok (.ireturn, 1) := by decide +kernel
theorem dX9_addVertex_22 : decode cX9_addVertex 22 = .ok (.aload_n 0, 1) := by decide +kernel
theorem dX9_addVertex_23 : decode cX9_addVertex 23 = .ok (.getfield 57, 3) := by decide +kernel
theorem dX9_addVertex_26 : decode cX9_addVertex 26 = .ok (.bipush 20, 2) := by decide +kernel
theorem dX9_addVertex_28 : decode cX9_addVertex 28 = .ok (.if_icmp .ne 9, 3) := by decide +kernel
theorem dX9_addVertex_31 : decode cX9_addVertex 31 = .ok (.aload_n 0, 1) := by decide +kernel
theorem dX9_addVertex_32 : decode cX9_addVertex 32 = .ok (.iconst 2, 1) := by decide +kernel
theorem dX9_addVertex_33 : decode cX9_addVertex 33 = .ok (.invokevirtual 78, 3) := by decide +kernel
theorem dX9_addVertex_36 : decode cX9_addVertex 36 = .ok (.ireturn, 1) := by decide +kernel
theorem dX9_addVertex_37 : decode cX9_addVertex 37 = .ok (.aload_n 0, 1) := by decide +kernel
theorem dX9_addVertex_38 : decode cX9_addVertex 38 = .ok (.getfield 9, 3) := by decide +kernel
theorem dX9_addVertex_41 : decode cX9_addVertex 41 = .ok (.aload_n 0, 1) := by decide +kernel
theorem dX9_addVertex_42 : decode cX9_addVertex 42 = .ok (.getfield 57, 3) := by decide +kernel
theorem dX9_addVertex_45 : decode cX9_addVertex 45 = .ok (.iload_n 1, 1) := by decide +kernel
theorem dX9_addVertex_46 : decode cX9_addVertex 46 = .ok (.iastore, 1) := by decide +kernel
theorem dX9_addVertex_47 : decode cX9_addVertex 47 = .ok (.aload_n 0, 1) := by decide +kernel
theorem dX9_addVertex_48 : decode cX9_addVertex 48 = .ok (.dup, 1) := by decide +kernel
theorem dX9_addVertex_49 : decode cX9_addVertex 49 = .ok (.getfield 57, 3) := by decide +kernel
theorem dX9_addVertex_52 : decode cX9_addVertex 52 = .ok (.iconst 1, 1) := by decide +kernel
theorem dX9_addVertex_53 : decode cX9_addVertex 53 = .ok (.iadd, 1) := by decide +kernel
theorem dX9_addVertex_54 : decode cX9_addVertex 54 = .ok (.putfield 57, 3) := by decide +kernel
theorem dX9_addVertex_57 : decode cX9_addVertex 57 = .ok (.aload_n 0, 1) := by decide +kernel
theorem dX9_addVertex_58 : decode cX9_addVertex 58 = .ok (.invokevirtual 82, 3) := by decide +kernel
theorem dX9_addVertex_61 : decode cX9_addVertex 61 = .ok (.aload_n 0, 1) := by decide +kernel
theorem dX9_addVertex_62 : decode cX9_addVertex 62 = .ok (.getfield 57, 3) := by decide +kernel
theorem dX9_addVertex_65 : decode cX9_addVertex 65 = .ok (.iconst 1, 1) := by decide +kernel
theorem dX9_addVertex_66 : decode cX9_addVertex 66 = .ok (.isub, 1) := by decide +kernel
theorem dX9_addVertex_67 : decode cX9_addVertex 67 = .ok (.ireturn, 1) := by decide +kernel
theorem dX9_setValue_0 : decode cX9_setValue 0 = .ok (.aload_n 0, 1) := by decide +kernel
theorem dX9_setValue_1 : decode cX9_setValue 1 = .ok (.iconst 0, 1) := by decide +kernel
theorem dX9_setValue_2 : decode cX9_setValue 2 = .ok (.putfield 53, 3) := by decide +kernel
theorem dX9_setValue_5 : decode cX9_setValue 5 = .ok (.aload_n 0, 1) := by decide +kernel
theorem dX9_setValue_6 : decode cX9_setValue 6 = .ok (.iload_n 1, 1) := by decide +kernel
theorem dX9_setValue_7 : decode cX9_setValue 7 = .ok (.invokevirtual 84, 3) := by decide +kernel
theorem dX9_setValue_10 : decode cX9_setValue 10 = .ok (.ifCond .ne 9, 3) := by decide +kernel
theorem dX9_setValue_13 : decode cX9_setValue 13 = .ok (.aload_n 0, 1) := by decide +kernel
theorem dX9_setValue_14 : decode cX9_setValue 14 = .ok (.iconst 1, 1) := by decide +kernel
theorem dX9_setValue_15 : decode cX9_setValue 15 = .ok (.invokevirtual 78, 3) := by decide +kernel
theorem dX9_setValue_18 : decode cX9_setValue 18 = .ok (.ireturn, 1) := by decide +kernel
theorem dX9_setValue_19 : decode cX9_setValue 19 = .ok (.iload_n 2, 1) := by decide +kernel
theorem dX9_setValue_20 : decode cX9_setValue 20 = .ok (.bipush (-99), 2) := by decide +kernel
theorem dX9_setValue_22 : decode cX9_setValue 22 = .ok (.bipush 99, 2) := by decide +kernel
theorem dX9_setValue_24 : decode cX9_setValue 24 = .ok (.invokestatic 60, 3) := by decide +kernel
theorem dX9_setValue_27 : decode cX9_setValue 27 = .ok (.ifCond .ne 9, 3) := by decide +kernel
theorem dX9_setValue_30 : decode cX9_setValue 30 = .ok (.aload_n 0, 1) := by decide +kernel
theorem dX9_setValue_31 : decode cX9_setValue 31 = .ok (.iconst 2, 1) := by decide +kernel
theorem dX9_setValue_32 : decode cX9_setValue 32 = .ok (.invokevirtual 78, 3) := by decide +kernel
theorem dX9_setValue_35 : decode cX9_setValue 35 = .ok (.ireturn, 1) := by decide +kernel
theorem dX9_setValue_36 : decode cX9_setValue 36 = .ok (.aload_n 0, 1) := by decide +kernel
theorem dX9_setValue_37 : decode cX9_setValue 37 = .ok (.getfield 9, 3) := by decide +kernel
theorem dX9_setValue_40 : decode cX9_setValue 40 = .ok (.iload_n 1, 1) := by decide +kernel
theorem dX9_setValue_41 : decode cX9_setValue 41 = .ok (.iaload, 1) := by decide +kernel
theorem dX9_setValue_42 : decode cX9_setValue 42 = .ok (.istore_n 3, 1) := by decide +kernel
theorem dX9_setValue_43 : decode cX9_setValue 43 = .ok (.aload_n 0, 1) := by decide +kernel
theorem dX9_setValue_44 : decode cX9_setValue 44 = .ok (.getfield 9, 3) := by decide +kernel
theorem dX9_setValue_47 : decode cX9_setValue 47 = .ok (.iload_n 1, 1) := by decide +kernel
theorem dX9_setValue_48 : decode cX9_setValue 48 = .ok (.iload_n 2, 1) := by decide +kernel
theorem dX9_setValue_49 : decode cX9_setValue 49 = .ok (.iastore, 1) := by decide +kernel
theorem dX9_setValue_50 : decode cX9_setValue 50 = .ok (.iload_n 3, 1) := by decide +kernel
theorem dX9_setValue_51 : decode cX9_setValue 51 = .ok (.ireturn, 1) := by decide +kernel
theorem dX9_addEdge_0 : decode cX9_addEdge 0 = .ok (.aload_n 0, 1) := by decide +kernel
theorem dX9_addEdge_1 : decode cX9_addEdge 1 = .ok (.iconst 0, 1) := by decide +kernel
theorem dX9_addEdge_2 : decode cX9_addEdge 2 = .ok (.putfield 53, 3) := by decide +kernel
theorem dX9_addEdge_5 : decode cX9_addEdge 5 = .ok (.aload_n 0, 1) := by decide +kernel
theorem dX9_addEdge_6 : decode cX9_addEdge 6 = .ok (.iload_n 1, 1) := by decide +kernel
theorem dX9_addEdge_7 : decode cX9_addEdge 7 = .ok (.invokevirtual 84, 3) := by decide +kernel
theorem dX9_addEdge_10 : decode cX9_addEdge 10 = .ok (.ifCond .eq 11, 3) := by decide +kernel
theorem dX9_addEdge_13 : decode cX9_addEdge 13 = .ok (.aload_n 0, 1) := by decide +kernel
theorem dX9_addEdge_14 : decode cX9_addEdge 14 = .ok (.iload_n 2, 1) := by decide +kernel
theorem dX9_addEdge_15 : decode cX9_addEdge 15 = .ok (.invokevirtual 84, 3) := by decide +kernel
theorem dX9_addEdge_18 : decode cX9_addEdge 18 = .ok (.ifCond .ne 9, 3) := by decide +kernel
theorem dX9_addEdge_21 : decode cX9_addEdge 21 = .ok (.aload_n 0, 1) := by decide +kernel
theorem dX9_addEdge_22 : decode cX9_addEdge 22 = .ok (.iconst 1, 1) := by decide +kernel
theorem dX9_addEdge_23 : decode cX9_addEdge 23 = .ok (.invokevirtual 78, 3) := by decide +kernel
theorem dX9_addEdge_26 : decode cX9_addEdge 26 = .ok (.ireturn, 1) := by decide +kernel
theorem dX9_addEdge_27 : decode cX9_addEdge 27 = .ok (.iload_n 3, 1) := by decide +kernel
theorem dX9_addEdge_28 : decode cX9_addEdge 28 = .ok (.iconst 1, 1) := by decide +kernel
theorem dX9_addEdge_29 : decode cX9_addEdge 29 = .ok (.bipush 99, 2) := by decide +kernel
theorem dX9_addEdge_31 : decode cX9_addEdge 31 = .ok (.invokestatic 60, 3) := by decide +kernel
theorem dX9_addEdge_34 : decode cX9_addEdge 34 = .ok (.ifCond .ne 9, 3) := by decide +kernel
theorem dX9_addEdge_37 : decode cX9_addEdge 37 = .ok (.aload_n 0, 1) := by decide +kernel
theorem dX9_addEdge_38 : decode cX9_addEdge 38 = .ok (.iconst 2, 1) := by decide +kernel
theorem dX9_addEdge_39 : decode cX9_addEdge 39 = .ok (.invokevirtual 78, 3) := by decide +kernel
theorem dX9_addEdge_42 : decode cX9_addEdge 42 = .ok (.ireturn, 1) := by decide +kernel
theorem dX9_addEdge_43 : decode cX9_addEdge 43 = .ok (.iload_n 1, 1) := by decide +kernel
theorem dX9_addEdge_44 : decode cX9_addEdge 44 = .ok (.iload_n 2, 1) := by decide +kernel
theorem dX9_addEdge_45 : decode cX9_addEdge 45 = .ok (.if_icmp .ne 9, 3) := by decide +kernel
theorem dX9_addEdge_48 : decode cX9_addEdge 48 = .ok (.aload_n 0, 1) := by decide +kernel
theorem dX9_addEdge_49 : decode cX9_addEdge 49 = .ok (.iconst 3, 1) := by decide +kernel
theorem dX9_addEdge_50 : decode cX9_addEdge 50 = .ok (.invokevirtual 78, 3) := by decide +kernel
theorem dX9_addEdge_53 : decode cX9_addEdge 53 = .ok (.ireturn, 1) := by decide +kernel
theorem dX9_addEdge_54 : decode cX9_addEdge 54 = .ok (.aload_n 0, 1) := by decide +kernel
theorem dX9_addEdge_55 : decode cX9_addEdge 55 = .ok (.getfield 64, 3) := by decide +kernel
theorem dX9_addEdge_58 : decode cX9_addEdge 58 = .ok (.bipush 60, 2) := by decide +kernel
theorem dX9_addEdge_60 : decode cX9_addEdge 60 = .ok (.if_icmp .ne 9, 3) := by decide +kernel
theorem dX9_addEdge_63 : decode cX9_addEdge 63 = .ok (.aload_n 0, 1) := by decide +kernel
theorem dX9_addEdge_64 : decode cX9_addEdge 64 = .ok (.iconst 4, 1) := by decide +kernel
theorem dX9_addEdge_65 : decode cX9_addEdge 65 = .ok (.invokevirtual 78, 3) := by decide +kernel
theorem dX9_addEdge_68 : decode cX9_addEdge 68 = .ok (.ireturn, 1) := by decide +kernel
theorem dX9_addEdge_69 : decode cX9_addEdge 69 = .ok (.aload_n 0, 1) := by decide +kernel
theorem dX9_addEdge_70 : decode cX9_addEdge 70 = .ok (.getfield 13, 3) := by decide +kernel
theorem dX9_addEdge_73 : decode cX9_addEdge 73 = .ok (.aload_n 0, 1) := by decide +kernel
theorem dX9_addEdge_74 : decode cX9_addEdge 74 = .ok (.getfield 64, 3) := by decide +kernel
theorem dX9_addEdge_77 : decode cX9_addEdge 77 = .ok (.iload_n 1, 1) := by decide +kernel
theorem dX9_addEdge_78 : decode cX9_addEdge 78 = .ok (.iastore, 1) := by decide +kernel
theorem dX9_addEdge_79 : decode cX9_addEdge 79 = .ok (.aload_n 0, 1) := by decide +kernel
theorem dX9_addEdge_80 : decode cX9_addEdge 80 = .ok (.getfield 16, 3) := by decide +kernel
theorem dX9_addEdge_83 : decode cX9_addEdge 83 = .ok (.aload_n 0, 1) := by decide +kernel
theorem dX9_addEdge_84 : decode cX9_addEdge 84 = .ok (.getfield 64, 3) := by decide +kernel
theorem dX9_addEdge_87 : decode cX9_addEdge 87 = .ok (.iload_n 2, 1) := by decide +kernel
theorem dX9_addEdge_88 : decode cX9_addEdge 88 = .ok (.iastore, 1) := by decide +kernel
theorem dX9_addEdge_89 : decode cX9_addEdge 89 = .ok (.aload_n 0, 1) := by decide +kernel
theorem dX9_addEdge_90 : decode cX9_addEdge 90 = .ok (.getfield 19, 3) := by decide +kernel
theorem dX9_addEdge_93 : decode cX9_addEdge 93 = .ok (.aload_n 0, 1) := by decide +kernel
theorem dX9_addEdge_94 : decode cX9_addEdge 94 = .ok (.getfield 64, 3) := by decide +kernel
theorem dX9_addEdge_97 : decode cX9_addEdge 97 = .ok (.iload_n 3, 1) := by decide +kernel
theorem dX9_addEdge_98 : decode cX9_addEdge 98 = .ok (.iastore, 1) := by decide +kernel
theorem dX9_addEdge_99 : decode cX9_addEdge 99 = .ok (.aload_n 0, 1) := by decide +kernel
theorem dX9_addEdge_100 : decode cX9_addEdge 100 = .ok (.getfield 28, 3) := by decide +kernel
theorem dX9_addEdge_103 : decode cX9_addEdge 103 = .ok (.aload_n 0, 1) := by decide +kernel
theorem dX9_addEdge_104 : decode cX9_addEdge 104 = .ok (.getfield 64, 3) := by decide +kernel
theorem dX9_addEdge_107 : decode cX9_addEdge 107 = .ok (.iconst 1, 1) := by decide +kernel
theorem dX9_addEdge_108 : decode cX9_addEdge 108 = .ok (.bastore, 1) := by decide +kernel
theorem dX9_addEdge_109 : decode cX9_addEdge 109 = .ok (.aload_n 0, 1) := by decide +kernel
theorem dX9_addEdge_110 : decode cX9_addEdge 110 = .ok (.dup, 1) := by decide +kernel
theorem dX9_addEdge_111 : decode cX9_addEdge 111 = .ok (.getfield 64, 3) := by decide +kernel
theorem dX9_addEdge_114 : decode cX9_addEdge 114 = .ok (.iconst 1, 1) := by decide +kernel
theorem dX9_addEdge_115 : decode cX9_addEdge 115 = .ok (.iadd, 1) := by decide +kernel
theorem dX9_addEdge_116 : decode cX9_addEdge 116 = .ok (.putfield 64, 3) := by decide +kernel
theorem dX9_addEdge_119 : decode cX9_addEdge 119 = .ok (.aload_n 0, 1) := by decide +kernel
theorem dX9_addEdge_120 : decode cX9_addEdge 120 = .ok (.invokevirtual 82, 3) := by decide +kernel
theorem dX9_addEdge_123 : decode cX9_addEdge 123 = .ok (.aload_n 0, 1) := by decide +kernel
theorem dX9_addEdge_124 : decode cX9_addEdge 124 = .ok (.getfield 64, 3) := by decide +kernel
theorem dX9_addEdge_127 : decode cX9_addEdge 127 = .ok (.iconst 1, 1) := by decide +kernel
theorem dX9_addEdge_128 : decode cX9_addEdge 128 = .ok (.isub, 1) := by decide +kernel
theorem dX9_addEdge_129 : decode cX9_addEdge 129 = .ok (.ireturn, 1) := by decide +kernel
theorem dX9_joining_0 : decode cX9_joining 0 = .ok (.aload_n 0, 1) := by decide +kernel
theorem dX9_joining_1 : decode cX9_joining 1 = .ok (.iload_n 1, 1) := by decide +kernel
theorem dX9_joining_2 : decode cX9_joining 2 = .ok (.aload_n 0, 1) := by decide +kernel
theorem dX9_joining_3 : decode cX9_joining 3 = .ok (.getfield 35, 3) := by decide +kernel
theorem dX9_joining_6 : decode cX9_joining 6 = .ok (.invokevirtual 74, 3) := by decide +kernel
theorem dX9_joining_9 : decode cX9_joining 9 = .ok (.iconst (-1), 1) := by decide +kernel
theorem dX9_joining_10 : decode cX9_joining 10 = .ok (.istore_n 2, 1) := by decide +kernel
theorem dX9_joining_11 : decode cX9_joining 11 = .ok (.iconst 0, 1) := by decide +kernel
theorem dX9_joining_12 : decode cX9_joining 12 = .ok (.istore_n 3, 1) := by decide +kernel
theorem dX9_joining_13 : decode cX9_joining 13 = .ok (.iload_n 3, 1) := by decide +kernel
theorem dX9_joining_14 : decode cX9_joining 14 = .ok (.aload_n 0, 1) := by decide +kernel
theorem dX9_joining_15 : decode cX9_joining 15 = .ok (.getfield 64, 3) := by decide +kernel
theorem dX9_joining_18 : decode cX9_joining 18 = .ok (.if_icmp .ge 29, 3) := by decide +kernel
theorem dX9_joining_21 : decode cX9_joining 21 = .ok (.aload_n 0, 1) := by decide +kernel
theorem dX9_joining_22 : decode cX9_joining 22 = .ok (.getfield 35, 3) := by decide +kernel
theorem dX9_joining_25 : decode cX9_joining 25 = .ok (.iload_n 3, 1) := by decide +kernel
theorem dX9_joining_26 : decode cX9_joining 26 = .ok (.baload, 1) := by decide +kernel
theorem dX9_joining_27 : decode cX9_joining 27 = .ok (.ifCond .eq 14, 3) := by decide +kernel
theorem dX9_joining_30 : decode cX9_joining 30 = .ok (.aload_n 0, 1) := by decide +kernel
theorem dX9_joining_31 : decode cX9_joining 31 = .ok (.getfield 32, 3) := by decide +kernel
theorem dX9_joining_34 : decode cX9_joining 34 = .ok (.iload_n 3, 1) := by decide +kernel
theorem dX9_joining_35 : decode cX9_joining 35 = .ok (.baload, 1) := by decide +kernel
theorem dX9_joining_36 : decode cX9_joining 36 = .ok (.ifCond .ne 5, 3) := by decide +kernel
theorem dX9_joining_39 : decode cX9_joining 39 = .ok (.iload_n 3, 1) := by decide +kernel
theorem dX9_joining_40 : decode cX9_joining 40 = .ok (.istore_n 2, 1) := by decide +kernel
theorem dX9_joining_41 : decode cX9_joining 41 = .ok (.iinc 3 1, 3) := by decide +kernel
theorem dX9_joining_44 : decode cX9_joining 44 = .ok (.goto (-31), 3) := by decide +kernel
theorem dX9_joining_47 : decode cX9_joining 47 = .ok (.aload_n 0, 1) := by decide +kernel
theorem dX9_joining_48 : decode cX9_joining 48 = .ok (.invokevirtual 82, 3) := by decide +kernel
theorem dX9_joining_51 : decode cX9_joining 51 = .ok (.iload_n 2, 1) := by decide +kernel
theorem dX9_joining_52 : decode cX9_joining 52 = .ok (.ireturn, 1) := by decide +kernel
theorem dX9_removeEdge_0 : decode cX9_removeEdge 0 = .ok (.aload_n 0, 1) := by decide +kernel
theorem dX9_removeEdge_1 : decode cX9_removeEdge 1 = .ok (.iconst 0, 1) := by decide +kernel
theorem dX9_removeEdge_2 : decode cX9_removeEdge 2 = .ok (.putfield 53, 3) := by decide +kernel
theorem dX9_removeEdge_5 : decode cX9_removeEdge 5 = .ok (.aload_n 0, 1) := by decide +kernel
theorem dX9_removeEdge_6 : decode cX9_removeEdge 6 = .ok (.iload_n 1, 1) := by decide +kernel
theorem dX9_removeEdge_7 : decode cX9_removeEdge 7 = .ok (.invokevirtual 88, 3) := by decide +kernel
theorem dX9_removeEdge_10 : decode cX9_removeEdge 10 = .ok (.ifCond .ne 9, 3) := by decide +kernel
theorem dX9_removeEdge_13 : decode cX9_removeEdge 13 = .ok (.aload_n 0, 1) := by decide +kernel
theorem dX9_removeEdge_14 : decode cX9_removeEdge 14 = .ok (.iconst 1, 1) := by decide +kernel
theorem dX9_removeEdge_15 : decode cX9_removeEdge 15 = .ok (.invokevirtual 78, 3) := by decide +kernel
theorem dX9_removeEdge_18 : decode cX9_removeEdge 18 = .ok (.ireturn, 1) := by decide +kernel
theorem dX9_removeEdge_19 : decode cX9_removeEdge 19 = .ok (.aload_n 0, 1) := by decide +kernel
theorem dX9_removeEdge_20 : decode cX9_removeEdge 20 = .ok (.getfield 28, 3) := by decide +kernel
theorem dX9_removeEdge_23 : decode cX9_removeEdge 23 = .ok (.iload_n 1, 1) := by decide +kernel
theorem dX9_removeEdge_24 : decode cX9_removeEdge 24 = .ok (.baload, 1) := by decide +kernel
theorem dX9_removeEdge_25 : decode cX9_removeEdge 25 = .ok (.ifCond .ne 9, 3) := by decide +kernel
theorem dX9_removeEdge_28 : decode cX9_removeEdge 28 = .ok (.aload_n 0, 1) := by decide +kernel
theorem dX9_removeEdge_29 : decode cX9_removeEdge 29 = .ok (.iconst 2, 1) := by decide +kernel
theorem dX9_removeEdge_30 : decode cX9_removeEdge 30 = .ok (.invokevirtual 78, 3) := by decide +kernel
theorem dX9_removeEdge_33 : decode cX9_removeEdge 33 = .ok (.ireturn, 1) := by decide +kernel
theorem dX9_removeEdge_34 : decode cX9_removeEdge 34 = .ok (.aload_n 0, 1) := by decide +kernel
theorem dX9_removeEdge_35 : decode cX9_removeEdge 35 = .ok (.iload_n 1, 1) := by decide +kernel
theorem dX9_removeEdge_36 : decode cX9_removeEdge 36 = .ok (.invokevirtual 91, 3) := by decide +kernel
theorem dX9_removeEdge_39 : decode cX9_removeEdge 39 = .ok (.istore_n 2, 1) := by decide +kernel
theorem dX9_removeEdge_40 : decode cX9_removeEdge 40 = .ok (.aload_n 0, 1) := by decide +kernel
theorem dX9_removeEdge_41 : decode cX9_removeEdge 41 = .ok (.getfield 28, 3) := by decide +kernel
theorem dX9_removeEdge_44 : decode cX9_removeEdge 44 = .ok (.iload_n 1, 1) := by decide +kernel
theorem dX9_removeEdge_45 : decode cX9_removeEdge 45 = .ok (.iconst 0, 1) := by decide +kernel
theorem dX9_removeEdge_46 : decode cX9_removeEdge 46 = .ok (.bastore, 1) := by decide +kernel
theorem dX9_removeEdge_47 : decode cX9_removeEdge 47 = .ok (.aload_n 0, 1) := by decide +kernel
theorem dX9_removeEdge_48 : decode cX9_removeEdge 48 = .ok (.invokevirtual 82, 3) := by decide +kernel
theorem dX9_removeEdge_51 : decode cX9_removeEdge 51 = .ok (.iload_n 2, 1) := by decide +kernel
theorem dX9_removeEdge_52 : decode cX9_removeEdge 52 = .ok (.ireturn, 1) := by decide +kernel
theorem dX9_setWeight_0 : decode cX9_setWeight 0 = .ok (.aload_n 0, 1) := by decide +kernel
theorem dX9_setWeight_1 : decode cX9_setWeight 1 = .ok (.iconst 0, 1) := by decide +kernel
theorem dX9_setWeight_2 : decode cX9_setWeight 2 = .ok (.putfield 53, 3) := by decide +kernel
theorem dX9_setWeight_5 : decode cX9_setWeight 5 = .ok (.aload_n 0, 1) := by decide +kernel
theorem dX9_setWeight_6 : decode cX9_setWeight 6 = .ok (.iload_n 1, 1) := by decide +kernel
theorem dX9_setWeight_7 : decode cX9_setWeight 7 = .ok (.invokevirtual 88, 3) := by decide +kernel
theorem dX9_setWeight_10 : decode cX9_setWeight 10 = .ok (.ifCond .ne 9, 3) := by decide +kernel
theorem dX9_setWeight_13 : decode cX9_setWeight 13 = .ok (.aload_n 0, 1) := by decide +kernel
theorem dX9_setWeight_14 : decode cX9_setWeight 14 = .ok (.iconst 1, 1) := by decide +kernel
theorem dX9_setWeight_15 : decode cX9_setWeight 15 = .ok (.invokevirtual 78, 3) := by decide +kernel
theorem dX9_setWeight_18 : decode cX9_setWeight 18 = .ok (.ireturn, 1) := by decide +kernel
theorem dX9_setWeight_19 : decode cX9_setWeight 19 = .ok (.iload_n 2, 1) := by decide +kernel
theorem dX9_setWeight_20 : decode cX9_setWeight 20 = .ok (.iconst 1, 1) := by decide +kernel
theorem dX9_setWeight_21 : decode cX9_setWeight 21 = .ok (.bipush 99, 2) := by decide +kernel
theorem dX9_setWeight_23 : decode cX9_setWeight 23 = .ok (.invokestatic 60, 3) := by decide +kernel
theorem dX9_setWeight_26 : decode cX9_setWeight 26 = .ok (.ifCond .ne 9, 3) := by decide +kernel
theorem dX9_setWeight_29 : decode cX9_setWeight 29 = .ok (.aload_n 0, 1) := by decide +kernel
theorem dX9_setWeight_30 : decode cX9_setWeight 30 = .ok (.iconst 2, 1) := by decide +kernel
theorem dX9_setWeight_31 : decode cX9_setWeight 31 = .ok (.invokevirtual 78, 3) := by decide +kernel
theorem dX9_setWeight_34 : decode cX9_setWeight 34 = .ok (.ireturn, 1) := by decide +kernel
theorem dX9_setWeight_35 : decode cX9_setWeight 35 = .ok (.aload_n 0, 1) := by decide +kernel
theorem dX9_setWeight_36 : decode cX9_setWeight 36 = .ok (.getfield 28, 3) := by decide +kernel
theorem dX9_setWeight_39 : decode cX9_setWeight 39 = .ok (.iload_n 1, 1) := by decide +kernel
theorem dX9_setWeight_40 : decode cX9_setWeight 40 = .ok (.baload, 1) := by decide +kernel
theorem dX9_setWeight_41 : decode cX9_setWeight 41 = .ok (.ifCond .ne 9, 3) := by decide +kernel
theorem dX9_setWeight_44 : decode cX9_setWeight 44 = .ok (.aload_n 0, 1) := by decide +kernel
theorem dX9_setWeight_45 : decode cX9_setWeight 45 = .ok (.iconst 3, 1) := by decide +kernel
theorem dX9_setWeight_46 : decode cX9_setWeight 46 = .ok (.invokevirtual 78, 3) := by decide +kernel
theorem dX9_setWeight_49 : decode cX9_setWeight 49 = .ok (.ireturn, 1) := by decide +kernel
theorem dX9_setWeight_50 : decode cX9_setWeight 50 = .ok (.aload_n 0, 1) := by decide +kernel
theorem dX9_setWeight_51 : decode cX9_setWeight 51 = .ok (.getfield 19, 3) := by decide +kernel
theorem dX9_setWeight_54 : decode cX9_setWeight 54 = .ok (.iload_n 1, 1) := by decide +kernel
theorem dX9_setWeight_55 : decode cX9_setWeight 55 = .ok (.iaload, 1) := by decide +kernel
theorem dX9_setWeight_56 : decode cX9_setWeight 56 = .ok (.istore_n 3, 1) := by decide +kernel
theorem dX9_setWeight_57 : decode cX9_setWeight 57 = .ok (.aload_n 0, 1) := by decide +kernel
theorem dX9_setWeight_58 : decode cX9_setWeight 58 = .ok (.getfield 19, 3) := by decide +kernel
theorem dX9_setWeight_61 : decode cX9_setWeight 61 = .ok (.iload_n 1, 1) := by decide +kernel
theorem dX9_setWeight_62 : decode cX9_setWeight 62 = .ok (.iload_n 2, 1) := by decide +kernel
theorem dX9_setWeight_63 : decode cX9_setWeight 63 = .ok (.iastore, 1) := by decide +kernel
theorem dX9_setWeight_64 : decode cX9_setWeight 64 = .ok (.aload_n 0, 1) := by decide +kernel
theorem dX9_setWeight_65 : decode cX9_setWeight 65 = .ok (.invokevirtual 82, 3) := by decide +kernel
theorem dX9_setWeight_68 : decode cX9_setWeight 68 = .ok (.iload_n 3, 1) := by decide +kernel
theorem dX9_setWeight_69 : decode cX9_setWeight 69 = .ok (.ireturn, 1) := by decide +kernel
theorem dX9_roots_0 : decode cX9_roots 0 = .ok (.iconst 0, 1) := by decide +kernel
theorem dX9_roots_1 : decode cX9_roots 1 = .ok (.istore_n 2, 1) := by decide +kernel
theorem dX9_roots_2 : decode cX9_roots 2 = .ok (.iload_n 2, 1) := by decide +kernel
theorem dX9_roots_3 : decode cX9_roots 3 = .ok (.aload_n 0, 1) := by decide +kernel
theorem dX9_roots_4 : decode cX9_roots 4 = .ok (.getfield 57, 3) := by decide +kernel
theorem dX9_roots_7 : decode cX9_roots 7 = .ok (.if_icmp .ge 31, 3) := by decide +kernel
theorem dX9_roots_10 : decode cX9_roots 10 = .ok (.aload_n 0, 1) := by decide +kernel
theorem dX9_roots_11 : decode cX9_roots 11 = .ok (.getfield 38, 3) := by decide +kernel
theorem dX9_roots_14 : decode cX9_roots 14 = .ok (.iload_n 2, 1) := by decide +kernel
theorem dX9_roots_15 : decode cX9_roots 15 = .ok (.bipush (-2), 2) := by decide +kernel
theorem dX9_roots_17 : decode cX9_roots 17 = .ok (.iastore, 1) := by decide +kernel
theorem dX9_roots_18 : decode cX9_roots 18 = .ok (.aload_n 0, 1) := by decide +kernel
theorem dX9_roots_19 : decode cX9_roots 19 = .ok (.getfield 44, 3) := by decide +kernel
theorem dX9_roots_22 : decode cX9_roots 22 = .ok (.iload_n 2, 1) := by decide +kernel
theorem dX9_roots_23 : decode cX9_roots 23 = .ok (.iconst 1, 1) := by decide +kernel
theorem dX9_roots_24 : decode cX9_roots 24 = .ok (.iastore, 1) := by decide +kernel
theorem dX9_roots_25 : decode cX9_roots 25 = .ok (.aload_n 0, 1) := by decide +kernel
theorem dX9_roots_26 : decode cX9_roots 26 = .ok (.getfield 47, 3) := by decide +kernel
theorem dX9_roots_29 : decode cX9_roots 29 = .ok (.iload_n 2, 1) := by decide +kernel
theorem dX9_roots_30 : decode cX9_roots 30 = .ok (.iconst (-1), 1) := by decide +kernel
theorem dX9_roots_31 : decode cX9_roots 31 = .ok (.iastore, 1) := by decide +kernel
theorem dX9_roots_32 : decode cX9_roots 32 = .ok (.iinc 2 1, 3) := by decide +kernel
theorem dX9_roots_35 : decode cX9_roots 35 = .ok (.goto (-33), 3) := by decide +kernel
theorem dX9_roots_38 : decode cX9_roots 38 = .ok (.aload_n 0, 1) := by decide +kernel
theorem dX9_roots_39 : decode cX9_roots 39 = .ok (.getfield 38, 3) := by decide +kernel
theorem dX9_roots_42 : decode cX9_roots 42 = .ok (.iload_n 1, 1) := by decide +kernel
theorem dX9_roots_43 : decode cX9_roots 43 = .ok (.iconst (-1), 1) := by decide +kernel
theorem dX9_roots_44 : decode cX9_roots 44 = .ok (.iastore, 1) := by decide +kernel
theorem dX9_roots_45 : decode cX9_roots 45 = .ok (.aload_n 0, 1) := by decide +kernel
theorem dX9_roots_46 : decode cX9_roots 46 = .ok (.getfield 41, 3) := by decide +kernel
theorem dX9_roots_49 : decode cX9_roots 49 = .ok (.iload_n 1, 1) := by decide +kernel
theorem dX9_roots_50 : decode cX9_roots 50 = .ok (.iconst 0, 1) := by decide +kernel
theorem dX9_roots_51 : decode cX9_roots 51 = .ok (.iastore, 1) := by decide +kernel
theorem dX9_roots_52 : decode cX9_roots 52 = .ok (.aload_n 0, 1) := by decide +kernel
theorem dX9_roots_53 : decode cX9_roots 53 = .ok (.getfield 50, 3) := by decide +kernel
theorem dX9_roots_56 : decode cX9_roots 56 = .ok (.iconst 0, 1) := by decide +kernel
theorem dX9_roots_57 : decode cX9_roots 57 = .ok (.iload_n 1, 1) := by decide +kernel
theorem dX9_roots_58 : decode cX9_roots 58 = .ok (.iastore, 1) := by decide +kernel
theorem dX9_roots_59 : decode cX9_roots 59 = .ok (.aload_n 0, 1) := by decide +kernel
theorem dX9_roots_60 : decode cX9_roots 60 = .ok (.iconst 1, 1) := by decide +kernel
theorem dX9_roots_61 : decode cX9_roots 61 = .ok (.putfield 94, 3) := by decide +kernel
theorem dX9_roots_64 : decode cX9_roots 64 = .ok (.iconst 0, 1) := by decide +kernel
theorem dX9_roots_65 : decode cX9_roots 65 = .ok (.istore_n 2, 1) := by decide +kernel
theorem dX9_roots_66 : decode cX9_roots 66 = .ok (.iload_n 2, 1) := by decide +kernel
theorem dX9_roots_67 : decode cX9_roots 67 = .ok (.aload_n 0, 1) := by decide +kernel
theorem dX9_roots_68 : decode cX9_roots 68 = .ok (.getfield 94, 3) := by decide +kernel
theorem dX9_roots_71 : decode cX9_roots 71 = .ok (.if_icmp .ge 158, 3) := by decide +kernel
theorem dX9_roots_74 : decode cX9_roots 74 = .ok (.iconst 0, 1) := by decide +kernel
theorem dX9_roots_75 : decode cX9_roots 75 = .ok (.istore_n 3, 1) := by decide +kernel
theorem dX9_roots_76 : decode cX9_roots 76 = .ok (.iload_n 3, 1) := by decide +kernel
theorem dX9_roots_77 : decode cX9_roots 77 = .ok (.aload_n 0, 1) := by decide +kernel
theorem dX9_roots_78 : decode cX9_roots 78 = .ok (.getfield 64, 3) := by decide +kernel
theorem dX9_roots_81 : decode cX9_roots 81 = .ok (.if_icmp .ge 142, 3) := by decide +kernel
theorem dX9_roots_84 : decode cX9_roots 84 = .ok (.aload_n 0, 1) := by decide +kernel
theorem dX9_roots_85 : decode cX9_roots 85 = .ok (.getfield 32, 3) := by decide +kernel
theorem dX9_roots_88 : decode cX9_roots 88 = .ok (.iload_n 3, 1) := by decide +kernel
theorem dX9_roots_89 : decode cX9_roots 89 = .ok (.baload, 1) := by decide +kernel
theorem dX9_roots_90 : decode cX9_roots 90 = .ok (.ifCond .eq 127, 3) := by decide +kernel
theorem dX9_roots_93 : decode cX9_roots 93 = .ok (.aload_n 0, 1) := by decide +kernel
theorem dX9_roots_94 : decode cX9_roots 94 = .ok (.getfield 13, 3) := by decide +kernel
theorem dX9_roots_97 : decode cX9_roots 97 = .ok (.iload_n 3, 1) := by decide +kernel
theorem dX9_roots_98 : decode cX9_roots 98 = .ok (.iaload, 1) := by decide +kernel
theorem dX9_roots_99 : decode cX9_roots 99 = .ok (.aload_n 0, 1) := by decide +kernel
theorem dX9_roots_100 : decode cX9_roots 100 = .ok (.getfield 50, 3) := by decide +kernel
theorem dX9_roots_103 : decode cX9_roots 103 = .ok (.iload_n 2, 1) := by decide +kernel
theorem dX9_roots_104 : decode cX9_roots 104 = .ok (.iaload, 1) := by decide +kernel
theorem dX9_roots_105 : decode cX9_roots 105 = .ok (.if_icmp .eq 21, 3) := by decide +kernel
theorem dX9_roots_108 : decode cX9_roots 108 = .ok (.aload_n 0, 1) := by decide +kernel
theorem dX9_roots_109 : decode cX9_roots 109 = .ok (.getfield 16, 3) := by decide +kernel
theorem dX9_roots_112 : decode cX9_roots 112 = .ok (.iload_n 3, 1) := by decide +kernel
theorem dX9_roots_113 : decode cX9_roots 113 = .ok (.iaload, 1) := by decide +kernel
theorem dX9_roots_114 : decode cX9_roots 114 = .ok (.aload_n 0, 1) := by decide +kernel
theorem dX9_roots_115 : decode cX9_roots 115 = .ok (.getfield 50, 3) := by decide +kernel
theorem dX9_roots_118 : decode cX9_roots 118 = .ok (.iload_n 2, 1) := by decide +kernel
theorem dX9_roots_119 : decode cX9_roots 119 = .ok (.iaload, 1) := by decide +kernel
theorem dX9_roots_120 : decode cX9_roots 120 = .ok (.if_icmp .eq 6, 3) := by decide +kernel
theorem dX9_roots_123 : decode cX9_roots 123 = .ok (.goto 94, 3) := by decide +kernel
theorem dX9_roots_126 : decode cX9_roots 126 = .ok (.aload_n 0, 1) := by decide +kernel
theorem dX9_roots_127 : decode cX9_roots 127 = .ok (.getfield 13, 3) := by decide +kernel
theorem dX9_roots_130 : decode cX9_roots 130 = .ok (.iload_n 3, 1) := by decide +kernel
theorem dX9_roots_131 : decode cX9_roots 131 = .ok (.iaload, 1) := by decide +kernel
theorem dX9_roots_132 : decode cX9_roots 132 = .ok (.aload_n 0, 1) := by decide +kernel
theorem dX9_roots_133 : decode cX9_roots 133 = .ok (.getfield 16, 3) := by decide +kernel
theorem dX9_roots_136 : decode cX9_roots 136 = .ok (.iload_n 3, 1) := by decide +kernel
theorem dX9_roots_137 : decode cX9_roots 137 = .ok (.iaload, 1) := by decide +kernel
theorem dX9_roots_138 : decode cX9_roots 138 = .ok (.iadd, 1) := by decide +kernel
theorem dX9_roots_139 : decode cX9_roots 139 = .ok (.aload_n 0, 1) := by decide +kernel
theorem dX9_roots_140 : decode cX9_roots 140 = .ok (.getfield 50, 3) := by decide +kernel
theorem dX9_roots_143 : decode cX9_roots 143 = .ok (.iload_n 2, 1) := by decide +kernel
theorem dX9_roots_144 : decode cX9_roots 144 = .ok (.iaload, 1) := by decide +kernel
theorem dX9_roots_145 : decode cX9_roots 145 = .ok (.isub, 1) := by decide +kernel
theorem dX9_roots_146 : decode cX9_roots 146 = .ok (.istore 4, 2) := by decide +kernel
theorem dX9_roots_148 : decode cX9_roots 148 = .ok (.aload_n 0, 1) := by decide +kernel
theorem dX9_roots_149 : decode cX9_roots 149 = .ok (.getfield 38, 3) := by decide +kernel
theorem dX9_roots_152 : decode cX9_roots 152 = .ok (.iload 4, 2) := by decide +kernel
theorem dX9_roots_154 : decode cX9_roots 154 = .ok (.iaload, 1) := by decide +kernel
theorem dX9_roots_155 : decode cX9_roots 155 = .ok (.bipush (-2), 2) := by decide +kernel
theorem dX9_roots_157 : decode cX9_roots 157 = .ok (.if_icmp .eq 6, 3) := by decide +kernel
theorem dX9_roots_160 : decode cX9_roots 160 = .ok (.goto 57, 3) := by decide +kernel
theorem dX9_roots_163 : decode cX9_roots 163 = .ok (.aload_n 0, 1) := by decide +kernel
theorem dX9_roots_164 : decode cX9_roots 164 = .ok (.getfield 38, 3) := by decide +kernel
theorem dX9_roots_167 : decode cX9_roots 167 = .ok (.iload 4, 2) := by decide +kernel
theorem dX9_roots_169 : decode cX9_roots 169 = .ok (.aload_n 0, 1) := by decide +kernel
theorem dX9_roots_170 : decode cX9_roots 170 = .ok (.getfield 50, 3) := by decide +kernel
theorem dX9_roots_173 : decode cX9_roots 173 = .ok (.iload_n 2, 1) := by decide +kernel
theorem dX9_roots_174 : decode cX9_roots 174 = .ok (.iaload, 1) := by decide +kernel
theorem dX9_roots_175 : decode cX9_roots 175 = .ok (.iastore, 1) := by decide +kernel
theorem dX9_roots_176 : decode cX9_roots 176 = .ok (.aload_n 0, 1) := by decide +kernel
theorem dX9_roots_177 : decode cX9_roots 177 = .ok (.getfield 41, 3) := by decide +kernel
theorem dX9_roots_180 : decode cX9_roots 180 = .ok (.iload 4, 2) := by decide +kernel
theorem dX9_roots_182 : decode cX9_roots 182 = .ok (.aload_n 0, 1) := by decide +kernel
theorem dX9_roots_183 : decode cX9_roots 183 = .ok (.getfield 41, 3) := by decide +kernel
theorem dX9_roots_186 : decode cX9_roots 186 = .ok (.aload_n 0, 1) := by decide +kernel
theorem dX9_roots_187 : decode cX9_roots 187 = .ok (.getfield 50, 3) := by decide +kernel
theorem dX9_roots_190 : decode cX9_roots 190 = .ok (.iload_n 2, 1) := by decide +kernel
theorem dX9_roots_191 : decode cX9_roots 191 = .ok (.iaload, 1) := by decide +kernel
theorem dX9_roots_192 : decode cX9_roots 192 = .ok (.iaload, 1) := by decide +kernel
theorem dX9_roots_193 : decode cX9_roots 193 = .ok (.iconst 1, 1) := by decide +kernel
theorem dX9_roots_194 : decode cX9_roots 194 = .ok (.iadd, 1) := by decide +kernel
theorem dX9_roots_195 : decode cX9_roots 195 = .ok (.iastore, 1) := by decide +kernel
theorem dX9_roots_196 : decode cX9_roots 196 = .ok (.aload_n 0, 1) := by decide +kernel
theorem dX9_roots_197 : decode cX9_roots 197 = .ok (.getfield 50, 3) := by decide +kernel
theorem dX9_roots_200 : decode cX9_roots 200 = .ok (.aload_n 0, 1) := by decide +kernel
theorem dX9_roots_201 : decode cX9_roots 201 = .ok (.getfield 94, 3) := by decide +kernel
theorem dX9_roots_204 : decode cX9_roots 204 = .ok (.iload 4, 2) := by decide +kernel
theorem dX9_roots_206 : decode cX9_roots 206 = .ok (.iastore, 1) := by decide +kernel
theorem dX9_roots_207 : decode cX9_roots 207 = .ok (.aload_n 0, 1) := by decide +kernel
theorem dX9_roots_208 : decode cX9_roots 208 = .ok (.dup, 1) := by decide +kernel
theorem dX9_roots_209 : decode cX9_roots 209 = .ok (.getfield 94, 3) := by decide +kernel
theorem dX9_roots_212 : decode cX9_roots 212 = .ok (.iconst 1, 1) := by decide +kernel
theorem dX9_roots_213 : decode cX9_roots 213 = .ok (.iadd, 1) := by decide +kernel
theorem dX9_roots_214 : decode cX9_roots 214 = .ok (.putfield 94, 3) := by decide +kernel
theorem dX9_roots_217 : decode cX9_roots 217 = .ok (.iinc 3 1, 3) := by decide +kernel
theorem dX9_roots_220 : decode cX9_roots 220 = .ok (.goto (-144), 3) := by decide +kernel
theorem dX9_roots_223 : decode cX9_roots 223 = .ok (.iinc 2 1, 3) := by decide +kernel
theorem dX9_roots_226 : decode cX9_roots 226 = .ok (.goto (-160), 3) := by decide +kernel
theorem dX9_roots_229 : decode cX9_roots 229 = .ok (.aload_n 0, 1) := by decide +kernel
theorem dX9_roots_230 : decode cX9_roots 230 = .ok (.getfield 94, 3) := by decide +kernel
theorem dX9_roots_233 : decode cX9_roots 233 = .ok (.iconst 1, 1) := by decide +kernel
theorem dX9_roots_234 : decode cX9_roots 234 = .ok (.isub, 1) := by decide +kernel
theorem dX9_roots_235 : decode cX9_roots 235 = .ok (.istore_n 2, 1) := by decide +kernel
theorem dX9_roots_236 : decode cX9_roots 236 = .ok (.iload_n 2, 1) := by decide +kernel
theorem dX9_roots_237 : decode cX9_roots 237 = .ok (.ifCond .le 39, 3) := by decide +kernel
theorem dX9_roots_240 : decode cX9_roots 240 = .ok (.aload_n 0, 1) := by decide +kernel
theorem dX9_roots_241 : decode cX9_roots 241 = .ok (.getfield 44, 3) := by decide +kernel
theorem dX9_roots_244 : decode cX9_roots 244 = .ok (.aload_n 0, 1) := by decide +kernel
theorem dX9_roots_245 : decode cX9_roots 245 = .ok (.getfield 38, 3) := by decide +kernel
theorem dX9_roots_248 : decode cX9_roots 248 = .ok (.aload_n 0, 1) := by decide +kernel
theorem dX9_roots_249 : decode cX9_roots 249 = .ok (.getfield 50, 3) := by decide +kernel
theorem dX9_roots_252 : decode cX9_roots 252 = .ok (.iload_n 2, 1) := by decide +kernel
theorem dX9_roots_253 : decode cX9_roots 253 = .ok (.iaload, 1) := by decide +kernel
theorem dX9_roots_254 : decode cX9_roots 254 = .ok (.iaload, 1) := by decide +kernel
theorem dX9_roots_255 : decode cX9_roots 255 = .ok (.dup2, 1) := by decide +kernel
theorem dX9_roots_256 : decode cX9_roots 256 = .ok (.iaload, 1) := by decide +kernel
theorem dX9_roots_257 : decode cX9_roots 257 = .ok (.aload_n 0, 1) := by decide +kernel
theorem dX9_roots_258 : decode cX9_roots 258 = .ok (.getfield 44, 3) := by decide +kernel
theorem dX9_roots_261 : decode cX9_roots 261 = .ok (.aload_n 0, 1) := by decide +kernel
theorem dX9_roots_262 : decode cX9_roots 262 = .ok (.getfield 50, 3) := by decide +kernel
theorem dX9_roots_265 : decode cX9_roots 265 = .ok (.iload_n 2, 1) := by decide +kernel
theorem dX9_roots_266 : decode cX9_roots 266 = .ok (.iaload, 1) := by decide +kernel
theorem dX9_roots_267 : decode cX9_roots 267 = .ok (.iaload, 1) := by decide +kernel
theorem dX9_roots_268 : decode cX9_roots 268 = .ok (.iadd, 1) := by decide +kernel
theorem dX9_roots_269 : decode cX9_roots 269 = .ok (.iastore, 1) := by decide +kernel
theorem dX9_roots_270 : decode cX9_roots 270 = .ok (.iinc 2 (-1), 3) := by decide +kernel
theorem dX9_roots_273 : decode cX9_roots 273 = .ok (.goto (-37), 3) := by decide +kernel
theorem dX9_roots_276 : decode cX9_roots 276 = .ok (.iconst 0, 1) := by decide +kernel
theorem dX9_roots_277 : decode cX9_roots 277 = .ok (.istore_n 2, 1) := by decide +kernel
theorem dX9_roots_278 : decode cX9_roots 278 = .ok (.iload_n 2, 1) := by decide +kernel
theorem dX9_roots_279 : decode cX9_roots 279 = .ok (.aload_n 0, 1) := by decide +kernel
theorem dX9_roots_280 : decode cX9_roots 280 = .ok (.getfield 57, 3) := by decide +kernel
theorem dX9_roots_283 : decode cX9_roots 283 = .ok (.if_icmp .ge 64, 3) := by decide +kernel
theorem dX9_roots_286 : decode cX9_roots 286 = .ok (.aload_n 0, 1) := by decide +kernel
theorem dX9_roots_287 : decode cX9_roots 287 = .ok (.getfield 38, 3) := by decide +kernel
theorem dX9_roots_290 : decode cX9_roots 290 = .ok (.iload_n 2, 1) := by decide +kernel
theorem dX9_roots_291 : decode cX9_roots 291 = .ok (.iaload, 1) := by decide +kernel
theorem dX9_roots_292 : decode cX9_roots 292 = .ok (.ifCond .ge 6, 3) := by decide +kernel
theorem dX9_roots_295 : decode cX9_roots 295 = .ok (.goto 46, 3) := by decide +kernel
theorem dX9_roots_298 : decode cX9_roots 298 = .ok (.aload_n 0, 1) := by decide +kernel
theorem dX9_roots_299 : decode cX9_roots 299 = .ok (.getfield 38, 3) := by decide +kernel
theorem dX9_roots_302 : decode cX9_roots 302 = .ok (.iload_n 2, 1) := by decide +kernel
theorem dX9_roots_303 : decode cX9_roots 303 = .ok (.iaload, 1) := by decide +kernel
theorem dX9_roots_304 : decode cX9_roots 304 = .ok (.istore_n 3, 1) := by decide +kernel
theorem dX9_roots_305 : decode cX9_roots 305 = .ok (.aload_n 0, 1) := by decide +kernel
theorem dX9_roots_306 : decode cX9_roots 306 = .ok (.getfield 47, 3) := by decide +kernel
theorem dX9_roots_309 : decode cX9_roots 309 = .ok (.iload_n 3, 1) := by decide +kernel
theorem dX9_roots_310 : decode cX9_roots 310 = .ok (.iaload, 1) := by decide +kernel
theorem dX9_roots_311 : decode cX9_roots 311 = .ok (.ifCond .lt 23, 3) := by decide +kernel
theorem dX9_roots_314 : decode cX9_roots 314 = .ok (.aload_n 0, 1) := by decide +kernel
theorem dX9_roots_315 : decode cX9_roots 315 = .ok (.getfield 44, 3) := by decide +kernel
theorem dX9_roots_318 : decode cX9_roots 318 = .ok (.iload_n 2, 1) := by decide +kernel
theorem dX9_roots_319 : decode cX9_roots 319 = .ok (.iaload, 1) := by decide +kernel
theorem dX9_roots_320 : decode cX9_roots 320 = .ok (.aload_n 0, 1) := by decide +kernel
theorem dX9_roots_321 : decode cX9_roots 321 = .ok (.getfield 44, 3) := by decide +kernel
theorem dX9_roots_324 : decode cX9_roots 324 = .ok (.aload_n 0, 1) := by decide +kernel
theorem dX9_roots_325 : decode cX9_roots 325 = .ok (.getfield 47, 3) := by decide +kernel
theorem dX9_roots_328 : decode cX9_roots 328 = .ok (.iload_n 3, 1) := by decide +kernel
theorem dX9_roots_329 : decode cX9_roots 329 = .ok (.iaload, 1) := by decide +kernel
theorem dX9_roots_330 : decode cX9_roots 330 = .ok (.iaload, 1) := by decide +kernel
theorem dX9_roots_331 : decode cX9_roots 331 = .ok (.if_icmp .le 10, 3) := by decide +kernel
theorem dX9_roots_334 : decode cX9_roots 334 = .ok (.aload_n 0, 1) := by decide +kernel
theorem dX9_roots_335 : decode cX9_roots 335 = .ok (.getfield 47, 3) := by decide +kernel
theorem dX9_roots_338 : decode cX9_roots 338 = .ok (.iload_n 3, 1) := by decide +kernel
theorem dX9_roots_339 : decode cX9_roots 339 = .ok (.iload_n 2, 1) := by decide +kernel
theorem dX9_roots_340 : decode cX9_roots 340 = .ok (.iastore, 1) := by decide +kernel
theorem dX9_roots_341 : decode cX9_roots 341 = .ok (.iinc 2 1, 3) := by decide +kernel
theorem dX9_roots_344 : decode cX9_roots 344 = .ok (.goto (-66), 3) := by decide +kernel
theorem dX9_roots_347 : decode cX9_roots 347 = .ok (.return_, 1) := by decide +kernel
theorem dX9_isApart_0 : decode cX9_isApart 0 = .ok (.aload_n 0, 1) := by decide +kernel
theorem dX9_isApart_1 : decode cX9_isApart 1 = .ok (.iconst 0, 1) := by decide +kernel
theorem dX9_isApart_2 : decode cX9_isApart 2 = .ok (.putfield 53, 3) := by decide +kernel
theorem dX9_isApart_5 : decode cX9_isApart 5 = .ok (.aload_n 0, 1) := by decide +kernel
theorem dX9_isApart_6 : decode cX9_isApart 6 = .ok (.iload_n 1, 1) := by decide +kernel
theorem dX9_isApart_7 : decode cX9_isApart 7 = .ok (.invokevirtual 84, 3) := by decide +kernel
theorem dX9_isApart_10 : decode cX9_isApart 10 = .ok (.ifCond .eq 11, 3) := by decide +kernel
theorem dX9_isApart_13 : decode cX9_isApart 13 = .ok (.aload_n 0, 1) := by decide +kernel
theorem dX9_isApart_14 : decode cX9_isApart 14 = .ok (.iload_n 2, 1) := by decide +kernel
theorem dX9_isApart_15 : decode cX9_isApart 15 = .ok (.invokevirtual 84, 3) := by decide +kernel
theorem dX9_isApart_18 : decode cX9_isApart 18 = .ok (.ifCond .ne 11, 3) := by decide +kernel
theorem dX9_isApart_21 : decode cX9_isApart 21 = .ok (.aload_n 0, 1) := by decide +kernel
theorem dX9_isApart_22 : decode cX9_isApart 22 = .ok (.iconst 1, 1) := by decide +kernel
theorem dX9_isApart_23 : decode cX9_isApart 23 = .ok (.invokevirtual 78, 3) := by decide +kernel
theorem dX9_isApart_26 : decode cX9_isApart 26 = .ok (.pop, 1) := by decide +kernel
theorem dX9_isApart_27 : decode cX9_isApart 27 = .ok (.iconst 1, 1) := by decide +kernel
theorem dX9_isApart_28 : decode cX9_isApart 28 = .ok (.ireturn, 1) := by decide +kernel
theorem dX9_isApart_29 : decode cX9_isApart 29 = .ok (.aload_n 0, 1) := by decide +kernel
theorem dX9_isApart_30 : decode cX9_isApart 30 = .ok (.iload_n 1, 1) := by decide +kernel
theorem dX9_isApart_31 : decode cX9_isApart 31 = .ok (.invokevirtual 97, 3) := by decide +kernel
theorem dX9_isApart_34 : decode cX9_isApart 34 = .ok (.aload_n 0, 1) := by decide +kernel
theorem dX9_isApart_35 : decode cX9_isApart 35 = .ok (.getfield 38, 3) := by decide +kernel
theorem dX9_isApart_38 : decode cX9_isApart 38 = .ok (.iload_n 2, 1) := by decide +kernel
theorem dX9_isApart_39 : decode cX9_isApart 39 = .ok (.iaload, 1) := by decide +kernel
theorem dX9_isApart_40 : decode cX9_isApart 40 = .ok (.bipush (-2), 2) := by decide +kernel
theorem dX9_isApart_42 : decode cX9_isApart 42 = .ok (.if_icmp .ne 9, 3) := by decide +kernel
theorem dX9_isApart_45 : decode cX9_isApart 45 = .ok (.aload_n 0, 1) := by decide +kernel
theorem dX9_isApart_46 : decode cX9_isApart 46 = .ok (.iconst 2, 1) := by decide +kernel
theorem dX9_isApart_47 : decode cX9_isApart 47 = .ok (.invokevirtual 78, 3) := by decide +kernel
theorem dX9_isApart_50 : decode cX9_isApart 50 = .ok (.pop, 1) := by decide +kernel
theorem dX9_isApart_51 : decode cX9_isApart 51 = .ok (.aload_n 0, 1) := by decide +kernel
theorem dX9_isApart_52 : decode cX9_isApart 52 = .ok (.getfield 53, 3) := by decide +kernel
theorem dX9_isApart_55 : decode cX9_isApart 55 = .ok (.ifCond .le 7, 3) := by decide +kernel
theorem dX9_isApart_58 : decode cX9_isApart 58 = .ok (.iconst 1, 1) := by decide +kernel
theorem dX9_isApart_59 : decode cX9_isApart 59 = .ok (.goto 4, 3) := by decide +kernel
theorem dX9_isApart_62 : decode cX9_isApart 62 = .ok (.iconst 0, 1) := by decide +kernel
theorem dX9_isApart_63 : decode cX9_isApart 63 = .ok (.ireturn, 1) := by decide +kernel
theorem dX9_addOnPath_0 : decode cX9_addOnPath 0 = .ok (.aload_n 0, 1) := by decide +kernel
theorem dX9_addOnPath_1 : decode cX9_addOnPath 1 = .ok (.iconst 0, 1) := by decide +kernel
theorem dX9_addOnPath_2 : decode cX9_addOnPath 2 = .ok (.putfield 53, 3) := by decide +kernel
theorem dX9_addOnPath_5 : decode cX9_addOnPath 5 = .ok (.aload_n 0, 1) := by decide +kernel
theorem dX9_addOnPath_6 : decode cX9_addOnPath 6 = .ok (.iload_n 1, 1) := by decide +kernel
theorem dX9_addOnPath_7 : decode cX9_addOnPath 7 = .ok (.invokevirtual 84, 3) := by decide +kernel
theorem dX9_addOnPath_10 : decode cX9_addOnPath 10 = .ok (.ifCond .eq 11, 3) := by decide +kernel
theorem dX9_addOnPath_13 : decode cX9_addOnPath 13 = .ok (.aload_n 0, 1) := by decide +kernel
theorem dX9_addOnPath_14 : decode cX9_addOnPath 14 = .ok (.iload_n 2, 1) := by decide +kernel
theorem dX9_addOnPath_15 : decode cX9_addOnPath 15 = .ok (.invokevirtual 84, 3) := by decide +kernel
theorem dX9_addOnPath_18 : decode cX9_addOnPath 18 = .ok (.ifCond .ne 9, 3) := by decide +kernel
theorem dX9_addOnPath_21 : decode cX9_addOnPath 21 = .ok (.aload_n 0, 1) := by decide +kernel
theorem dX9_addOnPath_22 : decode cX9_addOnPath 22 = .ok (.iconst 1, 1) := by decide +kernel
theorem dX9_addOnPath_23 : decode cX9_addOnPath 23 = .ok (.invokevirtual 78, 3) := by decide +kernel
theorem dX9_addOnPath_26 : decode cX9_addOnPath 26 = .ok (.ireturn, 1) := by decide +kernel
theorem dX9_addOnPath_27 : decode cX9_addOnPath 27 = .ok (.iload_n 3, 1) := by decide +kernel
theorem dX9_addOnPath_28 : decode cX9_addOnPath 28 = .ok (.bipush (-9), 2) := by decide +kernel
theorem dX9_addOnPath_30 : decode cX9_addOnPath 30 = .ok (.bipush 9, 2) := by decide +kernel
theorem dX9_addOnPath_32 : decode cX9_addOnPath 32 = .ok (.invokestatic 60, 3) := by decide +kernel
theorem dX9_addOnPath_35 : decode cX9_addOnPath 35 = .ok (.ifCond .ne 9, 3) := by decide +kernel
theorem dX9_addOnPath_38 : decode cX9_addOnPath 38 = .ok (.aload_n 0, 1) := by decide +kernel
theorem dX9_addOnPath_39 : decode cX9_addOnPath 39 = .ok (.iconst 2, 1) := by decide +kernel
theorem dX9_addOnPath_40 : decode cX9_addOnPath 40 = .ok (.invokevirtual 78, 3) := by decide +kernel
theorem dX9_addOnPath_43 : decode cX9_addOnPath 43 = .ok (.ireturn, 1) := by decide +kernel
theorem dX9_addOnPath_44 : decode cX9_addOnPath 44 = .ok (.aload_n 0, 1) := by decide +kernel
theorem dX9_addOnPath_45 : decode cX9_addOnPath 45 = .ok (.getfield 25, 3) := by decide +kernel
theorem dX9_addOnPath_48 : decode cX9_addOnPath 48 = .ok (.iload_n 1, 1) := by decide +kernel
theorem dX9_addOnPath_49 : decode cX9_addOnPath 49 = .ok (.iaload, 1) := by decide +kernel
theorem dX9_addOnPath_50 : decode cX9_addOnPath 50 = .ok (.aload_n 0, 1) := by decide +kernel
theorem dX9_addOnPath_51 : decode cX9_addOnPath 51 = .ok (.getfield 25, 3) := by decide +kernel
theorem dX9_addOnPath_54 : decode cX9_addOnPath 54 = .ok (.iload_n 2, 1) := by decide +kernel
theorem dX9_addOnPath_55 : decode cX9_addOnPath 55 = .ok (.iaload, 1) := by decide +kernel
theorem dX9_addOnPath_56 : decode cX9_addOnPath 56 = .ok (.if_icmp .eq 9, 3) := by decide +kernel
theorem dX9_addOnPath_59 : decode cX9_addOnPath 59 = .ok (.aload_n 0, 1) := by decide +kernel
theorem dX9_addOnPath_60 : decode cX9_addOnPath 60 = .ok (.iconst 3, 1) := by decide +kernel
theorem dX9_addOnPath_61 : decode cX9_addOnPath 61 = .ok (.invokevirtual 78, 3) := by decide +kernel
theorem dX9_addOnPath_64 : decode cX9_addOnPath 64 = .ok (.ireturn, 1) := by decide +kernel
theorem dX9_addOnPath_65 : decode cX9_addOnPath 65 = .ok (.aload_n 0, 1) := by decide +kernel
theorem dX9_addOnPath_66 : decode cX9_addOnPath 66 = .ok (.iload_n 2, 1) := by decide +kernel
theorem dX9_addOnPath_67 : decode cX9_addOnPath 67 = .ok (.invokevirtual 97, 3) := by decide +kernel
theorem dX9_addOnPath_70 : decode cX9_addOnPath 70 = .ok (.iload_n 1, 1) := by decide +kernel
theorem dX9_addOnPath_71 : decode cX9_addOnPath 71 = .ok (.istore 4, 2) := by decide +kernel
theorem dX9_addOnPath_73 : decode cX9_addOnPath 73 = .ok (.iload 4, 2) := by decide +kernel
theorem dX9_addOnPath_75 : decode cX9_addOnPath 75 = .ok (.iconst (-1), 1) := by decide +kernel
theorem dX9_addOnPath_76 : decode cX9_addOnPath 76 = .ok (.if_icmp .eq 26, 3) := by decide +kernel
theorem dX9_addOnPath_79 : decode cX9_addOnPath 79 = .ok (.aload_n 0, 1) := by decide +kernel
theorem dX9_addOnPath_80 : decode cX9_addOnPath 80 = .ok (.getfield 9, 3) := by decide +kernel
theorem dX9_addOnPath_83 : decode cX9_addOnPath 83 = .ok (.iload 4, 2) := by decide +kernel
theorem dX9_addOnPath_85 : decode cX9_addOnPath 85 = .ok (.dup2, 1) := by decide +kernel
theorem dX9_addOnPath_86 : decode cX9_addOnPath 86 = .ok (.iaload, 1) := by decide +kernel
theorem dX9_addOnPath_87 : decode cX9_addOnPath 87 = .ok (.iload_n 3, 1) := by decide +kernel
theorem dX9_addOnPath_88 : decode cX9_addOnPath 88 = .ok (.iadd, 1) := by decide +kernel
theorem dX9_addOnPath_89 : decode cX9_addOnPath 89 = .ok (.iastore, 1) := by decide +kernel
theorem dX9_addOnPath_90 : decode cX9_addOnPath 90 = .ok (.aload_n 0, 1) := by decide +kernel
theorem dX9_addOnPath_91 : decode cX9_addOnPath 91 = .ok (.getfield 38, 3) := by decide +kernel
theorem dX9_addOnPath_94 : decode cX9_addOnPath 94 = .ok (.iload 4, 2) := by decide +kernel
theorem dX9_addOnPath_96 : decode cX9_addOnPath 96 = .ok (.iaload, 1) := by decide +kernel
theorem dX9_addOnPath_97 : decode cX9_addOnPath 97 = .ok (.istore 4, 2) := by decide +kernel
theorem dX9_addOnPath_99 : decode cX9_addOnPath 99 = .ok (.goto (-26), 3) := by decide +kernel
theorem dX9_addOnPath_102 : decode cX9_addOnPath 102 = .ok (.aload_n 0, 1) := by decide +kernel
theorem dX9_addOnPath_103 : decode cX9_addOnPath 103 = .ok (.getfield 41, 3) := by decide +kernel
theorem dX9_addOnPath_106 : decode cX9_addOnPath 106 = .ok (.iload_n 1, 1) := by decide +kernel
theorem dX9_addOnPath_107 : decode cX9_addOnPath 107 = .ok (.iaload, 1) := by decide +kernel
theorem dX9_addOnPath_108 : decode cX9_addOnPath 108 = .ok (.iconst 1, 1) := by decide +kernel
theorem dX9_addOnPath_109 : decode cX9_addOnPath 109 = .ok (.iadd, 1) := by decide +kernel
theorem dX9_addOnPath_110 : decode cX9_addOnPath 110 = .ok (.ireturn, 1) := by decide +kernel
theorem dX9_vertices_0 : decode cX9_vertices 0 = .ok (.aload_n 0, 1) := by decide +kernel
theorem dX9_vertices_1 : decode cX9_vertices 1 = .ok (.iconst 0, 1) := by decide +kernel
theorem dX9_vertices_2 : decode cX9_vertices 2 = .ok (.putfield 53, 3) := by decide +kernel
theorem dX9_vertices_5 : decode cX9_vertices 5 = .ok (.aload_n 0, 1) := by decide +kernel
theorem dX9_vertices_6 : decode cX9_vertices 6 = .ok (.getfield 57, 3) := by decide +kernel
theorem dX9_vertices_9 : decode cX9_vertices 9 = .ok (.ireturn, 1) := by decide +kernel
theorem dX9_edges_0 : decode cX9_edges 0 = .ok (.aload_n 0, 1) := by decide +kernel
theorem dX9_edges_1 : decode cX9_edges 1 = .ok (.iconst 0, 1) := by decide +kernel
theorem dX9_edges_2 : decode cX9_edges 2 = .ok (.putfield 53, 3) := by decide +kernel
theorem dX9_edges_5 : decode cX9_edges 5 = .ok (.aload_n 0, 1) := by decide +kernel
theorem dX9_edges_6 : decode cX9_edges 6 = .ok (.getfield 64, 3) := by decide +kernel
theorem dX9_edges_9 : decode cX9_edges 9 = .ok (.ireturn, 1) := by decide +kernel
theorem dX9_value_0 : decode cX9_value 0 = .ok (.aload_n 0, 1) := by decide +kernel
theorem dX9_value_1 : decode cX9_value 1 = .ok (.iconst 0, 1) := by decide +kernel
theorem dX9_value_2 : decode cX9_value 2 = .ok (.putfield 53, 3) := by decide +kernel
theorem dX9_value_5 : decode cX9_value 5 = .ok (.aload_n 0, 1) := by decide +kernel
theorem dX9_value_6 : decode cX9_value 6 = .ok (.iload_n 1, 1) := by decide +kernel
theorem dX9_value_7 : decode cX9_value 7 = .ok (.invokevirtual 84, 3) := by decide +kernel
theorem dX9_value_10 : decode cX9_value 10 = .ok (.ifCond .eq 12, 3) := by decide +kernel
theorem dX9_value_13 : decode cX9_value 13 = .ok (.aload_n 0, 1) := by decide +kernel
theorem dX9_value_14 : decode cX9_value 14 = .ok (.getfield 9, 3) := by decide +kernel
theorem dX9_value_17 : decode cX9_value 17 = .ok (.iload_n 1, 1) := by decide +kernel
theorem dX9_value_18 : decode cX9_value 18 = .ok (.iaload, 1) := by decide +kernel
theorem dX9_value_19 : decode cX9_value 19 = .ok (.goto 8, 3) := by decide +kernel
theorem dX9_value_22 : decode cX9_value 22 = .ok (.aload_n 0, 1) := by decide +kernel
theorem dX9_value_23 : decode cX9_value 23 = .ok (.iconst 1, 1) := by decide +kernel
theorem dX9_value_24 : decode cX9_value 24 = .ok (.invokevirtual 78, 3) := by decide +kernel
theorem dX9_value_27 : decode cX9_value 27 = .ok (.ireturn, 1) := by decide +kernel
theorem dX9_weight_0 : decode cX9_weight 0 = .ok (.aload_n 0, 1) := by decide +kernel
theorem dX9_weight_1 : decode cX9_weight 1 = .ok (.iconst 0, 1) := by decide +kernel
theorem dX9_weight_2 : decode cX9_weight 2 = .ok (.putfield 53, 3) := by decide +kernel
theorem dX9_weight_5 : decode cX9_weight 5 = .ok (.aload_n 0, 1) := by decide +kernel
theorem dX9_weight_6 : decode cX9_weight 6 = .ok (.iload_n 1, 1) := by decide +kernel
theorem dX9_weight_7 : decode cX9_weight 7 = .ok (.invokevirtual 88, 3) := by decide +kernel
theorem dX9_weight_10 : decode cX9_weight 10 = .ok (.ifCond .eq 12, 3) := by decide +kernel
theorem dX9_weight_13 : decode cX9_weight 13 = .ok (.aload_n 0, 1) := by decide +kernel
theorem dX9_weight_14 : decode cX9_weight 14 = .ok (.getfield 19, 3) := by decide +kernel
theorem dX9_weight_17 : decode cX9_weight 17 = .ok (.iload_n 1, 1) := by decide +kernel
theorem dX9_weight_18 : decode cX9_weight 18 = .ok (.iaload, 1) := by decide +kernel
theorem dX9_weight_19 : decode cX9_weight 19 = .ok (.goto 8, 3) := by decide +kernel
theorem dX9_weight_22 : decode cX9_weight 22 = .ok (.aload_n 0, 1) := by decide +kernel
theorem dX9_weight_23 : decode cX9_weight 23 = .ok (.iconst 1, 1) := by decide +kernel
theorem dX9_weight_24 : decode cX9_weight 24 = .ok (.invokevirtual 78, 3) := by decide +kernel
theorem dX9_weight_27 : decode cX9_weight 27 = .ok (.ireturn, 1) := by decide +kernel
theorem dX9_state_0 : decode cX9_state 0 = .ok (.aload_n 0, 1) := by decide +kernel
theorem dX9_state_1 : decode cX9_state 1 = .ok (.iconst 0, 1) := by decide +kernel
theorem dX9_state_2 : decode cX9_state 2 = .ok (.putfield 53, 3) := by decide +kernel
theorem dX9_state_5 : decode cX9_state 5 = .ok (.aload_n 0, 1) := by decide +kernel
theorem dX9_state_6 : decode cX9_state 6 = .ok (.iload_n 1, 1) := by decide +kernel
theorem dX9_state_7 : decode cX9_state 7 = .ok (.invokevirtual 88, 3) := by decide +kernel
theorem dX9_state_10 : decode cX9_state 10 = .ok (.ifCond .ne 10, 3) := by decide +kernel
theorem dX9_state_13 : decode cX9_state 13 = .ok (.aload_n 0, 1) := by decide +kernel
theorem dX9_state_14 : decode cX9_state 14 = .ok (.iconst 1, 1) := by decide +kernel
theorem dX9_state_15 : decode cX9_state 15 = .ok (.invokevirtual 78, 3) := by decide +kernel
theorem dX9_state_18 : decode cX9_state 18 = .ok (.i2c, 1) := by decide +kernel
theorem dX9_state_19 : decode cX9_state 19 = .ok (.ireturn, 1) := by decide +kernel
theorem dX9_state_20 : decode cX9_state 20 = .ok (.aload_n 0, 1) := by decide +kernel
theorem dX9_state_21 : decode cX9_state 21 = .ok (.getfield 32, 3) := by decide +kernel
theorem dX9_state_24 : decode cX9_state 24 = .ok (.iload_n 1, 1) := by decide +kernel
theorem dX9_state_25 : decode cX9_state 25 = .ok (.baload, 1) := by decide +kernel
theorem dX9_state_26 : decode cX9_state 26 = .ok (.ifCond .eq 8, 3) := by decide +kernel
theorem dX9_state_29 : decode cX9_state 29 = .ok (.bipush 102, 2) := by decide +kernel
theorem dX9_state_31 : decode cX9_state 31 = .ok (.goto 19, 3) := by decide +kernel
theorem dX9_state_34 : decode cX9_state 34 = .ok (.aload_n 0, 1) := by decide +kernel
theorem dX9_state_35 : decode cX9_state 35 = .ok (.getfield 28, 3) := by decide +kernel
theorem dX9_state_38 : decode cX9_state 38 = .ok (.iload_n 1, 1) := by decide +kernel
theorem dX9_state_39 : decode cX9_state 39 = .ok (.baload, 1) := by decide +kernel
theorem dX9_state_40 : decode cX9_state 40 = .ok (.ifCond .eq 8, 3) := by decide +kernel
theorem dX9_state_43 : decode cX9_state 43 = .ok (.bipush 111, 2) := by decide +kernel
theorem dX9_state_45 : decode cX9_state 45 = .ok (.goto 5, 3) := by decide +kernel
theorem dX9_state_48 : decode cX9_state 48 = .ok (.bipush 114, 2) := by decide +kernel
theorem dX9_state_50 : decode cX9_state 50 = .ok (.ireturn, 1) := by decide +kernel
theorem dX9_otherEnd_0 : decode cX9_otherEnd 0 = .ok (.aload_n 0, 1) := by decide +kernel
theorem dX9_otherEnd_1 : decode cX9_otherEnd 1 = .ok (.iconst 0, 1) := by decide +kernel
theorem dX9_otherEnd_2 : decode cX9_otherEnd 2 = .ok (.putfield 53, 3) := by decide +kernel
theorem dX9_otherEnd_5 : decode cX9_otherEnd 5 = .ok (.aload_n 0, 1) := by decide +kernel
theorem dX9_otherEnd_6 : decode cX9_otherEnd 6 = .ok (.iload_n 1, 1) := by decide +kernel
theorem dX9_otherEnd_7 : decode cX9_otherEnd 7 = .ok (.invokevirtual 88, 3) := by decide +kernel
theorem dX9_otherEnd_10 : decode cX9_otherEnd 10 = .ok (.ifCond .eq 11, 3) := by decide +kernel
theorem dX9_otherEnd_13 : decode cX9_otherEnd 13 = .ok (.aload_n 0, 1) := by decide +kernel
theorem dX9_otherEnd_14 : decode cX9_otherEnd 14 = .ok (.iload_n 2, 1) := by decide +kernel
theorem dX9_otherEnd_15 : decode cX9_otherEnd 15 = .ok (.invokevirtual 84, 3) := by decide +kernel
theorem dX9_otherEnd_18 : decode cX9_otherEnd 18 = .ok (.ifCond .ne 9, 3) := by decide +kernel
theorem dX9_otherEnd_21 : decode cX9_otherEnd 21 = .ok (.aload_n 0, 1) := by decide +kernel
theorem dX9_otherEnd_22 : decode cX9_otherEnd 22 = .ok (.iconst 1, 1) := by decide +kernel
theorem dX9_otherEnd_23 : decode cX9_otherEnd 23 = .ok (.invokevirtual 78, 3) := by decide +kernel
theorem dX9_otherEnd_26 : decode cX9_otherEnd 26 = .ok (.ireturn, 1) := by decide +kernel
theorem dX9_otherEnd_27 : decode cX9_otherEnd 27 = .ok (.aload_n 0, 1) := by decide +kernel
theorem dX9_otherEnd_28 : decode cX9_otherEnd 28 = .ok (.getfield 13, 3) := by decide +kernel
theorem dX9_otherEnd_31 : decode cX9_otherEnd 31 = .ok (.iload_n 1, 1) := by decide +kernel
theorem dX9_otherEnd_32 : decode cX9_otherEnd 32 = .ok (.iaload, 1) := by decide +kernel
theorem dX9_otherEnd_33 : decode cX9_otherEnd 33 = .ok (.iload_n 2, 1) := by decide +kernel
theorem dX9_otherEnd_34 : decode cX9_otherEnd 34 = .ok (.if_icmp .eq 19, 3) := by decide +kernel
theorem dX9_otherEnd_37 : decode cX9_otherEnd 37 = .ok (.aload_n 0, 1) := by decide +kernel
theorem dX9_otherEnd_38 : decode cX9_otherEnd 38 = .ok (.getfield 16, 3) := by decide +kernel
theorem dX9_otherEnd_41 : decode cX9_otherEnd 41 = .ok (.iload_n 1, 1) := by decide +kernel
theorem dX9_otherEnd_42 : decode cX9_otherEnd 42 = .ok (.iaload, 1) := by decide +kernel
theorem dX9_otherEnd_43 : decode cX9_otherEnd 43 = .ok (.iload_n 2, 1) := by decide +kernel
theorem dX9_otherEnd_44 : decode cX9_otherEnd 44 = .ok (.if_icmp .eq 9, 3) := by decide +kernel
theorem dX9_otherEnd_47 : decode cX9_otherEnd 47 = .ok (.aload_n 0, 1) := by decide +kernel
theorem dX9_otherEnd_48 : decode cX9_otherEnd 48 = .ok (.iconst 2, 1) := by decide +kernel
theorem dX9_otherEnd_49 : decode cX9_otherEnd 49 = .ok (.invokevirtual 78, 3) := by decide +kernel
theorem dX9_otherEnd_52 : decode cX9_otherEnd 52 = .ok (.ireturn, 1) := by decide +kernel
theorem dX9_otherEnd_53 : decode cX9_otherEnd 53 = .ok (.aload_n 0, 1) := by decide +kernel
theorem dX9_otherEnd_54 : decode cX9_otherEnd 54 = .ok (.getfield 13, 3) := by decide +kernel
theorem dX9_otherEnd_57 : decode cX9_otherEnd 57 = .ok (.iload_n 1, 1) := by decide +kernel
theorem dX9_otherEnd_58 : decode cX9_otherEnd 58 = .ok (.iaload, 1) := by decide +kernel
theorem dX9_otherEnd_59 : decode cX9_otherEnd 59 = .ok (.aload_n 0, 1) := by decide +kernel
theorem dX9_otherEnd_60 : decode cX9_otherEnd 60 = .ok (.getfield 16, 3) := by decide +kernel
theorem dX9_otherEnd_63 : decode cX9_otherEnd 63 = .ok (.iload_n 1, 1) := by decide +kernel
theorem dX9_otherEnd_64 : decode cX9_otherEnd 64 = .ok (.iaload, 1) := by decide +kernel
theorem dX9_otherEnd_65 : decode cX9_otherEnd 65 = .ok (.iadd, 1) := by decide +kernel
theorem dX9_otherEnd_66 : decode cX9_otherEnd 66 = .ok (.iload_n 2, 1) := by decide +kernel
theorem dX9_otherEnd_67 : decode cX9_otherEnd 67 = .ok (.isub, 1) := by decide +kernel
theorem dX9_otherEnd_68 : decode cX9_otherEnd 68 = .ok (.ireturn, 1) := by decide +kernel
theorem dX9_joins_0 : decode cX9_joins 0 = .ok (.aload_n 0, 1) := by decide +kernel
theorem dX9_joins_1 : decode cX9_joins 1 = .ok (.getfield 13, 3) := by decide +kernel
theorem dX9_joins_4 : decode cX9_joins 4 = .ok (.iload_n 1, 1) := by decide +kernel
theorem dX9_joins_5 : decode cX9_joins 5 = .ok (.iaload, 1) := by decide +kernel
theorem dX9_joins_6 : decode cX9_joins 6 = .ok (.iload_n 2, 1) := by decide +kernel
theorem dX9_joins_7 : decode cX9_joins 7 = .ok (.if_icmp .ne 13, 3) := by decide +kernel
theorem dX9_joins_10 : decode cX9_joins 10 = .ok (.aload_n 0, 1) := by decide +kernel
theorem dX9_joins_11 : decode cX9_joins 11 = .ok (.getfield 16, 3) := by decide +kernel
theorem dX9_joins_14 : decode cX9_joins 14 = .ok (.iload_n 1, 1) := by decide +kernel
theorem dX9_joins_15 : decode cX9_joins 15 = .ok (.iaload, 1) := by decide +kernel
theorem dX9_joins_16 : decode cX9_joins 16 = .ok (.iload_n 3, 1) := by decide +kernel
theorem dX9_joins_17 : decode cX9_joins 17 = .ok (.if_icmp .eq 23, 3) := by decide +kernel
theorem dX9_joins_20 : decode cX9_joins 20 = .ok (.aload_n 0, 1) := by decide +kernel
theorem dX9_joins_21 : decode cX9_joins 21 = .ok (.getfield 13, 3) := by decide +kernel
theorem dX9_joins_24 : decode cX9_joins 24 = .ok (.iload_n 1, 1) := by decide +kernel
theorem dX9_joins_25 : decode cX9_joins 25 = .ok (.iaload, 1) := by decide +kernel
theorem dX9_joins_26 : decode cX9_joins 26 = .ok (.iload_n 3, 1) := by decide +kernel
theorem dX9_joins_27 : decode cX9_joins 27 = .ok (.if_icmp .ne 17, 3) := by decide +kernel
theorem dX9_joins_30 : decode cX9_joins 30 = .ok (.aload_n 0, 1) := by decide +kernel
theorem dX9_joins_31 : decode cX9_joins 31 = .ok (.getfield 16, 3) := by decide +kernel
theorem dX9_joins_34 : decode cX9_joins 34 = .ok (.iload_n 1, 1) := by decide +kernel
theorem dX9_joins_35 : decode cX9_joins 35 = .ok (.iaload, 1) := by decide +kernel
theorem dX9_joins_36 : decode cX9_joins 36 = .ok (.iload_n 2, 1) := by decide +kernel
theorem dX9_joins_37 : decode cX9_joins 37 = .ok (.if_icmp .ne 7, 3) := by decide +kernel
theorem dX9_joins_40 : decode cX9_joins 40 = .ok (.iconst 1, 1) := by decide +kernel
theorem dX9_joins_41 : decode cX9_joins 41 = .ok (.goto 4, 3) := by decide +kernel
theorem dX9_joins_44 : decode cX9_joins 44 = .ok (.iconst 0, 1) := by decide +kernel
theorem dX9_joins_45 : decode cX9_joins 45 = .ok (.ireturn, 1) := by decide +kernel
theorem dX9_parallel_0 : decode cX9_parallel 0 = .ok (.aload_n 0, 1) := by decide +kernel
theorem dX9_parallel_1 : decode cX9_parallel 1 = .ok (.iconst 0, 1) := by decide +kernel
theorem dX9_parallel_2 : decode cX9_parallel 2 = .ok (.putfield 53, 3) := by decide +kernel
theorem dX9_parallel_5 : decode cX9_parallel 5 = .ok (.aload_n 0, 1) := by decide +kernel
theorem dX9_parallel_6 : decode cX9_parallel 6 = .ok (.iload_n 1, 1) := by decide +kernel
theorem dX9_parallel_7 : decode cX9_parallel 7 = .ok (.invokevirtual 84, 3) := by decide +kernel
theorem dX9_parallel_10 : decode cX9_parallel 10 = .ok (.ifCond .eq 11, 3) := by decide +kernel
theorem dX9_parallel_13 : decode cX9_parallel 13 = .ok (.aload_n 0, 1) := by decide +kernel
theorem dX9_parallel_14 : decode cX9_parallel 14 = .ok (.iload_n 2, 1) := by decide +kernel
theorem dX9_parallel_15 : decode cX9_parallel 15 = .ok (.invokevirtual 84, 3) := by decide +kernel
theorem dX9_parallel_18 : decode cX9_parallel 18 = .ok (.ifCond .ne 9, 3) := by decide +kernel
theorem dX9_parallel_21 : decode cX9_parallel 21 = .ok (.aload_n 0, 1) := by decide +kernel
theorem dX9_parallel_22 : decode cX9_parallel 22 = .ok (.iconst 1, 1) := by decide +kernel
theorem dX9_parallel_23 : decode cX9_parallel 23 = .ok (.invokevirtual 78, 3) := by decide +kernel
theorem dX9_parallel_26 : decode cX9_parallel 26 = .ok (.ireturn, 1) := by decide +kernel
theorem dX9_parallel_27 : decode cX9_parallel 27 = .ok (.iconst 0, 1) := by decide +kernel
theorem dX9_parallel_28 : decode cX9_parallel 28 = .ok (.istore_n 3, 1) := by decide +kernel
theorem dX9_parallel_29 : decode cX9_parallel 29 = .ok (.iconst 0, 1) := by decide +kernel
theorem dX9_parallel_30 : decode cX9_parallel 30 = .ok (.istore 4, 2) := by decide +kernel
theorem dX9_parallel_32 : decode cX9_parallel 32 = .ok (.iload 4, 2) := by decide +kernel
theorem dX9_parallel_34 : decode cX9_parallel 34 = .ok (.aload_n 0, 1) := by decide +kernel
theorem dX9_parallel_35 : decode cX9_parallel 35 = .ok (.getfield 64, 3) := by decide +kernel
theorem dX9_parallel_38 : decode cX9_parallel 38 = .ok (.if_icmp .ge 38, 3) := by decide +kernel
theorem dX9_parallel_41 : decode cX9_parallel 41 = .ok (.iload_n 3, 1) := by decide +kernel
theorem dX9_parallel_42 : decode cX9_parallel 42 = .ok (.aload_n 0, 1) := by decide +kernel
theorem dX9_parallel_43 : decode cX9_parallel 43 = .ok (.getfield 28, 3) := by decide +kernel
theorem dX9_parallel_46 : decode cX9_parallel 46 = .ok (.iload 4, 2) := by decide +kernel
theorem dX9_parallel_48 : decode cX9_parallel 48 = .ok (.baload, 1) := by decide +kernel
theorem dX9_parallel_49 : decode cX9_parallel 49 = .ok (.ifCond .eq 18, 3) := by decide +kernel
theorem dX9_parallel_52 : decode cX9_parallel 52 = .ok (.aload_n 0, 1) := by decide +kernel
theorem dX9_parallel_53 : decode cX9_parallel 53 = .ok (.iload 4, 2) := by decide +kernel
theorem dX9_parallel_55 : decode cX9_parallel 55 = .ok (.iload_n 1, 1) := by decide +kernel
theorem dX9_parallel_56 : decode cX9_parallel 56 = .ok (.iload_n 2, 1) := by decide +kernel
theorem dX9_parallel_57 : decode cX9_parallel 57 = .ok (.invokevirtual 101, 3) := by decide +kernel
theorem dX9_parallel_60 : decode cX9_parallel 60 = .ok (.ifCond .eq 7, 3) := by decide +kernel
theorem dX9_parallel_63 : decode cX9_parallel 63 = .ok (.iconst 1, 1) := by decide +kernel
theorem dX9_parallel_64 : decode cX9_parallel 64 = .ok (.goto 4, 3) := by decide +kernel
theorem dX9_parallel_67 : decode cX9_parallel 67 = .ok (.iconst 0, 1) := by decide +kernel
theorem dX9_parallel_68 : decode cX9_parallel 68 = .ok (.iadd, 1) := by decide +kernel
theorem dX9_parallel_69 : decode cX9_parallel 69 = .ok (.istore_n 3, 1) := by decide +kernel
theorem dX9_parallel_70 : decode cX9_parallel 70 = .ok (.iinc 4 1, 3) := by decide +kernel
theorem dX9_parallel_73 : decode cX9_parallel 73 = .ok (.goto (-41), 3) := by decide +kernel
theorem dX9_parallel_76 : decode cX9_parallel 76 = .ok (.iload_n 3, 1) := by decide +kernel
theorem dX9_parallel_77 : decode cX9_parallel 77 = .ok (.ireturn, 1) := by decide +kernel
theorem dX9_lightest_0 : decode cX9_lightest 0 = .ok (.aload_n 0, 1) := by decide +kernel
theorem dX9_lightest_1 : decode cX9_lightest 1 = .ok (.iconst 0, 1) := by decide +kernel
theorem dX9_lightest_2 : decode cX9_lightest 2 = .ok (.putfield 53, 3) := by decide +kernel
theorem dX9_lightest_5 : decode cX9_lightest 5 = .ok (.aload_n 0, 1) := by decide +kernel
theorem dX9_lightest_6 : decode cX9_lightest 6 = .ok (.iload_n 1, 1) := by decide +kernel
theorem dX9_lightest_7 : decode cX9_lightest 7 = .ok (.invokevirtual 84, 3) := by decide +kernel
theorem dX9_lightest_10 : decode cX9_lightest 10 = .ok (.ifCond .eq 11, 3) := by decide +kernel
theorem dX9_lightest_13 : decode cX9_lightest 13 = .ok (.aload_n 0, 1) := by decide +kernel
theorem dX9_lightest_14 : decode cX9_lightest 14 = .ok (.iload_n 2, 1) := by decide +kernel
theorem dX9_lightest_15 : decode cX9_lightest 15 = .ok (.invokevirtual 84, 3) := by decide +kernel
theorem dX9_lightest_18 : decode cX9_lightest 18 = .ok (.ifCond .ne 9, 3) := by decide +kernel
theorem dX9_lightest_21 : decode cX9_lightest 21 = .ok (.aload_n 0, 1) := by decide +kernel
theorem dX9_lightest_22 : decode cX9_lightest 22 = .ok (.iconst 1, 1) := by decide +kernel
theorem dX9_lightest_23 : decode cX9_lightest 23 = .ok (.invokevirtual 78, 3) := by decide +kernel
theorem dX9_lightest_26 : decode cX9_lightest 26 = .ok (.ireturn, 1) := by decide +kernel
theorem dX9_lightest_27 : decode cX9_lightest 27 = .ok (.iconst (-1), 1) := by decide +kernel
theorem dX9_lightest_28 : decode cX9_lightest 28 = .ok (.istore_n 3, 1) := by decide +kernel
theorem dX9_lightest_29 : decode cX9_lightest 29 = .ok (.iconst 0, 1) := by decide +kernel
theorem dX9_lightest_30 : decode cX9_lightest 30 = .ok (.istore 4, 2) := by decide +kernel
theorem dX9_lightest_32 : decode cX9_lightest 32 = .ok (.iload 4, 2) := by decide +kernel
theorem dX9_lightest_34 : decode cX9_lightest 34 = .ok (.aload_n 0, 1) := by decide +kernel
theorem dX9_lightest_35 : decode cX9_lightest 35 = .ok (.getfield 64, 3) := by decide +kernel
theorem dX9_lightest_38 : decode cX9_lightest 38 = .ok (.if_icmp .ge 47, 3) := by decide +kernel
theorem dX9_lightest_41 : decode cX9_lightest 41 = .ok (.aload_n 0, 1) := by decide +kernel
theorem dX9_lightest_42 : decode cX9_lightest 42 = .ok (.getfield 28, 3) := by decide +kernel
theorem dX9_lightest_45 : decode cX9_lightest 45 = .ok (.iload 4, 2) := by decide +kernel
theorem dX9_lightest_47 : decode cX9_lightest 47 = .ok (.baload, 1) := by decide +kernel
theorem dX9_lightest_48 : decode cX9_lightest 48 = .ok (.ifCond .eq 31, 3) := by decide +kernel
theorem dX9_lightest_51 : decode cX9_lightest 51 = .ok (.aload_n 0, 1) := by decide +kernel
theorem dX9_lightest_52 : decode cX9_lightest 52 = .ok (.iload 4, 2) := by decide +kernel
theorem dX9_lightest_54 : decode cX9_lightest 54 = .ok (.iload_n 1, 1) := by decide +kernel
theorem dX9_lightest_55 : decode cX9_lightest 55 = .ok (.iload_n 2, 1) := by decide +kernel
theorem dX9_lightest_56 : decode cX9_lightest 56 = .ok (.invokevirtual 101, 3) := by decide +kernel
theorem dX9_lightest_59 : decode cX9_lightest 59 = .ok (.ifCond .eq 20, 3) := by decide +kernel
theorem dX9_lightest_62 : decode cX9_lightest 62 = .ok (.iload_n 3, 1) := by decide +kernel
theorem dX9_lightest_63 : decode cX9_lightest 63 = .ok (.ifCond .lt 13, 3) := by decide +kernel
theorem dX9_lightest_66 : decode cX9_lightest 66 = .ok (.aload_n 0, 1) := by decide +kernel
theorem dX9_lightest_67 : decode cX9_lightest 67 = .ok (.iload 4, 2) := by decide +kernel
theorem dX9_lightest_69 : decode cX9_lightest 69 = .ok (.iload_n 3, 1) := by decide +kernel
theorem dX9_lightest_70 : decode cX9_lightest 70 = .ok (.invokevirtual 67, 3) := by decide +kernel
theorem dX9_lightest_73 : decode cX9_lightest 73 = .ok (.ifCond .eq 6, 3) := by decide +kernel
theorem dX9_lightest_76 : decode cX9_lightest 76 = .ok (.iload 4, 2) := by decide +kernel
theorem dX9_lightest_78 : decode cX9_lightest 78 = .ok (.istore_n 3, 1) := by decide +kernel
theorem dX9_lightest_79 : decode cX9_lightest 79 = .ok (.iinc 4 1, 3) := by decide +kernel
theorem dX9_lightest_82 : decode cX9_lightest 82 = .ok (.goto (-50), 3) := by decide +kernel
theorem dX9_lightest_85 : decode cX9_lightest 85 = .ok (.iload_n 3, 1) := by decide +kernel
theorem dX9_lightest_86 : decode cX9_lightest 86 = .ok (.ifCond .ge 11, 3) := by decide +kernel
theorem dX9_lightest_89 : decode cX9_lightest 89 = .ok (.aload_n 0, 1) := by decide +kernel
theorem dX9_lightest_90 : decode cX9_lightest 90 = .ok (.iconst 2, 1) := by decide +kernel
theorem dX9_lightest_91 : decode cX9_lightest 91 = .ok (.invokevirtual 78, 3) := by decide +kernel
theorem dX9_lightest_94 : decode cX9_lightest 94 = .ok (.goto 4, 3) := by decide +kernel
theorem dX9_lightest_97 : decode cX9_lightest 97 = .ok (.iload_n 3, 1) := by decide +kernel
theorem dX9_lightest_98 : decode cX9_lightest 98 = .ok (.ireturn, 1) := by decide +kernel
theorem dX9_forestWeight_0 : decode cX9_forestWeight 0 = .ok (.aload_n 0, 1) := by decide +kernel
theorem dX9_forestWeight_1 : decode cX9_forestWeight 1 = .ok (.iconst 0, 1) := by decide +kernel
theorem dX9_forestWeight_2 : decode cX9_forestWeight 2 = .ok (.putfield 53, 3) := by decide +kernel
theorem dX9_forestWeight_5 : decode cX9_forestWeight 5 = .ok (.iconst 0, 1) := by decide +kernel
theorem dX9_forestWeight_6 : decode cX9_forestWeight 6 = .ok (.istore_n 1, 1) := by decide +kernel
theorem dX9_forestWeight_7 : decode cX9_forestWeight 7 = .ok (.iconst 0, 1) := by decide +kernel
theorem dX9_forestWeight_8 : decode cX9_forestWeight 8 = .ok (.istore_n 2, 1) := by decide +kernel
theorem dX9_forestWeight_9 : decode cX9_forestWeight 9 = .ok (.iload_n 2, 1) := by decide +kernel
theorem dX9_forestWeight_10 : decode cX9_forestWeight 10 = .ok (.aload_n 0, 1) := by decide +kernel
theorem dX9_forestWeight_11 : decode cX9_forestWeight 11 = .ok (.getfield 64, 3) := by decide +kernel
theorem dX9_forestWeight_14 : decode cX9_forestWeight 14 = .ok (.if_icmp .ge 31, 3) := by decide +kernel
theorem dX9_forestWeight_17 : decode cX9_forestWeight 17 = .ok (.iload_n 1, 1) := by decide +kernel
theorem dX9_forestWeight_18 : decode cX9_forestWeight 18 = .ok (.aload_n 0, 1) := by decide +kernel
theorem dX9_forestWeight_19 : decode cX9_forestWeight 19 = .ok (.getfield 32, 3) := by decide +kernel
theorem dX9_forestWeight_22 : decode cX9_forestWeight 22 = .ok (.iload_n 2, 1) := by decide +kernel
theorem dX9_forestWeight_23 : decode cX9_forestWeight 23 = .ok (.baload, 1) := by decide +kernel
theorem dX9_forestWeight_24 : decode cX9_forestWeight 24 = .ok (.ifCond .eq 12, 3) := by decide +kernel
theorem dX9_forestWeight_27 : decode cX9_forestWeight 27 = .ok (.aload_n 0, 1) := by decide +kernel
theorem dX9_forestWeight_28 : decode cX9_forestWeight 28 = .ok (.getfield 19, 3) := by decide +kernel
theorem dX9_forestWeight_31 : decode cX9_forestWeight 31 = .ok (.iload_n 2, 1) := by decide +kernel
theorem dX9_forestWeight_32 : decode cX9_forestWeight 32 = .ok (.iaload, 1) := by decide +kernel
theorem dX9_forestWeight_33 : decode cX9_forestWeight 33 = .ok (.goto 4, 3) := by decide +kernel
theorem dX9_forestWeight_36 : decode cX9_forestWeight 36 = .ok (.iconst 0, 1) := by decide +kernel
theorem dX9_forestWeight_37 : decode cX9_forestWeight 37 = .ok (.iadd, 1) := by decide +kernel
theorem dX9_forestWeight_38 : decode cX9_forestWeight 38 = .ok (.istore_n 1, 1) := by decide +kernel
theorem dX9_forestWeight_39 : decode cX9_forestWeight 39 = .ok (.iinc 2 1, 3) := by decide +kernel
theorem dX9_forestWeight_42 : decode cX9_forestWeight 42 = .ok (.goto (-33), 3) := by decide +kernel
theorem dX9_forestWeight_45 : decode cX9_forestWeight 45 = .ok (.iload_n 1, 1) := by decide +kernel
theorem dX9_forestWeight_46 : decode cX9_forestWeight 46 = .ok (.ireturn, 1) := by decide +kernel
theorem dX9_forestWeightAnew_0 : decode cX9_forestWeightAnew 0 = .ok (.aload_n 0, 1) := by decide +kernel
theorem dX9_forestWeightAnew_1 : decode cX9_forestWeightAnew 1 = .ok (.invokevirtual 104, 3) := by decide +kernel
theorem dX9_forestWeightAnew_4 : decode cX9_forestWeightAnew 4 = .ok (.ireturn, 1) := by decide +kernel
theorem dX9_trees_0 : decode cX9_trees 0 = .ok (.aload_n 0, 1) := by decide +kernel
theorem dX9_trees_1 : decode cX9_trees 1 = .ok (.iconst 0, 1) := by decide +kernel
theorem dX9_trees_2 : decode cX9_trees 2 = .ok (.putfield 53, 3) := by decide +kernel
theorem dX9_trees_5 : decode cX9_trees 5 = .ok (.aload_n 0, 1) := by decide +kernel
theorem dX9_trees_6 : decode cX9_trees 6 = .ok (.getfield 57, 3) := by decide +kernel
theorem dX9_trees_9 : decode cX9_trees 9 = .ok (.istore_n 1, 1) := by decide +kernel
theorem dX9_trees_10 : decode cX9_trees 10 = .ok (.iconst 0, 1) := by decide +kernel
theorem dX9_trees_11 : decode cX9_trees 11 = .ok (.istore_n 2, 1) := by decide +kernel
theorem dX9_trees_12 : decode cX9_trees 12 = .ok (.iload_n 2, 1) := by decide +kernel
theorem dX9_trees_13 : decode cX9_trees 13 = .ok (.aload_n 0, 1) := by decide +kernel
theorem dX9_trees_14 : decode cX9_trees 14 = .ok (.getfield 64, 3) := by decide +kernel
theorem dX9_trees_17 : decode cX9_trees 17 = .ok (.if_icmp .ge 26, 3) := by decide +kernel
theorem dX9_trees_20 : decode cX9_trees 20 = .ok (.iload_n 1, 1) := by decide +kernel
theorem dX9_trees_21 : decode cX9_trees 21 = .ok (.aload_n 0, 1) := by decide +kernel
theorem dX9_trees_22 : decode cX9_trees 22 = .ok (.getfield 32, 3) := by decide +kernel
theorem dX9_trees_25 : decode cX9_trees 25 = .ok (.iload_n 2, 1) := by decide +kernel
theorem dX9_trees_26 : decode cX9_trees 26 = .ok (.baload, 1) := by decide +kernel
theorem dX9_trees_27 : decode cX9_trees 27 = .ok (.ifCond .eq 7, 3) := by decide +kernel
theorem dX9_trees_30 : decode cX9_trees 30 = .ok (.iconst 1, 1) := by decide +kernel
theorem dX9_trees_31 : decode cX9_trees 31 = .ok (.goto 4, 3) := by decide +kernel
theorem dX9_trees_34 : decode cX9_trees 34 = .ok (.iconst 0, 1) := by decide +kernel
theorem dX9_trees_35 : decode cX9_trees 35 = .ok (.isub, 1) := by decide +kernel
theorem dX9_trees_36 : decode cX9_trees 36 = .ok (.istore_n 1, 1) := by decide +kernel
theorem dX9_trees_37 : decode cX9_trees 37 = .ok (.iinc 2 1, 3) := by decide +kernel
theorem dX9_trees_40 : decode cX9_trees 40 = .ok (.goto (-28), 3) := by decide +kernel
theorem dX9_trees_43 : decode cX9_trees 43 = .ok (.iload_n 1, 1) := by decide +kernel
theorem dX9_trees_44 : decode cX9_trees 44 = .ok (.ireturn, 1) := by decide +kernel
theorem dX9_isNeighbour_0 : decode cX9_isNeighbour 0 = .ok (.iconst 0, 1) := by decide +kernel
theorem dX9_isNeighbour_1 : decode cX9_isNeighbour 1 = .ok (.istore_n 3, 1) := by decide +kernel
theorem dX9_isNeighbour_2 : decode cX9_isNeighbour 2 = .ok (.iload_n 3, 1) := by decide +kernel
theorem dX9_isNeighbour_3 : decode cX9_isNeighbour 3 = .ok (.aload_n 0, 1) := by decide +kernel
theorem dX9_isNeighbour_4 : decode cX9_isNeighbour 4 = .ok (.getfield 64, 3) := by decide +kernel
theorem dX9_isNeighbour_7 : decode cX9_isNeighbour 7 = .ok (.if_icmp .ge 30, 3) := by decide +kernel
theorem dX9_isNeighbour_10 : decode cX9_isNeighbour 10 = .ok (.aload_n 0, 1) := by decide +kernel
theorem dX9_isNeighbour_11 : decode cX9_isNeighbour 11 = .ok (.getfield 32, 3) := by decide +kernel
theorem dX9_isNeighbour_14 : decode cX9_isNeighbour 14 = .ok (.iload_n 3, 1) := by decide +kernel
theorem dX9_isNeighbour_15 : decode cX9_isNeighbour 15 = .ok (.baload, 1) := by decide +kernel
theorem dX9_isNeighbour_16 : decode cX9_isNeighbour 16 = .ok (.ifCond .eq 15, 3) := by decide +kernel
theorem dX9_isNeighbour_19 : decode cX9_isNeighbour 19 = .ok (.aload_n 0, 1) := by decide +kernel
theorem dX9_isNeighbour_20 : decode cX9_isNeighbour 20 = .ok (.iload_n 3, 1) := by decide +kernel
theorem dX9_isNeighbour_21 : decode cX9_isNeighbour 21 = .ok (.iload_n 1, 1) := by decide +kernel
theorem dX9_isNeighbour_22 : decode cX9_isNeighbour 22 = .ok (.iload_n 2, 1) := by decide +kernel
theorem dX9_isNeighbour_23 : decode cX9_isNeighbour 23 = .ok (.invokevirtual 101, 3) := by decide +kernel
theorem dX9_isNeighbour_26 : decode cX9_isNeighbour 26 = .ok (.ifCond .eq 5, 3) := by decide +kernel
theorem dX9_isNeighbour_29 : decode cX9_isNeighbour 29 = .ok (.iconst 1, 1) := by decide +kernel
theorem dX9_isNeighbour_30 : decode cX9_isNeighbour 30 = .ok (.ireturn, 1) := by decide +kernel
theorem dX9_isNeighbour_31 : decode cX9_isNeighbour 31 = .ok (.iinc 3 1, 3) := by decide +kernel
theorem dX9_isNeighbour_34 : decode cX9_isNeighbour 34 = .ok (.goto (-32), 3) := by decide +kernel
theorem dX9_isNeighbour_37 : decode cX9_isNeighbour 37 = .ok (.iconst 0, 1) := by decide +kernel
theorem dX9_isNeighbour_38 : decode cX9_isNeighbour 38 = .ok (.ireturn, 1) := by decide +kernel
theorem dX9_degree_0 : decode cX9_degree 0 = .ok (.aload_n 0, 1) := by decide +kernel
theorem dX9_degree_1 : decode cX9_degree 1 = .ok (.iconst 0, 1) := by decide +kernel
theorem dX9_degree_2 : decode cX9_degree 2 = .ok (.putfield 53, 3) := by decide +kernel
theorem dX9_degree_5 : decode cX9_degree 5 = .ok (.aload_n 0, 1) := by decide +kernel
theorem dX9_degree_6 : decode cX9_degree 6 = .ok (.iload_n 1, 1) := by decide +kernel
theorem dX9_degree_7 : decode cX9_degree 7 = .ok (.invokevirtual 84, 3) := by decide +kernel
theorem dX9_degree_10 : decode cX9_degree 10 = .ok (.ifCond .ne 9, 3) := by decide +kernel
theorem dX9_degree_13 : decode cX9_degree 13 = .ok (.aload_n 0, 1) := by decide +kernel
theorem dX9_degree_14 : decode cX9_degree 14 = .ok (.iconst 1, 1) := by decide +kernel
theorem dX9_degree_15 : decode cX9_degree 15 = .ok (.invokevirtual 78, 3) := by decide +kernel
theorem dX9_degree_18 : decode cX9_degree 18 = .ok (.ireturn, 1) := by decide +kernel
theorem dX9_degree_19 : decode cX9_degree 19 = .ok (.iconst 0, 1) := by decide +kernel
theorem dX9_degree_20 : decode cX9_degree 20 = .ok (.istore_n 2, 1) := by decide +kernel
theorem dX9_degree_21 : decode cX9_degree 21 = .ok (.iconst 0, 1) := by decide +kernel
theorem dX9_degree_22 : decode cX9_degree 22 = .ok (.istore_n 3, 1) := by decide +kernel
theorem dX9_degree_23 : decode cX9_degree 23 = .ok (.iload_n 3, 1) := by decide +kernel
theorem dX9_degree_24 : decode cX9_degree 24 = .ok (.aload_n 0, 1) := by decide +kernel
theorem dX9_degree_25 : decode cX9_degree 25 = .ok (.getfield 57, 3) := by decide +kernel
theorem dX9_degree_28 : decode cX9_degree 28 = .ok (.if_icmp .ge 26, 3) := by decide +kernel
theorem dX9_degree_31 : decode cX9_degree 31 = .ok (.iload_n 2, 1) := by decide +kernel
theorem dX9_degree_32 : decode cX9_degree 32 = .ok (.aload_n 0, 1) := by decide +kernel
theorem dX9_degree_33 : decode cX9_degree 33 = .ok (.iload_n 1, 1) := by decide +kernel
theorem dX9_degree_34 : decode cX9_degree 34 = .ok (.iload_n 3, 1) := by decide +kernel
theorem dX9_degree_35 : decode cX9_degree 35 = .ok (.invokevirtual 108, 3) := by decide +kernel
theorem dX9_degree_38 : decode cX9_degree 38 = .ok (.ifCond .eq 7, 3) := by decide +kernel
theorem dX9_degree_41 : decode cX9_degree 41 = .ok (.iconst 1, 1) := by decide +kernel
theorem dX9_degree_42 : decode cX9_degree 42 = .ok (.goto 4, 3) := by decide +kernel
theorem dX9_degree_45 : decode cX9_degree 45 = .ok (.iconst 0, 1) := by decide +kernel
theorem dX9_degree_46 : decode cX9_degree 46 = .ok (.iadd, 1) := by decide +kernel
theorem dX9_degree_47 : decode cX9_degree 47 = .ok (.istore_n 2, 1) := by decide +kernel
theorem dX9_degree_48 : decode cX9_degree 48 = .ok (.iinc 3 1, 3) := by decide +kernel
theorem dX9_degree_51 : decode cX9_degree 51 = .ok (.goto (-28), 3) := by decide +kernel
theorem dX9_degree_54 : decode cX9_degree 54 = .ok (.iload_n 2, 1) := by decide +kernel
theorem dX9_degree_55 : decode cX9_degree 55 = .ok (.ireturn, 1) := by decide +kernel
theorem dX9_neighbour_0 : decode cX9_neighbour 0 = .ok (.aload_n 0, 1) := by decide +kernel
theorem dX9_neighbour_1 : decode cX9_neighbour 1 = .ok (.iconst 0, 1) := by decide +kernel
theorem dX9_neighbour_2 : decode cX9_neighbour 2 = .ok (.putfield 53, 3) := by decide +kernel
theorem dX9_neighbour_5 : decode cX9_neighbour 5 = .ok (.aload_n 0, 1) := by decide +kernel
theorem dX9_neighbour_6 : decode cX9_neighbour 6 = .ok (.iload_n 1, 1) := by decide +kernel
theorem dX9_neighbour_7 : decode cX9_neighbour 7 = .ok (.invokevirtual 84, 3) := by decide +kernel
theorem dX9_neighbour_10 : decode cX9_neighbour 10 = .ok (.ifCond .ne 9, 3) := by decide +kernel
theorem dX9_neighbour_13 : decode cX9_neighbour 13 = .ok (.aload_n 0, 1) := by decide +kernel
theorem dX9_neighbour_14 : decode cX9_neighbour 14 = .ok (.iconst 1, 1) := by decide +kernel
theorem dX9_neighbour_15 : decode cX9_neighbour 15 = .ok (.invokevirtual 78, 3) := by decide +kernel
theorem dX9_neighbour_18 : decode cX9_neighbour 18 = .ok (.ireturn, 1) := by decide +kernel
theorem dX9_neighbour_19 : decode cX9_neighbour 19 = .ok (.iload_n 2, 1) := by decide +kernel
theorem dX9_neighbour_20 : decode cX9_neighbour 20 = .ok (.istore_n 3, 1) := by decide +kernel
theorem dX9_neighbour_21 : decode cX9_neighbour 21 = .ok (.iconst 0, 1) := by decide +kernel
theorem dX9_neighbour_22 : decode cX9_neighbour 22 = .ok (.istore 4, 2) := by decide +kernel
theorem dX9_neighbour_24 : decode cX9_neighbour 24 = .ok (.iload 4, 2) := by decide +kernel
theorem dX9_neighbour_26 : decode cX9_neighbour 26 = .ok (.aload_n 0, 1) := by decide +kernel
theorem dX9_neighbour_27 : decode cX9_neighbour 27 = .ok (.getfield 57, 3) := by decide +kernel
theorem dX9_neighbour_30 : decode cX9_neighbour 30 = .ok (.if_icmp .ge 32, 3) := by decide +kernel
theorem dX9_neighbour_33 : decode cX9_neighbour 33 = .ok (.aload_n 0, 1) := by decide +kernel
theorem dX9_neighbour_34 : decode cX9_neighbour 34 = .ok (.iload_n 1, 1) := by decide +kernel
theorem dX9_neighbour_35 : decode cX9_neighbour 35 = .ok (.iload 4, 2) := by decide +kernel
theorem dX9_neighbour_37 : decode cX9_neighbour 37 = .ok (.invokevirtual 108, 3) := by decide +kernel
theorem dX9_neighbour_40 : decode cX9_neighbour 40 = .ok (.ifCond .ne 6, 3) := by decide +kernel
theorem dX9_neighbour_43 : decode cX9_neighbour 43 = .ok (.goto 13, 3) := by decide +kernel
theorem dX9_neighbour_46 : decode cX9_neighbour 46 = .ok (.iload_n 3, 1) := by decide +kernel
theorem dX9_neighbour_47 : decode cX9_neighbour 47 = .ok (.ifCond .ne 6, 3) := by decide +kernel
theorem dX9_neighbour_50 : decode cX9_neighbour 50 = .ok (.iload 4, 2) := by decide +kernel
theorem dX9_neighbour_52 : decode cX9_neighbour 52 = .ok (.ireturn, 1) := by decide +kernel
theorem dX9_neighbour_53 : decode cX9_neighbour 53 = .ok (.iinc 3 (-1), 3) := by decide +kernel
theorem dX9_neighbour_56 : decode cX9_neighbour 56 = .ok (.iinc 4 1, 3) := by decide +kernel
theorem dX9_neighbour_59 : decode cX9_neighbour 59 = .ok (.goto (-35), 3) := by decide +kernel
theorem dX9_neighbour_62 : decode cX9_neighbour 62 = .ok (.aload_n 0, 1) := by decide +kernel
theorem dX9_neighbour_63 : decode cX9_neighbour 63 = .ok (.iconst 2, 1) := by decide +kernel
theorem dX9_neighbour_64 : decode cX9_neighbour 64 = .ok (.invokevirtual 78, 3) := by decide +kernel
theorem dX9_neighbour_67 : decode cX9_neighbour 67 = .ok (.ireturn, 1) := by decide +kernel
theorem dX9_isConnected_0 : decode cX9_isConnected 0 = .ok (.aload_n 0, 1) := by decide +kernel
theorem dX9_isConnected_1 : decode cX9_isConnected 1 = .ok (.iconst 0, 1) := by decide +kernel
theorem dX9_isConnected_2 : decode cX9_isConnected 2 = .ok (.putfield 53, 3) := by decide +kernel
theorem dX9_isConnected_5 : decode cX9_isConnected 5 = .ok (.aload_n 0, 1) := by decide +kernel
theorem dX9_isConnected_6 : decode cX9_isConnected 6 = .ok (.iload_n 1, 1) := by decide +kernel
theorem dX9_isConnected_7 : decode cX9_isConnected 7 = .ok (.invokevirtual 84, 3) := by decide +kernel
theorem dX9_isConnected_10 : decode cX9_isConnected 10 = .ok (.ifCond .eq 11, 3) := by decide +kernel
theorem dX9_isConnected_13 : decode cX9_isConnected 13 = .ok (.aload_n 0, 1) := by decide +kernel
theorem dX9_isConnected_14 : decode cX9_isConnected 14 = .ok (.iload_n 2, 1) := by decide +kernel
theorem dX9_isConnected_15 : decode cX9_isConnected 15 = .ok (.invokevirtual 84, 3) := by decide +kernel
theorem dX9_isConnected_18 : decode cX9_isConnected 18 = .ok (.ifCond .ne 17, 3) := by decide +kernel
theorem dX9_isConnected_21 : decode cX9_isConnected 21 = .ok (.aload_n 0, 1) := by decide +kernel
theorem dX9_isConnected_22 : decode cX9_isConnected 22 = .ok (.iconst 1, 1) := by decide +kernel
theorem dX9_isConnected_23 : decode cX9_isConnected 23 = .ok (.invokevirtual 78, 3) := by decide +kernel
theorem dX9_isConnected_26 : decode cX9_isConnected 26 = .ok (.ifCond .le 7, 3) := by decide +kernel
theorem dX9_isConnected_29 : decode cX9_isConnected 29 = .ok (.iconst 1, 1) := by decide +kernel
theorem dX9_isConnected_30 : decode cX9_isConnected 30 = .ok (.goto 4, 3) := by decide +kernel
theorem dX9_isConnected_33 : decode cX9_isConnected 33 = .ok (.iconst 0, 1) := by decide +kernel
theorem dX9_isConnected_34 : decode cX9_isConnected 34 = .ok (.ireturn, 1) := by decide +kernel
theorem dX9_isConnected_35 : decode cX9_isConnected 35 = .ok (.aload_n 0, 1) := by decide +kernel
theorem dX9_isConnected_36 : decode cX9_isConnected 36 = .ok (.getfield 25, 3) := by decide +kernel
theorem dX9_isConnected_39 : decode cX9_isConnected 39 = .ok (.iload_n 1, 1) := by decide +kernel
theorem dX9_isConnected_40 : decode cX9_isConnected 40 = .ok (.iaload, 1) := by decide +kernel
theorem dX9_isConnected_41 : decode cX9_isConnected 41 = .ok (.aload_n 0, 1) := by decide +kernel
theorem dX9_isConnected_42 : decode cX9_isConnected 42 = .ok (.getfield 25, 3) := by decide +kernel
theorem dX9_isConnected_45 : decode cX9_isConnected 45 = .ok (.iload_n 2, 1) := by decide +kernel
theorem dX9_isConnected_46 : decode cX9_isConnected 46 = .ok (.iaload, 1) := by decide +kernel
theorem dX9_isConnected_47 : decode cX9_isConnected 47 = .ok (.if_icmp .ne 7, 3) := by decide +kernel
theorem dX9_isConnected_50 : decode cX9_isConnected 50 = .ok (.iconst 1, 1) := by decide +kernel
theorem dX9_isConnected_51 : decode cX9_isConnected 51 = .ok (.goto 4, 3) := by decide +kernel
theorem dX9_isConnected_54 : decode cX9_isConnected 54 = .ok (.iconst 0, 1) := by decide +kernel
theorem dX9_isConnected_55 : decode cX9_isConnected 55 = .ok (.ireturn, 1) := by decide +kernel
theorem dX9_isConnectedByWalk_0 : decode cX9_isConnectedByWalk 0 = .ok (.aload_n 0, 1) := by decide +kernel
theorem dX9_isConnectedByWalk_1 : decode cX9_isConnectedByWalk 1 = .ok (.iload_n 1, 1) := by decide +kernel
theorem dX9_isConnectedByWalk_2 : decode cX9_isConnectedByWalk 2 = .ok (.iload_n 2, 1) := by decide +kernel
theorem dX9_isConnectedByWalk_3 : decode cX9_isConnectedByWalk 3 = .ok (.invokevirtual 111, 3) := by decide +kernel
theorem dX9_isConnectedByWalk_6 : decode cX9_isConnectedByWalk 6 = .ok (.ireturn, 1) := by decide +kernel
theorem dX9_replacement_0 : decode cX9_replacement 0 = .ok (.aload_n 0, 1) := by decide +kernel
theorem dX9_replacement_1 : decode cX9_replacement 1 = .ok (.iconst 0, 1) := by decide +kernel
theorem dX9_replacement_2 : decode cX9_replacement 2 = .ok (.putfield 53, 3) := by decide +kernel
theorem dX9_replacement_5 : decode cX9_replacement 5 = .ok (.aload_n 0, 1) := by decide +kernel
theorem dX9_replacement_6 : decode cX9_replacement 6 = .ok (.iload_n 1, 1) := by decide +kernel
theorem dX9_replacement_7 : decode cX9_replacement 7 = .ok (.invokevirtual 88, 3) := by decide +kernel
theorem dX9_replacement_10 : decode cX9_replacement 10 = .ok (.ifCond .ne 9, 3) := by decide +kernel
theorem dX9_replacement_13 : decode cX9_replacement 13 = .ok (.aload_n 0, 1) := by decide +kernel
theorem dX9_replacement_14 : decode cX9_replacement 14 = .ok (.iconst 1, 1) := by decide +kernel
theorem dX9_replacement_15 : decode cX9_replacement 15 = .ok (.invokevirtual 78, 3) := by decide +kernel
theorem dX9_replacement_18 : decode cX9_replacement 18 = .ok (.ireturn, 1) := by decide +kernel
theorem dX9_replacement_19 : decode cX9_replacement 19 = .ok (.aload_n 0, 1) := by decide +kernel
theorem dX9_replacement_20 : decode cX9_replacement 20 = .ok (.getfield 32, 3) := by decide +kernel
theorem dX9_replacement_23 : decode cX9_replacement 23 = .ok (.iload_n 1, 1) := by decide +kernel
theorem dX9_replacement_24 : decode cX9_replacement 24 = .ok (.baload, 1) := by decide +kernel
theorem dX9_replacement_25 : decode cX9_replacement 25 = .ok (.ifCond .ne 9, 3) := by decide +kernel
theorem dX9_replacement_28 : decode cX9_replacement 28 = .ok (.aload_n 0, 1) := by decide +kernel
theorem dX9_replacement_29 : decode cX9_replacement 29 = .ok (.iconst 2, 1) := by decide +kernel
theorem dX9_replacement_30 : decode cX9_replacement 30 = .ok (.invokevirtual 78, 3) := by decide +kernel
theorem dX9_replacement_33 : decode cX9_replacement 33 = .ok (.ireturn, 1) := by decide +kernel
theorem dX9_replacement_34 : decode cX9_replacement 34 = .ok (.aload_n 0, 1) := by decide +kernel
theorem dX9_replacement_35 : decode cX9_replacement 35 = .ok (.iload_n 1, 1) := by decide +kernel
theorem dX9_replacement_36 : decode cX9_replacement 36 = .ok (.invokevirtual 91, 3) := by decide +kernel
theorem dX9_replacement_39 : decode cX9_replacement 39 = .ok (.istore_n 2, 1) := by decide +kernel
theorem dX9_replacement_40 : decode cX9_replacement 40 = .ok (.iload_n 2, 1) := by decide +kernel
theorem dX9_replacement_41 : decode cX9_replacement 41 = .ok (.ifCond .ge 11, 3) := by decide +kernel
theorem dX9_replacement_44 : decode cX9_replacement 44 = .ok (.aload_n 0, 1) := by decide +kernel
theorem dX9_replacement_45 : decode cX9_replacement 45 = .ok (.iconst 3, 1) := by decide +kernel
theorem dX9_replacement_46 : decode cX9_replacement 46 = .ok (.invokevirtual 78, 3) := by decide +kernel
theorem dX9_replacement_49 : decode cX9_replacement 49 = .ok (.goto 4, 3) := by decide +kernel
theorem dX9_replacement_52 : decode cX9_replacement 52 = .ok (.iload_n 2, 1) := by decide +kernel
theorem dX9_replacement_53 : decode cX9_replacement 53 = .ok (.ireturn, 1) := by decide +kernel
theorem dX9_replacementAnew_0 : decode cX9_replacementAnew 0 = .ok (.aload_n 0, 1) := by decide +kernel
theorem dX9_replacementAnew_1 : decode cX9_replacementAnew 1 = .ok (.iload_n 1, 1) := by decide +kernel
theorem dX9_replacementAnew_2 : decode cX9_replacementAnew 2 = .ok (.invokevirtual 114, 3) := by decide +kernel
theorem dX9_replacementAnew_5 : decode cX9_replacementAnew 5 = .ok (.ireturn, 1) := by decide +kernel
theorem dX9_pathVertices_0 : decode cX9_pathVertices 0 = .ok (.aload_n 0, 1) := by decide +kernel
theorem dX9_pathVertices_1 : decode cX9_pathVertices 1 = .ok (.iload_n 2, 1) := by decide +kernel
theorem dX9_pathVertices_2 : decode cX9_pathVertices 2 = .ok (.iload_n 1, 1) := by decide +kernel
theorem dX9_pathVertices_3 : decode cX9_pathVertices 3 = .ok (.invokevirtual 117, 3) := by decide +kernel
theorem dX9_pathVertices_6 : decode cX9_pathVertices 6 = .ok (.ifCond .eq 7, 3) := by decide +kernel
theorem dX9_pathVertices_9 : decode cX9_pathVertices 9 = .ok (.iconst 0, 1) := by decide +kernel
theorem dX9_pathVertices_10 : decode cX9_pathVertices 10 = .ok (.goto 11, 3) := by decide +kernel
theorem dX9_pathVertices_13 : decode cX9_pathVertices 13 = .ok (.aload_n 0, 1) := by decide +kernel
theorem dX9_pathVertices_14 : decode cX9_pathVertices 14 = .ok (.getfield 41, 3) := by decide +kernel
theorem dX9_pathVertices_17 : decode cX9_pathVertices 17 = .ok (.iload_n 1, 1) := by decide +kernel
theorem dX9_pathVertices_18 : decode cX9_pathVertices 18 = .ok (.iaload, 1) := by decide +kernel
theorem dX9_pathVertices_19 : decode cX9_pathVertices 19 = .ok (.iconst 1, 1) := by decide +kernel
theorem dX9_pathVertices_20 : decode cX9_pathVertices 20 = .ok (.iadd, 1) := by decide +kernel
theorem dX9_pathVertices_21 : decode cX9_pathVertices 21 = .ok (.ireturn, 1) := by decide +kernel
theorem dX9_pathVertex_0 : decode cX9_pathVertex 0 = .ok (.aload_n 0, 1) := by decide +kernel
theorem dX9_pathVertex_1 : decode cX9_pathVertex 1 = .ok (.iload_n 2, 1) := by decide +kernel
theorem dX9_pathVertex_2 : decode cX9_pathVertex 2 = .ok (.iload_n 1, 1) := by decide +kernel
theorem dX9_pathVertex_3 : decode cX9_pathVertex 3 = .ok (.invokevirtual 117, 3) := by decide +kernel
theorem dX9_pathVertex_6 : decode cX9_pathVertex 6 = .ok (.ifCond .eq 5, 3) := by decide +kernel
theorem dX9_pathVertex_9 : decode cX9_pathVertex 9 = .ok (.iconst 0, 1) := by decide +kernel
theorem dX9_pathVertex_10 : decode cX9_pathVertex 10 = .ok (.ireturn, 1) := by decide +kernel
theorem dX9_pathVertex_11 : decode cX9_pathVertex 11 = .ok (.iload_n 3, 1) := by decide +kernel
theorem dX9_pathVertex_12 : decode cX9_pathVertex 12 = .ok (.iconst 0, 1) := by decide +kernel
theorem dX9_pathVertex_13 : decode cX9_pathVertex 13 = .ok (.aload_n 0, 1) := by decide +kernel
theorem dX9_pathVertex_14 : decode cX9_pathVertex 14 = .ok (.getfield 41, 3) := by decide +kernel
theorem dX9_pathVertex_17 : decode cX9_pathVertex 17 = .ok (.iload_n 1, 1) := by decide +kernel
theorem dX9_pathVertex_18 : decode cX9_pathVertex 18 = .ok (.iaload, 1) := by decide +kernel
theorem dX9_pathVertex_19 : decode cX9_pathVertex 19 = .ok (.invokestatic 60, 3) := by decide +kernel
theorem dX9_pathVertex_22 : decode cX9_pathVertex 22 = .ok (.ifCond .ne 9, 3) := by decide +kernel
theorem dX9_pathVertex_25 : decode cX9_pathVertex 25 = .ok (.aload_n 0, 1) := by decide +kernel
theorem dX9_pathVertex_26 : decode cX9_pathVertex 26 = .ok (.iconst 3, 1) := by decide +kernel
theorem dX9_pathVertex_27 : decode cX9_pathVertex 27 = .ok (.invokevirtual 78, 3) := by decide +kernel
theorem dX9_pathVertex_30 : decode cX9_pathVertex 30 = .ok (.ireturn, 1) := by decide +kernel
theorem dX9_pathVertex_31 : decode cX9_pathVertex 31 = .ok (.iload_n 1, 1) := by decide +kernel
theorem dX9_pathVertex_32 : decode cX9_pathVertex 32 = .ok (.istore 4, 2) := by decide +kernel
theorem dX9_pathVertex_34 : decode cX9_pathVertex 34 = .ok (.iconst 0, 1) := by decide +kernel
theorem dX9_pathVertex_35 : decode cX9_pathVertex 35 = .ok (.istore 5, 2) := by decide +kernel
theorem dX9_pathVertex_37 : decode cX9_pathVertex 37 = .ok (.iload 5, 2) := by decide +kernel
theorem dX9_pathVertex_39 : decode cX9_pathVertex 39 = .ok (.iload_n 3, 1) := by decide +kernel
theorem dX9_pathVertex_40 : decode cX9_pathVertex 40 = .ok (.if_icmp .ge 18, 3) := by decide +kernel
theorem dX9_pathVertex_43 : decode cX9_pathVertex 43 = .ok (.aload_n 0, 1) := by decide +kernel
theorem dX9_pathVertex_44 : decode cX9_pathVertex 44 = .ok (.getfield 38, 3) := by decide +kernel
theorem dX9_pathVertex_47 : decode cX9_pathVertex 47 = .ok (.iload 4, 2) := by decide +kernel
theorem dX9_pathVertex_49 : decode cX9_pathVertex 49 = .ok (.iaload, 1) := by decide +kernel
theorem dX9_pathVertex_50 : decode cX9_pathVertex 50 = .ok (.istore 4, 2) := by decide +kernel
theorem dX9_pathVertex_52 : decode cX9_pathVertex 52 = .ok (.iinc 5 1, 3) := by decide +kernel
theorem dX9_pathVertex_55 : decode cX9_pathVertex 55 = .ok (.goto (-18), 3) := by decide +kernel
theorem dX9_pathVertex_58 : decode cX9_pathVertex 58 = .ok (.iload 4, 2) := by decide +kernel
theorem dX9_pathVertex_60 : decode cX9_pathVertex 60 = .ok (.ireturn, 1) := by decide +kernel
theorem dX9_pathSum_0 : decode cX9_pathSum 0 = .ok (.aload_n 0, 1) := by decide +kernel
theorem dX9_pathSum_1 : decode cX9_pathSum 1 = .ok (.iload_n 2, 1) := by decide +kernel
theorem dX9_pathSum_2 : decode cX9_pathSum 2 = .ok (.iload_n 1, 1) := by decide +kernel
theorem dX9_pathSum_3 : decode cX9_pathSum 3 = .ok (.invokevirtual 117, 3) := by decide +kernel
theorem dX9_pathSum_6 : decode cX9_pathSum 6 = .ok (.ifCond .eq 5, 3) := by decide +kernel
theorem dX9_pathSum_9 : decode cX9_pathSum 9 = .ok (.iconst 0, 1) := by decide +kernel
theorem dX9_pathSum_10 : decode cX9_pathSum 10 = .ok (.ireturn, 1) := by decide +kernel
theorem dX9_pathSum_11 : decode cX9_pathSum 11 = .ok (.iconst 0, 1) := by decide +kernel
theorem dX9_pathSum_12 : decode cX9_pathSum 12 = .ok (.istore_n 3, 1) := by decide +kernel
theorem dX9_pathSum_13 : decode cX9_pathSum 13 = .ok (.iload_n 1, 1) := by decide +kernel
theorem dX9_pathSum_14 : decode cX9_pathSum 14 = .ok (.istore 4, 2) := by decide +kernel
theorem dX9_pathSum_16 : decode cX9_pathSum 16 = .ok (.iload 4, 2) := by decide +kernel
theorem dX9_pathSum_18 : decode cX9_pathSum 18 = .ok (.iconst (-1), 1) := by decide +kernel
theorem dX9_pathSum_19 : decode cX9_pathSum 19 = .ok (.if_icmp .eq 25, 3) := by decide +kernel
theorem dX9_pathSum_22 : decode cX9_pathSum 22 = .ok (.iload_n 3, 1) := by decide +kernel
theorem dX9_pathSum_23 : decode cX9_pathSum 23 = .ok (.aload_n 0, 1) := by decide +kernel
theorem dX9_pathSum_24 : decode cX9_pathSum 24 = .ok (.getfield 9, 3) := by decide +kernel
theorem dX9_pathSum_27 : decode cX9_pathSum 27 = .ok (.iload 4, 2) := by decide +kernel
theorem dX9_pathSum_29 : decode cX9_pathSum 29 = .ok (.iaload, 1) := by decide +kernel
theorem dX9_pathSum_30 : decode cX9_pathSum 30 = .ok (.iadd, 1) := by decide +kernel
theorem dX9_pathSum_31 : decode cX9_pathSum 31 = .ok (.istore_n 3, 1) := by decide +kernel
theorem dX9_pathSum_32 : decode cX9_pathSum 32 = .ok (.aload_n 0, 1) := by decide +kernel
theorem dX9_pathSum_33 : decode cX9_pathSum 33 = .ok (.getfield 38, 3) := by decide +kernel
theorem dX9_pathSum_36 : decode cX9_pathSum 36 = .ok (.iload 4, 2) := by decide +kernel
theorem dX9_pathSum_38 : decode cX9_pathSum 38 = .ok (.iaload, 1) := by decide +kernel
theorem dX9_pathSum_39 : decode cX9_pathSum 39 = .ok (.istore 4, 2) := by decide +kernel
theorem dX9_pathSum_41 : decode cX9_pathSum 41 = .ok (.goto (-25), 3) := by decide +kernel
theorem dX9_pathSum_44 : decode cX9_pathSum 44 = .ok (.iload_n 3, 1) := by decide +kernel
theorem dX9_pathSum_45 : decode cX9_pathSum 45 = .ok (.ireturn, 1) := by decide +kernel
theorem dX9_pathSumByHeavyPaths_0 : decode cX9_pathSumByHeavyPaths 0 = .ok (.aload_n 0, 1) := by decide +kernel
theorem dX9_pathSumByHeavyPaths_1 : decode cX9_pathSumByHeavyPaths 1 = .ok (.iload_n 1, 1) := by decide +kernel
theorem dX9_pathSumByHeavyPaths_2 : decode cX9_pathSumByHeavyPaths 2 = .ok (.iload_n 2, 1) := by decide +kernel
theorem dX9_pathSumByHeavyPaths_3 : decode cX9_pathSumByHeavyPaths 3 = .ok (.invokevirtual 120, 3) := by decide +kernel
theorem dX9_pathSumByHeavyPaths_6 : decode cX9_pathSumByHeavyPaths 6 = .ok (.ireturn, 1) := by decide +kernel
theorem dX9_pathSumByWalk_0 : decode cX9_pathSumByWalk 0 = .ok (.aload_n 0, 1) := by decide +kernel
theorem dX9_pathSumByWalk_1 : decode cX9_pathSumByWalk 1 = .ok (.iload_n 1, 1) := by decide +kernel
theorem dX9_pathSumByWalk_2 : decode cX9_pathSumByWalk 2 = .ok (.iload_n 2, 1) := by decide +kernel
theorem dX9_pathSumByWalk_3 : decode cX9_pathSumByWalk 3 = .ok (.invokevirtual 120, 3) := by decide +kernel
theorem dX9_pathSumByWalk_6 : decode cX9_pathSumByWalk 6 = .ok (.ireturn, 1) := by decide +kernel
theorem dX9_between_0 : decode cX9_between 0 = .ok (.iconst (-1), 1) := by decide +kernel
theorem dX9_between_1 : decode cX9_between 1 = .ok (.istore_n 3, 1) := by decide +kernel
theorem dX9_between_2 : decode cX9_between 2 = .ok (.iconst 0, 1) := by decide +kernel
theorem dX9_between_3 : decode cX9_between 3 = .ok (.istore 4, 2) := by decide +kernel
theorem dX9_between_5 : decode cX9_between 5 = .ok (.iload 4, 2) := by decide +kernel
theorem dX9_between_7 : decode cX9_between 7 = .ok (.aload_n 0, 1) := by decide +kernel
theorem dX9_between_8 : decode cX9_between 8 = .ok (.getfield 64, 3) := by decide +kernel
theorem dX9_between_11 : decode cX9_between 11 = .ok (.if_icmp .ge 33, 3) := by decide +kernel
theorem dX9_between_14 : decode cX9_between 14 = .ok (.aload_n 0, 1) := by decide +kernel
theorem dX9_between_15 : decode cX9_between 15 = .ok (.getfield 32, 3) := by decide +kernel
theorem dX9_between_18 : decode cX9_between 18 = .ok (.iload 4, 2) := by decide +kernel
theorem dX9_between_20 : decode cX9_between 20 = .ok (.baload, 1) := by decide +kernel
theorem dX9_between_21 : decode cX9_between 21 = .ok (.ifCond .eq 17, 3) := by decide +kernel
theorem dX9_between_24 : decode cX9_between 24 = .ok (.aload_n 0, 1) := by decide +kernel
theorem dX9_between_25 : decode cX9_between 25 = .ok (.iload 4, 2) := by decide +kernel
theorem dX9_between_27 : decode cX9_between 27 = .ok (.iload_n 1, 1) := by decide +kernel
theorem dX9_between_28 : decode cX9_between 28 = .ok (.iload_n 2, 1) := by decide +kernel
theorem dX9_between_29 : decode cX9_between 29 = .ok (.invokevirtual 101, 3) := by decide +kernel
theorem dX9_between_32 : decode cX9_between 32 = .ok (.ifCond .eq 6, 3) := by decide +kernel
theorem dX9_between_35 : decode cX9_between 35 = .ok (.iload 4, 2) := by decide +kernel
theorem dX9_between_37 : decode cX9_between 37 = .ok (.istore_n 3, 1) := by decide +kernel
theorem dX9_between_38 : decode cX9_between 38 = .ok (.iinc 4 1, 3) := by decide +kernel
theorem dX9_between_41 : decode cX9_between 41 = .ok (.goto (-36), 3) := by decide +kernel
theorem dX9_between_44 : decode cX9_between 44 = .ok (.iload_n 3, 1) := by decide +kernel
theorem dX9_between_45 : decode cX9_between 45 = .ok (.ireturn, 1) := by decide +kernel
theorem dX9_last_0 : decode cX9_last 0 = .ok (.aload_n 0, 1) := by decide +kernel
theorem dX9_last_1 : decode cX9_last 1 = .ok (.iload_n 2, 1) := by decide +kernel
theorem dX9_last_2 : decode cX9_last 2 = .ok (.iload_n 1, 1) := by decide +kernel
theorem dX9_last_3 : decode cX9_last 3 = .ok (.invokevirtual 117, 3) := by decide +kernel
theorem dX9_last_6 : decode cX9_last 6 = .ok (.ifCond .eq 5, 3) := by decide +kernel
theorem dX9_last_9 : decode cX9_last 9 = .ok (.iconst 0, 1) := by decide +kernel
theorem dX9_last_10 : decode cX9_last 10 = .ok (.ireturn, 1) := by decide +kernel
theorem dX9_last_11 : decode cX9_last 11 = .ok (.iload_n 1, 1) := by decide +kernel
theorem dX9_last_12 : decode cX9_last 12 = .ok (.iload_n 2, 1) := by decide +kernel
theorem dX9_last_13 : decode cX9_last 13 = .ok (.if_icmp .ne 9, 3) := by decide +kernel
theorem dX9_last_16 : decode cX9_last 16 = .ok (.aload_n 0, 1) := by decide +kernel
theorem dX9_last_17 : decode cX9_last 17 = .ok (.iconst 3, 1) := by decide +kernel
theorem dX9_last_18 : decode cX9_last 18 = .ok (.invokevirtual 78, 3) := by decide +kernel
theorem dX9_last_21 : decode cX9_last 21 = .ok (.ireturn, 1) := by decide +kernel
theorem dX9_last_22 : decode cX9_last 22 = .ok (.iconst (-1), 1) := by decide +kernel
theorem dX9_last_23 : decode cX9_last 23 = .ok (.istore_n 3, 1) := by decide +kernel
theorem dX9_last_24 : decode cX9_last 24 = .ok (.iload_n 1, 1) := by decide +kernel
theorem dX9_last_25 : decode cX9_last 25 = .ok (.istore 4, 2) := by decide +kernel
theorem dX9_last_27 : decode cX9_last 27 = .ok (.iload 4, 2) := by decide +kernel
theorem dX9_last_29 : decode cX9_last 29 = .ok (.iload_n 2, 1) := by decide +kernel
theorem dX9_last_30 : decode cX9_last 30 = .ok (.if_icmp .eq 47, 3) := by decide +kernel
theorem dX9_last_33 : decode cX9_last 33 = .ok (.aload_n 0, 1) := by decide +kernel
theorem dX9_last_34 : decode cX9_last 34 = .ok (.iload 4, 2) := by decide +kernel
theorem dX9_last_36 : decode cX9_last 36 = .ok (.aload_n 0, 1) := by decide +kernel
theorem dX9_last_37 : decode cX9_last 37 = .ok (.getfield 38, 3) := by decide +kernel
theorem dX9_last_40 : decode cX9_last 40 = .ok (.iload 4, 2) := by decide +kernel
theorem dX9_last_42 : decode cX9_last 42 = .ok (.iaload, 1) := by decide +kernel
theorem dX9_last_43 : decode cX9_last 43 = .ok (.invokevirtual 124, 3) := by decide +kernel
theorem dX9_last_46 : decode cX9_last 46 = .ok (.istore 5, 2) := by decide +kernel
theorem dX9_last_48 : decode cX9_last 48 = .ok (.iload_n 3, 1) := by decide +kernel
theorem dX9_last_49 : decode cX9_last 49 = .ok (.ifCond .lt 13, 3) := by decide +kernel
theorem dX9_last_52 : decode cX9_last 52 = .ok (.aload_n 0, 1) := by decide +kernel
theorem dX9_last_53 : decode cX9_last 53 = .ok (.iload_n 3, 1) := by decide +kernel
theorem dX9_last_54 : decode cX9_last 54 = .ok (.iload 5, 2) := by decide +kernel
theorem dX9_last_56 : decode cX9_last 56 = .ok (.invokevirtual 67, 3) := by decide +kernel
theorem dX9_last_59 : decode cX9_last 59 = .ok (.ifCond .eq 6, 3) := by decide +kernel
theorem dX9_last_62 : decode cX9_last 62 = .ok (.iload 5, 2) := by decide +kernel
theorem dX9_last_64 : decode cX9_last 64 = .ok (.istore_n 3, 1) := by decide +kernel
theorem dX9_last_65 : decode cX9_last 65 = .ok (.aload_n 0, 1) := by decide +kernel
theorem dX9_last_66 : decode cX9_last 66 = .ok (.getfield 38, 3) := by decide +kernel
theorem dX9_last_69 : decode cX9_last 69 = .ok (.iload 4, 2) := by decide +kernel
theorem dX9_last_71 : decode cX9_last 71 = .ok (.iaload, 1) := by decide +kernel
theorem dX9_last_72 : decode cX9_last 72 = .ok (.istore 4, 2) := by decide +kernel
theorem dX9_last_74 : decode cX9_last 74 = .ok (.goto (-47), 3) := by decide +kernel
theorem dX9_last_77 : decode cX9_last 77 = .ok (.iload_n 3, 1) := by decide +kernel
theorem dX9_last_78 : decode cX9_last 78 = .ok (.ireturn, 1) := by decide +kernel
theorem dX9_lastByWalk_0 : decode cX9_lastByWalk 0 = .ok (.aload_n 0, 1) := by decide +kernel
theorem dX9_lastByWalk_1 : decode cX9_lastByWalk 1 = .ok (.iload_n 1, 1) := by decide +kernel
theorem dX9_lastByWalk_2 : decode cX9_lastByWalk 2 = .ok (.iload_n 2, 1) := by decide +kernel
theorem dX9_lastByWalk_3 : decode cX9_lastByWalk 3 = .ok (.invokevirtual 127, 3) := by decide +kernel
theorem dX9_lastByWalk_6 : decode cX9_lastByWalk 6 = .ok (.ireturn, 1) := by decide +kernel
theorem dX9_mean_0 : decode cX9_mean 0 = .ok (.aload_n 0, 1) := by decide +kernel
theorem dX9_mean_1 : decode cX9_mean 1 = .ok (.iload_n 1, 1) := by decide +kernel
theorem dX9_mean_2 : decode cX9_mean 2 = .ok (.iload_n 2, 1) := by decide +kernel
theorem dX9_mean_3 : decode cX9_mean 3 = .ok (.invokevirtual 120, 3) := by decide +kernel
theorem dX9_mean_6 : decode cX9_mean 6 = .ok (.istore_n 3, 1) := by decide +kernel
theorem dX9_mean_7 : decode cX9_mean 7 = .ok (.aload_n 0, 1) := by decide +kernel
theorem dX9_mean_8 : decode cX9_mean 8 = .ok (.getfield 53, 3) := by decide +kernel
theorem dX9_mean_11 : decode cX9_mean 11 = .ok (.ifCond .le 5, 3) := by decide +kernel
theorem dX9_mean_14 : decode cX9_mean 14 = .ok (.fconst 0, 1) := by decide +kernel
theorem dX9_mean_15 : decode cX9_mean 15 = .ok (.freturn, 1) := by decide +kernel
theorem dX9_mean_16 : decode cX9_mean 16 = .ok (.iload_n 3, 1) := by decide +kernel
theorem dX9_mean_17 : decode cX9_mean 17 = .ok (.i2f, 1) := by decide +kernel
theorem dX9_mean_18 : decode cX9_mean 18 = .ok (.aload_n 0, 1) := by decide +kernel
theorem dX9_mean_19 : decode cX9_mean 19 = .ok (.iload_n 1, 1) := by decide +kernel
theorem dX9_mean_20 : decode cX9_mean 20 = .ok (.iload_n 2, 1) := by decide +kernel
theorem dX9_mean_21 : decode cX9_mean 21 = .ok (.invokevirtual 130, 3) := by decide +kernel
theorem dX9_mean_24 : decode cX9_mean 24 = .ok (.i2f, 1) := by decide +kernel
theorem dX9_mean_25 : decode cX9_mean 25 = .ok (.fdiv, 1) := by decide +kernel
theorem dX9_mean_26 : decode cX9_mean 26 = .ok (.freturn, 1) := by decide +kernel
theorem dX9_parent_0 : decode cX9_parent 0 = .ok (.aload_n 0, 1) := by decide +kernel
theorem dX9_parent_1 : decode cX9_parent 1 = .ok (.iload_n 1, 1) := by decide +kernel
theorem dX9_parent_2 : decode cX9_parent 2 = .ok (.iload_n 2, 1) := by decide +kernel
theorem dX9_parent_3 : decode cX9_parent 3 = .ok (.invokevirtual 117, 3) := by decide +kernel
theorem dX9_parent_6 : decode cX9_parent 6 = .ok (.ifCond .eq 5, 3) := by decide +kernel
theorem dX9_parent_9 : decode cX9_parent 9 = .ok (.iconst 0, 1) := by decide +kernel
theorem dX9_parent_10 : decode cX9_parent 10 = .ok (.ireturn, 1) := by decide +kernel
theorem dX9_parent_11 : decode cX9_parent 11 = .ok (.iload_n 2, 1) := by decide +kernel
theorem dX9_parent_12 : decode cX9_parent 12 = .ok (.iload_n 1, 1) := by decide +kernel
theorem dX9_parent_13 : decode cX9_parent 13 = .ok (.if_icmp .ne 11, 3) := by decide +kernel
theorem dX9_parent_16 : decode cX9_parent 16 = .ok (.aload_n 0, 1) := by decide +kernel
theorem dX9_parent_17 : decode cX9_parent 17 = .ok (.iconst 3, 1) := by decide +kernel
theorem dX9_parent_18 : decode cX9_parent 18 = .ok (.invokevirtual 78, 3) := by decide +kernel
theorem dX9_parent_21 : decode cX9_parent 21 = .ok (.goto 9, 3) := by decide +kernel
theorem dX9_parent_24 : decode cX9_parent 24 = .ok (.aload_n 0, 1) := by decide +kernel
theorem dX9_parent_25 : decode cX9_parent 25 = .ok (.getfield 38, 3) := by decide +kernel
theorem dX9_parent_28 : decode cX9_parent 28 = .ok (.iload_n 2, 1) := by decide +kernel
theorem dX9_parent_29 : decode cX9_parent 29 = .ok (.iaload, 1) := by decide +kernel
theorem dX9_parent_30 : decode cX9_parent 30 = .ok (.ireturn, 1) := by decide +kernel
theorem dX9_depth_0 : decode cX9_depth 0 = .ok (.aload_n 0, 1) := by decide +kernel
theorem dX9_depth_1 : decode cX9_depth 1 = .ok (.iload_n 1, 1) := by decide +kernel
theorem dX9_depth_2 : decode cX9_depth 2 = .ok (.iload_n 2, 1) := by decide +kernel
theorem dX9_depth_3 : decode cX9_depth 3 = .ok (.invokevirtual 117, 3) := by decide +kernel
theorem dX9_depth_6 : decode cX9_depth 6 = .ok (.ifCond .eq 7, 3) := by decide +kernel
theorem dX9_depth_9 : decode cX9_depth 9 = .ok (.iconst 0, 1) := by decide +kernel
theorem dX9_depth_10 : decode cX9_depth 10 = .ok (.goto 9, 3) := by decide +kernel
theorem dX9_depth_13 : decode cX9_depth 13 = .ok (.aload_n 0, 1) := by decide +kernel
theorem dX9_depth_14 : decode cX9_depth 14 = .ok (.getfield 41, 3) := by decide +kernel
theorem dX9_depth_17 : decode cX9_depth 17 = .ok (.iload_n 2, 1) := by decide +kernel
theorem dX9_depth_18 : decode cX9_depth 18 = .ok (.iaload, 1) := by decide +kernel
theorem dX9_depth_19 : decode cX9_depth 19 = .ok (.ireturn, 1) := by decide +kernel
theorem dX9_ancestor_0 : decode cX9_ancestor 0 = .ok (.aload_n 0, 1) := by decide +kernel
theorem dX9_ancestor_1 : decode cX9_ancestor 1 = .ok (.iload_n 1, 1) := by decide +kernel
theorem dX9_ancestor_2 : decode cX9_ancestor 2 = .ok (.iload_n 2, 1) := by decide +kernel
theorem dX9_ancestor_3 : decode cX9_ancestor 3 = .ok (.invokevirtual 117, 3) := by decide +kernel
theorem dX9_ancestor_6 : decode cX9_ancestor 6 = .ok (.ifCond .eq 5, 3) := by decide +kernel
theorem dX9_ancestor_9 : decode cX9_ancestor 9 = .ok (.iconst 0, 1) := by decide +kernel
theorem dX9_ancestor_10 : decode cX9_ancestor 10 = .ok (.ireturn, 1) := by decide +kernel
theorem dX9_ancestor_11 : decode cX9_ancestor 11 = .ok (.iload_n 3, 1) := by decide +kernel
theorem dX9_ancestor_12 : decode cX9_ancestor 12 = .ok (.iconst 0, 1) := by decide +kernel
theorem dX9_ancestor_13 : decode cX9_ancestor 13 = .ok (.aload_n 0, 1) := by decide +kernel
theorem dX9_ancestor_14 : decode cX9_ancestor 14 = .ok (.getfield 41, 3) := by decide +kernel
theorem dX9_ancestor_17 : decode cX9_ancestor 17 = .ok (.iload_n 2, 1) := by decide +kernel
theorem dX9_ancestor_18 : decode cX9_ancestor 18 = .ok (.iaload, 1) := by decide +kernel
theorem dX9_ancestor_19 : decode cX9_ancestor 19 = .ok (.invokestatic 60, 3) := by decide +kernel
theorem dX9_ancestor_22 : decode cX9_ancestor 22 = .ok (.ifCond .ne 9, 3) := by decide +kernel
theorem dX9_ancestor_25 : decode cX9_ancestor 25 = .ok (.aload_n 0, 1) := by decide +kernel
theorem dX9_ancestor_26 : decode cX9_ancestor 26 = .ok (.iconst 3, 1) := by decide +kernel
theorem dX9_ancestor_27 : decode cX9_ancestor 27 = .ok (.invokevirtual 78, 3) := by decide +kernel
theorem dX9_ancestor_30 : decode cX9_ancestor 30 = .ok (.ireturn, 1) := by decide +kernel
theorem dX9_ancestor_31 : decode cX9_ancestor 31 = .ok (.iload_n 2, 1) := by decide +kernel
theorem dX9_ancestor_32 : decode cX9_ancestor 32 = .ok (.istore 4, 2) := by decide +kernel
theorem dX9_ancestor_34 : decode cX9_ancestor 34 = .ok (.iconst 0, 1) := by decide +kernel
theorem dX9_ancestor_35 : decode cX9_ancestor 35 = .ok (.istore 5, 2) := by decide +kernel
theorem dX9_ancestor_37 : decode cX9_ancestor 37 = .ok (.iload 5, 2) := by decide +kernel
theorem dX9_ancestor_39 : decode cX9_ancestor 39 = .ok (.iload_n 3, 1) := by decide +kernel
theorem dX9_ancestor_40 : decode cX9_ancestor 40 = .ok (.if_icmp .ge 18, 3) := by decide +kernel
theorem dX9_ancestor_43 : decode cX9_ancestor 43 = .ok (.aload_n 0, 1) := by decide +kernel
theorem dX9_ancestor_44 : decode cX9_ancestor 44 = .ok (.getfield 38, 3) := by decide +kernel
theorem dX9_ancestor_47 : decode cX9_ancestor 47 = .ok (.iload 4, 2) := by decide +kernel
theorem dX9_ancestor_49 : decode cX9_ancestor 49 = .ok (.iaload, 1) := by decide +kernel
theorem dX9_ancestor_50 : decode cX9_ancestor 50 = .ok (.istore 4, 2) := by decide +kernel
theorem dX9_ancestor_52 : decode cX9_ancestor 52 = .ok (.iinc 5 1, 3) := by decide +kernel
theorem dX9_ancestor_55 : decode cX9_ancestor 55 = .ok (.goto (-18), 3) := by decide +kernel
theorem dX9_ancestor_58 : decode cX9_ancestor 58 = .ok (.iload 4, 2) := by decide +kernel
theorem dX9_ancestor_60 : decode cX9_ancestor 60 = .ok (.ireturn, 1) := by decide +kernel
theorem dX9_ancestorByWalk_0 : decode cX9_ancestorByWalk 0 = .ok (.aload_n 0, 1) := by decide +kernel
theorem dX9_ancestorByWalk_1 : decode cX9_ancestorByWalk 1 = .ok (.iload_n 1, 1) := by decide +kernel
theorem dX9_ancestorByWalk_2 : decode cX9_ancestorByWalk 2 = .ok (.iload_n 2, 1) := by decide +kernel
theorem dX9_ancestorByWalk_3 : decode cX9_ancestorByWalk 3 = .ok (.iload_n 3, 1) := by decide +kernel
theorem dX9_ancestorByWalk_4 : decode cX9_ancestorByWalk 4 = .ok (.invokevirtual 133, 3) := by decide +kernel
theorem dX9_ancestorByWalk_7 : decode cX9_ancestorByWalk 7 = .ok (.ireturn, 1) := by decide +kernel
theorem dX9_common_0 : decode cX9_common 0 = .ok (.aload_n 0, 1) := by decide +kernel
theorem dX9_common_1 : decode cX9_common 1 = .ok (.iconst 0, 1) := by decide +kernel
theorem dX9_common_2 : decode cX9_common 2 = .ok (.putfield 53, 3) := by decide +kernel
theorem dX9_common_5 : decode cX9_common 5 = .ok (.aload_n 0, 1) := by decide +kernel
theorem dX9_common_6 : decode cX9_common 6 = .ok (.iload_n 1, 1) := by decide +kernel
theorem dX9_common_7 : decode cX9_common 7 = .ok (.invokevirtual 84, 3) := by decide +kernel
theorem dX9_common_10 : decode cX9_common 10 = .ok (.ifCond .eq 19, 3) := by decide +kernel
theorem dX9_common_13 : decode cX9_common 13 = .ok (.aload_n 0, 1) := by decide +kernel
theorem dX9_common_14 : decode cX9_common 14 = .ok (.iload_n 2, 1) := by decide +kernel
theorem dX9_common_15 : decode cX9_common 15 = .ok (.invokevirtual 84, 3) := by decide +kernel
theorem dX9_common_18 : decode cX9_common 18 = .ok (.ifCond .eq 11, 3) := by decide +kernel
theorem dX9_common_21 : decode cX9_common 21 = .ok (.aload_n 0, 1) := by decide +kernel
theorem dX9_common_22 : decode cX9_common 22 = .ok (.iload_n 3, 1) := by decide +kernel
theorem dX9_common_23 : decode cX9_common 23 = .ok (.invokevirtual 84, 3) := by decide +kernel
theorem dX9_common_26 : decode cX9_common 26 = .ok (.ifCond .ne 9, 3) := by decide +kernel
theorem dX9_common_29 : decode cX9_common 29 = .ok (.aload_n 0, 1) := by decide +kernel
theorem dX9_common_30 : decode cX9_common 30 = .ok (.iconst 1, 1) := by decide +kernel
theorem dX9_common_31 : decode cX9_common 31 = .ok (.invokevirtual 78, 3) := by decide +kernel
theorem dX9_common_34 : decode cX9_common 34 = .ok (.ireturn, 1) := by decide +kernel
theorem dX9_common_35 : decode cX9_common 35 = .ok (.aload_n 0, 1) := by decide +kernel
theorem dX9_common_36 : decode cX9_common 36 = .ok (.iload_n 1, 1) := by decide +kernel
theorem dX9_common_37 : decode cX9_common 37 = .ok (.invokevirtual 97, 3) := by decide +kernel
theorem dX9_common_40 : decode cX9_common 40 = .ok (.aload_n 0, 1) := by decide +kernel
theorem dX9_common_41 : decode cX9_common 41 = .ok (.getfield 38, 3) := by decide +kernel
theorem dX9_common_44 : decode cX9_common 44 = .ok (.iload_n 2, 1) := by decide +kernel
theorem dX9_common_45 : decode cX9_common 45 = .ok (.iaload, 1) := by decide +kernel
theorem dX9_common_46 : decode cX9_common 46 = .ok (.bipush (-2), 2) := by decide +kernel
theorem dX9_common_48 : decode cX9_common 48 = .ok (.if_icmp .eq 14, 3) := by decide +kernel
theorem dX9_common_51 : decode cX9_common 51 = .ok (.aload_n 0, 1) := by decide +kernel
theorem dX9_common_52 : decode cX9_common 52 = .ok (.getfield 38, 3) := by decide +kernel
theorem dX9_common_55 : decode cX9_common 55 = .ok (.iload_n 3, 1) := by decide +kernel
theorem dX9_common_56 : decode cX9_common 56 = .ok (.iaload, 1) := by decide +kernel
theorem dX9_common_57 : decode cX9_common 57 = .ok (.bipush (-2), 2) := by decide +kernel
theorem dX9_common_59 : decode cX9_common 59 = .ok (.if_icmp .ne 9, 3) := by decide +kernel
theorem dX9_common_62 : decode cX9_common 62 = .ok (.aload_n 0, 1) := by decide +kernel
theorem dX9_common_63 : decode cX9_common 63 = .ok (.iconst 2, 1) := by decide +kernel
theorem dX9_common_64 : decode cX9_common 64 = .ok (.invokevirtual 78, 3) := by decide +kernel
theorem dX9_common_67 : decode cX9_common 67 = .ok (.ireturn, 1) := by decide +kernel
theorem dX9_common_68 : decode cX9_common 68 = .ok (.iload_n 2, 1) := by decide +kernel
theorem dX9_common_69 : decode cX9_common 69 = .ok (.istore 4, 2) := by decide +kernel
theorem dX9_common_71 : decode cX9_common 71 = .ok (.iload_n 3, 1) := by decide +kernel
theorem dX9_common_72 : decode cX9_common 72 = .ok (.istore 5, 2) := by decide +kernel
theorem dX9_common_74 : decode cX9_common 74 = .ok (.iload 4, 2) := by decide +kernel
theorem dX9_common_76 : decode cX9_common 76 = .ok (.iload 5, 2) := by decide +kernel
theorem dX9_common_78 : decode cX9_common 78 = .ok (.if_icmp .eq 44, 3) := by decide +kernel
theorem dX9_common_81 : decode cX9_common 81 = .ok (.aload_n 0, 1) := by decide +kernel
theorem dX9_common_82 : decode cX9_common 82 = .ok (.getfield 41, 3) := by decide +kernel
theorem dX9_common_85 : decode cX9_common 85 = .ok (.iload 4, 2) := by decide +kernel
theorem dX9_common_87 : decode cX9_common 87 = .ok (.iaload, 1) := by decide +kernel
theorem dX9_common_88 : decode cX9_common 88 = .ok (.aload_n 0, 1) := by decide +kernel
theorem dX9_common_89 : decode cX9_common 89 = .ok (.getfield 41, 3) := by decide +kernel
theorem dX9_common_92 : decode cX9_common 92 = .ok (.iload 5, 2) := by decide +kernel
theorem dX9_common_94 : decode cX9_common 94 = .ok (.iaload, 1) := by decide +kernel
theorem dX9_common_95 : decode cX9_common 95 = .ok (.if_icmp .lt 15, 3) := by decide +kernel
theorem dX9_common_98 : decode cX9_common 98 = .ok (.aload_n 0, 1) := by decide +kernel
theorem dX9_common_99 : decode cX9_common 99 = .ok (.getfield 38, 3) := by decide +kernel
theorem dX9_common_102 : decode cX9_common 102 = .ok (.iload 4, 2) := by decide +kernel
theorem dX9_common_104 : decode cX9_common 104 = .ok (.iaload, 1) := by decide +kernel
theorem dX9_common_105 : decode cX9_common 105 = .ok (.istore 4, 2) := by decide +kernel
theorem dX9_common_107 : decode cX9_common 107 = .ok (.goto (-33), 3) := by decide +kernel
theorem dX9_common_110 : decode cX9_common 110 = .ok (.aload_n 0, 1) := by decide +kernel
theorem dX9_common_111 : decode cX9_common 111 = .ok (.getfield 38, 3) := by decide +kernel
theorem dX9_common_114 : decode cX9_common 114 = .ok (.iload 5, 2) := by decide +kernel
theorem dX9_common_116 : decode cX9_common 116 = .ok (.iaload, 1) := by decide +kernel
theorem dX9_common_117 : decode cX9_common 117 = .ok (.istore 5, 2) := by decide +kernel
theorem dX9_common_119 : decode cX9_common 119 = .ok (.goto (-45), 3) := by decide +kernel
theorem dX9_common_122 : decode cX9_common 122 = .ok (.iload 4, 2) := by decide +kernel
theorem dX9_common_124 : decode cX9_common 124 = .ok (.ireturn, 1) := by decide +kernel
theorem dX9_commonByWalk_0 : decode cX9_commonByWalk 0 = .ok (.aload_n 0, 1) := by decide +kernel
theorem dX9_commonByWalk_1 : decode cX9_commonByWalk 1 = .ok (.iload_n 1, 1) := by decide +kernel
theorem dX9_commonByWalk_2 : decode cX9_commonByWalk 2 = .ok (.iload_n 2, 1) := by decide +kernel
theorem dX9_commonByWalk_3 : decode cX9_commonByWalk 3 = .ok (.iload_n 3, 1) := by decide +kernel
theorem dX9_commonByWalk_4 : decode cX9_commonByWalk 4 = .ok (.invokevirtual 137, 3) := by decide +kernel
theorem dX9_commonByWalk_7 : decode cX9_commonByWalk 7 = .ok (.ireturn, 1) := by decide +kernel
theorem dX9_subtreeSize_0 : decode cX9_subtreeSize 0 = .ok (.aload_n 0, 1) := by decide +kernel
theorem dX9_subtreeSize_1 : decode cX9_subtreeSize 1 = .ok (.iload_n 1, 1) := by decide +kernel
theorem dX9_subtreeSize_2 : decode cX9_subtreeSize 2 = .ok (.iload_n 2, 1) := by decide +kernel
theorem dX9_subtreeSize_3 : decode cX9_subtreeSize 3 = .ok (.invokevirtual 117, 3) := by decide +kernel
theorem dX9_subtreeSize_6 : decode cX9_subtreeSize 6 = .ok (.ifCond .eq 7, 3) := by decide +kernel
theorem dX9_subtreeSize_9 : decode cX9_subtreeSize 9 = .ok (.iconst 0, 1) := by decide +kernel
theorem dX9_subtreeSize_10 : decode cX9_subtreeSize 10 = .ok (.goto 9, 3) := by decide +kernel
theorem dX9_subtreeSize_13 : decode cX9_subtreeSize 13 = .ok (.aload_n 0, 1) := by decide +kernel
theorem dX9_subtreeSize_14 : decode cX9_subtreeSize 14 = .ok (.getfield 44, 3) := by decide +kernel
theorem dX9_subtreeSize_17 : decode cX9_subtreeSize 17 = .ok (.iload_n 2, 1) := by decide +kernel
theorem dX9_subtreeSize_18 : decode cX9_subtreeSize 18 = .ok (.iaload, 1) := by decide +kernel
theorem dX9_subtreeSize_19 : decode cX9_subtreeSize 19 = .ok (.ireturn, 1) := by decide +kernel
theorem dX9_subtreeSum_0 : decode cX9_subtreeSum 0 = .ok (.aload_n 0, 1) := by decide +kernel
theorem dX9_subtreeSum_1 : decode cX9_subtreeSum 1 = .ok (.iload_n 1, 1) := by decide +kernel
theorem dX9_subtreeSum_2 : decode cX9_subtreeSum 2 = .ok (.iload_n 2, 1) := by decide +kernel
theorem dX9_subtreeSum_3 : decode cX9_subtreeSum 3 = .ok (.invokevirtual 117, 3) := by decide +kernel
theorem dX9_subtreeSum_6 : decode cX9_subtreeSum 6 = .ok (.ifCond .eq 5, 3) := by decide +kernel
theorem dX9_subtreeSum_9 : decode cX9_subtreeSum 9 = .ok (.iconst 0, 1) := by decide +kernel
theorem dX9_subtreeSum_10 : decode cX9_subtreeSum 10 = .ok (.ireturn, 1) := by decide +kernel
theorem dX9_subtreeSum_11 : decode cX9_subtreeSum 11 = .ok (.iconst 0, 1) := by decide +kernel
theorem dX9_subtreeSum_12 : decode cX9_subtreeSum 12 = .ok (.istore_n 3, 1) := by decide +kernel
theorem dX9_subtreeSum_13 : decode cX9_subtreeSum 13 = .ok (.iconst 0, 1) := by decide +kernel
theorem dX9_subtreeSum_14 : decode cX9_subtreeSum 14 = .ok (.istore 4, 2) := by decide +kernel
theorem dX9_subtreeSum_16 : decode cX9_subtreeSum 16 = .ok (.iload 4, 2) := by decide +kernel
theorem dX9_subtreeSum_18 : decode cX9_subtreeSum 18 = .ok (.aload_n 0, 1) := by decide +kernel
theorem dX9_subtreeSum_19 : decode cX9_subtreeSum 19 = .ok (.getfield 94, 3) := by decide +kernel
theorem dX9_subtreeSum_22 : decode cX9_subtreeSum 22 = .ok (.if_icmp .ge 67, 3) := by decide +kernel
theorem dX9_subtreeSum_25 : decode cX9_subtreeSum 25 = .ok (.aload_n 0, 1) := by decide +kernel
theorem dX9_subtreeSum_26 : decode cX9_subtreeSum 26 = .ok (.getfield 50, 3) := by decide +kernel
theorem dX9_subtreeSum_29 : decode cX9_subtreeSum 29 = .ok (.iload 4, 2) := by decide +kernel
theorem dX9_subtreeSum_31 : decode cX9_subtreeSum 31 = .ok (.iaload, 1) := by decide +kernel
theorem dX9_subtreeSum_32 : decode cX9_subtreeSum 32 = .ok (.istore 5, 2) := by decide +kernel
theorem dX9_subtreeSum_34 : decode cX9_subtreeSum 34 = .ok (.iload 5, 2) := by decide +kernel
theorem dX9_subtreeSum_36 : decode cX9_subtreeSum 36 = .ok (.iconst (-1), 1) := by decide +kernel
theorem dX9_subtreeSum_37 : decode cX9_subtreeSum 37 = .ok (.if_icmp .eq 21, 3) := by decide +kernel
theorem dX9_subtreeSum_40 : decode cX9_subtreeSum 40 = .ok (.iload 5, 2) := by decide +kernel
theorem dX9_subtreeSum_42 : decode cX9_subtreeSum 42 = .ok (.iload_n 2, 1) := by decide +kernel
theorem dX9_subtreeSum_43 : decode cX9_subtreeSum 43 = .ok (.if_icmp .eq 15, 3) := by decide +kernel
theorem dX9_subtreeSum_46 : decode cX9_subtreeSum 46 = .ok (.aload_n 0, 1) := by decide +kernel
theorem dX9_subtreeSum_47 : decode cX9_subtreeSum 47 = .ok (.getfield 38, 3) := by decide +kernel
theorem dX9_subtreeSum_50 : decode cX9_subtreeSum 50 = .ok (.iload 5, 2) := by decide +kernel
theorem dX9_subtreeSum_52 : decode cX9_subtreeSum 52 = .ok (.iaload, 1) := by decide +kernel
theorem dX9_subtreeSum_53 : decode cX9_subtreeSum 53 = .ok (.istore 5, 2) := by decide +kernel
theorem dX9_subtreeSum_55 : decode cX9_subtreeSum 55 = .ok (.goto (-21), 3) := by decide +kernel
theorem dX9_subtreeSum_58 : decode cX9_subtreeSum 58 = .ok (.iload_n 3, 1) := by decide +kernel
theorem dX9_subtreeSum_59 : decode cX9_subtreeSum 59 = .ok (.iload 5, 2) := by decide +kernel
theorem dX9_subtreeSum_61 : decode cX9_subtreeSum 61 = .ok (.iload_n 2, 1) := by decide +kernel
theorem dX9_subtreeSum_62 : decode cX9_subtreeSum 62 = .ok (.if_icmp .ne 18, 3) := by decide +kernel
theorem dX9_subtreeSum_65 : decode cX9_subtreeSum 65 = .ok (.aload_n 0, 1) := by decide +kernel
theorem dX9_subtreeSum_66 : decode cX9_subtreeSum 66 = .ok (.getfield 9, 3) := by decide +kernel
theorem dX9_subtreeSum_69 : decode cX9_subtreeSum 69 = .ok (.aload_n 0, 1) := by decide +kernel
theorem dX9_subtreeSum_70 : decode cX9_subtreeSum 70 = .ok (.getfield 50, 3) := by decide +kernel
theorem dX9_subtreeSum_73 : decode cX9_subtreeSum 73 = .ok (.iload 4, 2) := by decide +kernel
theorem dX9_subtreeSum_75 : decode cX9_subtreeSum 75 = .ok (.iaload, 1) := by decide +kernel
theorem dX9_subtreeSum_76 : decode cX9_subtreeSum 76 = .ok (.iaload, 1) := by decide +kernel
theorem dX9_subtreeSum_77 : decode cX9_subtreeSum 77 = .ok (.goto 4, 3) := by decide +kernel
theorem dX9_subtreeSum_80 : decode cX9_subtreeSum 80 = .ok (.iconst 0, 1) := by decide +kernel
theorem dX9_subtreeSum_81 : decode cX9_subtreeSum 81 = .ok (.iadd, 1) := by decide +kernel
theorem dX9_subtreeSum_82 : decode cX9_subtreeSum 82 = .ok (.istore_n 3, 1) := by decide +kernel
theorem dX9_subtreeSum_83 : decode cX9_subtreeSum 83 = .ok (.iinc 4 1, 3) := by decide +kernel
theorem dX9_subtreeSum_86 : decode cX9_subtreeSum 86 = .ok (.goto (-70), 3) := by decide +kernel
theorem dX9_subtreeSum_89 : decode cX9_subtreeSum 89 = .ok (.iload_n 3, 1) := by decide +kernel
theorem dX9_subtreeSum_90 : decode cX9_subtreeSum 90 = .ok (.ireturn, 1) := by decide +kernel
theorem dX9_heavyChild_0 : decode cX9_heavyChild 0 = .ok (.aload_n 0, 1) := by decide +kernel
theorem dX9_heavyChild_1 : decode cX9_heavyChild 1 = .ok (.iload_n 1, 1) := by decide +kernel
theorem dX9_heavyChild_2 : decode cX9_heavyChild 2 = .ok (.iload_n 2, 1) := by decide +kernel
theorem dX9_heavyChild_3 : decode cX9_heavyChild 3 = .ok (.invokevirtual 117, 3) := by decide +kernel
theorem dX9_heavyChild_6 : decode cX9_heavyChild 6 = .ok (.ifCond .eq 5, 3) := by decide +kernel
theorem dX9_heavyChild_9 : decode cX9_heavyChild 9 = .ok (.iconst 0, 1) := by decide +kernel
theorem dX9_heavyChild_10 : decode cX9_heavyChild 10 = .ok (.ireturn, 1) := by decide +kernel
theorem dX9_heavyChild_11 : decode cX9_heavyChild 11 = .ok (.aload_n 0, 1) := by decide +kernel
theorem dX9_heavyChild_12 : decode cX9_heavyChild 12 = .ok (.getfield 47, 3) := by decide +kernel
theorem dX9_heavyChild_15 : decode cX9_heavyChild 15 = .ok (.iload_n 2, 1) := by decide +kernel
theorem dX9_heavyChild_16 : decode cX9_heavyChild 16 = .ok (.iaload, 1) := by decide +kernel
theorem dX9_heavyChild_17 : decode cX9_heavyChild 17 = .ok (.ifCond .ge 11, 3) := by decide +kernel
theorem dX9_heavyChild_20 : decode cX9_heavyChild 20 = .ok (.aload_n 0, 1) := by decide +kernel
theorem dX9_heavyChild_21 : decode cX9_heavyChild 21 = .ok (.iconst 3, 1) := by decide +kernel
theorem dX9_heavyChild_22 : decode cX9_heavyChild 22 = .ok (.invokevirtual 78, 3) := by decide +kernel
theorem dX9_heavyChild_25 : decode cX9_heavyChild 25 = .ok (.goto 9, 3) := by decide +kernel
theorem dX9_heavyChild_28 : decode cX9_heavyChild 28 = .ok (.aload_n 0, 1) := by decide +kernel
theorem dX9_heavyChild_29 : decode cX9_heavyChild 29 = .ok (.getfield 47, 3) := by decide +kernel
theorem dX9_heavyChild_32 : decode cX9_heavyChild 32 = .ok (.iload_n 2, 1) := by decide +kernel
theorem dX9_heavyChild_33 : decode cX9_heavyChild 33 = .ok (.iaload, 1) := by decide +kernel
theorem dX9_heavyChild_34 : decode cX9_heavyChild 34 = .ok (.ireturn, 1) := by decide +kernel
theorem dX9_isHead_0 : decode cX9_isHead 0 = .ok (.aload_n 0, 1) := by decide +kernel
theorem dX9_isHead_1 : decode cX9_isHead 1 = .ok (.getfield 38, 3) := by decide +kernel
theorem dX9_isHead_4 : decode cX9_isHead 4 = .ok (.iload_n 1, 1) := by decide +kernel
theorem dX9_isHead_5 : decode cX9_isHead 5 = .ok (.iaload, 1) := by decide +kernel
theorem dX9_isHead_6 : decode cX9_isHead 6 = .ok (.iconst (-1), 1) := by decide +kernel
theorem dX9_isHead_7 : decode cX9_isHead 7 = .ok (.if_icmp .eq 18, 3) := by decide +kernel
theorem dX9_isHead_10 : decode cX9_isHead 10 = .ok (.aload_n 0, 1) := by decide +kernel
theorem dX9_isHead_11 : decode cX9_isHead 11 = .ok (.getfield 47, 3) := by decide +kernel
theorem dX9_isHead_14 : decode cX9_isHead 14 = .ok (.aload_n 0, 1) := by decide +kernel
theorem dX9_isHead_15 : decode cX9_isHead 15 = .ok (.getfield 38, 3) := by decide +kernel
theorem dX9_isHead_18 : decode cX9_isHead 18 = .ok (.iload_n 1, 1) := by decide +kernel
theorem dX9_isHead_19 : decode cX9_isHead 19 = .ok (.iaload, 1) := by decide +kernel
theorem dX9_isHead_20 : decode cX9_isHead 20 = .ok (.iaload, 1) := by decide +kernel
theorem dX9_isHead_21 : decode cX9_isHead 21 = .ok (.iload_n 1, 1) := by decide +kernel
theorem dX9_isHead_22 : decode cX9_isHead 22 = .ok (.if_icmp .eq 7, 3) := by decide +kernel
theorem dX9_isHead_25 : decode cX9_isHead 25 = .ok (.iconst 1, 1) := by decide +kernel
theorem dX9_isHead_26 : decode cX9_isHead 26 = .ok (.goto 4, 3) := by decide +kernel
theorem dX9_isHead_29 : decode cX9_isHead 29 = .ok (.iconst 0, 1) := by decide +kernel
theorem dX9_isHead_30 : decode cX9_isHead 30 = .ok (.ireturn, 1) := by decide +kernel
theorem dX9_head_0 : decode cX9_head 0 = .ok (.aload_n 0, 1) := by decide +kernel
theorem dX9_head_1 : decode cX9_head 1 = .ok (.iload_n 1, 1) := by decide +kernel
theorem dX9_head_2 : decode cX9_head 2 = .ok (.iload_n 2, 1) := by decide +kernel
theorem dX9_head_3 : decode cX9_head 3 = .ok (.invokevirtual 117, 3) := by decide +kernel
theorem dX9_head_6 : decode cX9_head 6 = .ok (.ifCond .eq 5, 3) := by decide +kernel
theorem dX9_head_9 : decode cX9_head 9 = .ok (.iconst 0, 1) := by decide +kernel
theorem dX9_head_10 : decode cX9_head 10 = .ok (.ireturn, 1) := by decide +kernel
theorem dX9_head_11 : decode cX9_head 11 = .ok (.iload_n 2, 1) := by decide +kernel
theorem dX9_head_12 : decode cX9_head 12 = .ok (.istore_n 3, 1) := by decide +kernel
theorem dX9_head_13 : decode cX9_head 13 = .ok (.aload_n 0, 1) := by decide +kernel
theorem dX9_head_14 : decode cX9_head 14 = .ok (.iload_n 3, 1) := by decide +kernel
theorem dX9_head_15 : decode cX9_head 15 = .ok (.invokevirtual 140, 3) := by decide +kernel
theorem dX9_head_18 : decode cX9_head 18 = .ok (.ifCond .ne 13, 3) := by decide +kernel
theorem dX9_head_21 : decode cX9_head 21 = .ok (.aload_n 0, 1) := by decide +kernel
theorem dX9_head_22 : decode cX9_head 22 = .ok (.getfield 38, 3) := by decide +kernel
theorem dX9_head_25 : decode cX9_head 25 = .ok (.iload_n 3, 1) := by decide +kernel
theorem dX9_head_26 : decode cX9_head 26 = .ok (.iaload, 1) := by decide +kernel
theorem dX9_head_27 : decode cX9_head 27 = .ok (.istore_n 3, 1) := by decide +kernel
theorem dX9_head_28 : decode cX9_head 28 = .ok (.goto (-15), 3) := by decide +kernel
theorem dX9_head_31 : decode cX9_head 31 = .ok (.iload_n 3, 1) := by decide +kernel
theorem dX9_head_32 : decode cX9_head 32 = .ok (.ireturn, 1) := by decide +kernel
theorem dX9_heavyPaths_0 : decode cX9_heavyPaths 0 = .ok (.aload_n 0, 1) := by decide +kernel
theorem dX9_heavyPaths_1 : decode cX9_heavyPaths 1 = .ok (.iload_n 1, 1) := by decide +kernel
theorem dX9_heavyPaths_2 : decode cX9_heavyPaths 2 = .ok (.iload_n 1, 1) := by decide +kernel
theorem dX9_heavyPaths_3 : decode cX9_heavyPaths 3 = .ok (.invokevirtual 117, 3) := by decide +kernel
theorem dX9_heavyPaths_6 : decode cX9_heavyPaths 6 = .ok (.ifCond .eq 5, 3) := by decide +kernel
theorem dX9_heavyPaths_9 : decode cX9_heavyPaths 9 = .ok (.iconst 0, 1) := by decide +kernel
theorem dX9_heavyPaths_10 : decode cX9_heavyPaths 10 = .ok (.ireturn, 1) := by decide +kernel
theorem dX9_heavyPaths_11 : decode cX9_heavyPaths 11 = .ok (.iconst 0, 1) := by decide +kernel
theorem dX9_heavyPaths_12 : decode cX9_heavyPaths 12 = .ok (.istore_n 2, 1) := by decide +kernel
theorem dX9_heavyPaths_13 : decode cX9_heavyPaths 13 = .ok (.iconst 0, 1) := by decide +kernel
theorem dX9_heavyPaths_14 : decode cX9_heavyPaths 14 = .ok (.istore_n 3, 1) := by decide +kernel
theorem dX9_heavyPaths_15 : decode cX9_heavyPaths 15 = .ok (.iload_n 3, 1) := by decide +kernel
theorem dX9_heavyPaths_16 : decode cX9_heavyPaths 16 = .ok (.aload_n 0, 1) := by decide +kernel
theorem dX9_heavyPaths_17 : decode cX9_heavyPaths 17 = .ok (.getfield 94, 3) := by decide +kernel
theorem dX9_heavyPaths_20 : decode cX9_heavyPaths 20 = .ok (.if_icmp .ge 30, 3) := by decide +kernel
theorem dX9_heavyPaths_23 : decode cX9_heavyPaths 23 = .ok (.iload_n 2, 1) := by decide +kernel
theorem dX9_heavyPaths_24 : decode cX9_heavyPaths 24 = .ok (.aload_n 0, 1) := by decide +kernel
theorem dX9_heavyPaths_25 : decode cX9_heavyPaths 25 = .ok (.aload_n 0, 1) := by decide +kernel
theorem dX9_heavyPaths_26 : decode cX9_heavyPaths 26 = .ok (.getfield 50, 3) := by decide +kernel
theorem dX9_heavyPaths_29 : decode cX9_heavyPaths 29 = .ok (.iload_n 3, 1) := by decide +kernel
theorem dX9_heavyPaths_30 : decode cX9_heavyPaths 30 = .ok (.iaload, 1) := by decide +kernel
theorem dX9_heavyPaths_31 : decode cX9_heavyPaths 31 = .ok (.invokevirtual 140, 3) := by decide +kernel
theorem dX9_heavyPaths_34 : decode cX9_heavyPaths 34 = .ok (.ifCond .eq 7, 3) := by decide +kernel
theorem dX9_heavyPaths_37 : decode cX9_heavyPaths 37 = .ok (.iconst 1, 1) := by decide +kernel
theorem dX9_heavyPaths_38 : decode cX9_heavyPaths 38 = .ok (.goto 4, 3) := by decide +kernel
theorem dX9_heavyPaths_41 : decode cX9_heavyPaths 41 = .ok (.iconst 0, 1) := by decide +kernel
theorem dX9_heavyPaths_42 : decode cX9_heavyPaths 42 = .ok (.iadd, 1) := by decide +kernel
theorem dX9_heavyPaths_43 : decode cX9_heavyPaths 43 = .ok (.istore_n 2, 1) := by decide +kernel
theorem dX9_heavyPaths_44 : decode cX9_heavyPaths 44 = .ok (.iinc 3 1, 3) := by decide +kernel
theorem dX9_heavyPaths_47 : decode cX9_heavyPaths 47 = .ok (.goto (-32), 3) := by decide +kernel
theorem dX9_heavyPaths_50 : decode cX9_heavyPaths 50 = .ok (.iload_n 2, 1) := by decide +kernel
theorem dX9_heavyPaths_51 : decode cX9_heavyPaths 51 = .ok (.ireturn, 1) := by decide +kernel
theorem dX9_lightEdges_0 : decode cX9_lightEdges 0 = .ok (.aload_n 0, 1) := by decide +kernel
theorem dX9_lightEdges_1 : decode cX9_lightEdges 1 = .ok (.iload_n 1, 1) := by decide +kernel
theorem dX9_lightEdges_2 : decode cX9_lightEdges 2 = .ok (.iload_n 2, 1) := by decide +kernel
theorem dX9_lightEdges_3 : decode cX9_lightEdges 3 = .ok (.invokevirtual 117, 3) := by decide +kernel
theorem dX9_lightEdges_6 : decode cX9_lightEdges 6 = .ok (.ifCond .eq 5, 3) := by decide +kernel
theorem dX9_lightEdges_9 : decode cX9_lightEdges 9 = .ok (.iconst 0, 1) := by decide +kernel
theorem dX9_lightEdges_10 : decode cX9_lightEdges 10 = .ok (.ireturn, 1) := by decide +kernel
theorem dX9_lightEdges_11 : decode cX9_lightEdges 11 = .ok (.iconst 0, 1) := by decide +kernel
theorem dX9_lightEdges_12 : decode cX9_lightEdges 12 = .ok (.istore_n 3, 1) := by decide +kernel
theorem dX9_lightEdges_13 : decode cX9_lightEdges 13 = .ok (.iload_n 2, 1) := by decide +kernel
theorem dX9_lightEdges_14 : decode cX9_lightEdges 14 = .ok (.istore 4, 2) := by decide +kernel
theorem dX9_lightEdges_16 : decode cX9_lightEdges 16 = .ok (.iload 4, 2) := by decide +kernel
theorem dX9_lightEdges_18 : decode cX9_lightEdges 18 = .ok (.iload_n 1, 1) := by decide +kernel
theorem dX9_lightEdges_19 : decode cX9_lightEdges 19 = .ok (.if_icmp .eq 32, 3) := by decide +kernel
theorem dX9_lightEdges_22 : decode cX9_lightEdges 22 = .ok (.iload_n 3, 1) := by decide +kernel
theorem dX9_lightEdges_23 : decode cX9_lightEdges 23 = .ok (.aload_n 0, 1) := by decide +kernel
theorem dX9_lightEdges_24 : decode cX9_lightEdges 24 = .ok (.iload 4, 2) := by decide +kernel
theorem dX9_lightEdges_26 : decode cX9_lightEdges 26 = .ok (.invokevirtual 140, 3) := by decide +kernel
theorem dX9_lightEdges_29 : decode cX9_lightEdges 29 = .ok (.ifCond .eq 7, 3) := by decide +kernel
theorem dX9_lightEdges_32 : decode cX9_lightEdges 32 = .ok (.iconst 1, 1) := by decide +kernel
theorem dX9_lightEdges_33 : decode cX9_lightEdges 33 = .ok (.goto 4, 3) := by decide +kernel
theorem dX9_lightEdges_36 : decode cX9_lightEdges 36 = .ok (.iconst 0, 1) := by decide +kernel
theorem dX9_lightEdges_37 : decode cX9_lightEdges 37 = .ok (.iadd, 1) := by decide +kernel
theorem dX9_lightEdges_38 : decode cX9_lightEdges 38 = .ok (.istore_n 3, 1) := by decide +kernel
theorem dX9_lightEdges_39 : decode cX9_lightEdges 39 = .ok (.aload_n 0, 1) := by decide +kernel
theorem dX9_lightEdges_40 : decode cX9_lightEdges 40 = .ok (.getfield 38, 3) := by decide +kernel
theorem dX9_lightEdges_43 : decode cX9_lightEdges 43 = .ok (.iload 4, 2) := by decide +kernel
theorem dX9_lightEdges_45 : decode cX9_lightEdges 45 = .ok (.iaload, 1) := by decide +kernel
theorem dX9_lightEdges_46 : decode cX9_lightEdges 46 = .ok (.istore 4, 2) := by decide +kernel
theorem dX9_lightEdges_48 : decode cX9_lightEdges 48 = .ok (.goto (-32), 3) := by decide +kernel
theorem dX9_lightEdges_51 : decode cX9_lightEdges 51 = .ok (.iload_n 3, 1) := by decide +kernel
theorem dX9_lightEdges_52 : decode cX9_lightEdges 52 = .ok (.ireturn, 1) := by decide +kernel
theorem dX9_diameter_0 : decode cX9_diameter 0 = .ok (.aload_n 0, 1) := by decide +kernel
theorem dX9_diameter_1 : decode cX9_diameter 1 = .ok (.iload_n 1, 1) := by decide +kernel
theorem dX9_diameter_2 : decode cX9_diameter 2 = .ok (.iload_n 1, 1) := by decide +kernel
theorem dX9_diameter_3 : decode cX9_diameter 3 = .ok (.invokevirtual 117, 3) := by decide +kernel
theorem dX9_diameter_6 : decode cX9_diameter 6 = .ok (.ifCond .eq 5, 3) := by decide +kernel
theorem dX9_diameter_9 : decode cX9_diameter 9 = .ok (.iconst 0, 1) := by decide +kernel
theorem dX9_diameter_10 : decode cX9_diameter 10 = .ok (.ireturn, 1) := by decide +kernel
theorem dX9_diameter_11 : decode cX9_diameter 11 = .ok (.aload_n 0, 1) := by decide +kernel
theorem dX9_diameter_12 : decode cX9_diameter 12 = .ok (.aload_n 0, 1) := by decide +kernel
theorem dX9_diameter_13 : decode cX9_diameter 13 = .ok (.getfield 50, 3) := by decide +kernel
theorem dX9_diameter_16 : decode cX9_diameter 16 = .ok (.aload_n 0, 1) := by decide +kernel
theorem dX9_diameter_17 : decode cX9_diameter 17 = .ok (.getfield 94, 3) := by decide +kernel
theorem dX9_diameter_20 : decode cX9_diameter 20 = .ok (.iconst 1, 1) := by decide +kernel
theorem dX9_diameter_21 : decode cX9_diameter 21 = .ok (.isub, 1) := by decide +kernel
theorem dX9_diameter_22 : decode cX9_diameter 22 = .ok (.iaload, 1) := by decide +kernel
theorem dX9_diameter_23 : decode cX9_diameter 23 = .ok (.invokevirtual 97, 3) := by decide +kernel
theorem dX9_diameter_26 : decode cX9_diameter 26 = .ok (.aload_n 0, 1) := by decide +kernel
theorem dX9_diameter_27 : decode cX9_diameter 27 = .ok (.getfield 41, 3) := by decide +kernel
theorem dX9_diameter_30 : decode cX9_diameter 30 = .ok (.aload_n 0, 1) := by decide +kernel
theorem dX9_diameter_31 : decode cX9_diameter 31 = .ok (.getfield 50, 3) := by decide +kernel
theorem dX9_diameter_34 : decode cX9_diameter 34 = .ok (.aload_n 0, 1) := by decide +kernel
theorem dX9_diameter_35 : decode cX9_diameter 35 = .ok (.getfield 94, 3) := by decide +kernel
theorem dX9_diameter_38 : decode cX9_diameter 38 = .ok (.iconst 1, 1) := by decide +kernel
theorem dX9_diameter_39 : decode cX9_diameter 39 = .ok (.isub, 1) := by decide +kernel
theorem dX9_diameter_40 : decode cX9_diameter 40 = .ok (.iaload, 1) := by decide +kernel
theorem dX9_diameter_41 : decode cX9_diameter 41 = .ok (.iaload, 1) := by decide +kernel
theorem dX9_diameter_42 : decode cX9_diameter 42 = .ok (.ireturn, 1) := by decide +kernel
theorem dX9_diameterByTrying_0 : decode cX9_diameterByTrying 0 = .ok (.aload_n 0, 1) := by decide +kernel
theorem dX9_diameterByTrying_1 : decode cX9_diameterByTrying 1 = .ok (.iload_n 1, 1) := by decide +kernel
theorem dX9_diameterByTrying_2 : decode cX9_diameterByTrying 2 = .ok (.invokevirtual 143, 3) := by decide +kernel
theorem dX9_diameterByTrying_5 : decode cX9_diameterByTrying 5 = .ok (.ireturn, 1) := by decide +kernel
