theorem dX0_init_0 : decode cX0_init 0 = .ok (.aload_n 0, 1) := by decide +kernel
theorem dX0_init_1 : decode cX0_init 1 = .ok (.invokespecial 3, 3) := by decide +kernel
theorem dX0_init_4 : decode cX0_init 4 = .ok (.aload_n 0, 1) := by decide +kernel
theorem dX0_init_5 : decode cX0_init 5 = .ok (.bipush 32, 2) := by decide +kernel
theorem dX0_init_7 : decode cX0_init 7 = .ok (.newarray .int, 2) := by decide +kernel
theorem dX0_init_9 : decode cX0_init 9 = .ok (.putfield 9, 3) := by decide +kernel
theorem dX0_init_12 : decode cX0_init 12 = .ok (.aload_n 0, 1) := by decide +kernel
theorem dX0_init_13 : decode cX0_init 13 = .ok (.bipush 32, 2) := by decide +kernel
theorem dX0_init_15 : decode cX0_init 15 = .ok (.newarray .int, 2) := by decide +kernel
theorem dX0_init_17 : decode cX0_init 17 = .ok (.putfield 15, 3) := by decide +kernel
theorem dX0_init_20 : decode cX0_init 20 = .ok (.aload_n 0, 1) := by decide +kernel
theorem dX0_init_21 : decode cX0_init 21 = .ok (.bipush 32, 2) := by decide +kernel
theorem dX0_init_23 : decode cX0_init 23 = .ok (.newarray .int, 2) := by decide +kernel
theorem dX0_init_25 : decode cX0_init 25 = .ok (.putfield 18, 3) := by decide +kernel
theorem dX0_init_28 : decode cX0_init 28 = .ok (.aload_n 0, 1) := by decide +kernel
theorem dX0_init_29 : decode cX0_init 29 = .ok (.bipush 32, 2) := by decide +kernel
theorem dX0_init_31 : decode cX0_init 31 = .ok (.newarray .int, 2) := by decide +kernel
theorem dX0_init_33 : decode cX0_init 33 = .ok (.putfield 21, 3) := by decide +kernel
theorem dX0_init_36 : decode cX0_init 36 = .ok (.aload_n 0, 1) := by decide +kernel
theorem dX0_init_37 : decode cX0_init 37 = .ok (.bipush 32, 2) := by decide +kernel
theorem dX0_init_39 : decode cX0_init 39 = .ok (.newarray .int, 2) := by decide +kernel
theorem dX0_init_41 : decode cX0_init 41 = .ok (.putfield 24, 3) := by decide +kernel
theorem dX0_init_44 : decode cX0_init 44 = .ok (.aload_n 0, 1) := by decide +kernel
theorem dX0_init_45 : decode cX0_init 45 = .ok (.bipush 32, 2) := by decide +kernel
theorem dX0_init_47 : decode cX0_init 47 = .ok (.newarray .int, 2) := by decide +kernel
theorem dX0_init_49 : decode cX0_init 49 = .ok (.putfield 27, 3) := by decide +kernel
theorem dX0_init_52 : decode cX0_init 52 = .ok (.aload_n 0, 1) := by decide +kernel
theorem dX0_init_53 : decode cX0_init 53 = .ok (.bipush 32, 2) := by decide +kernel
theorem dX0_init_55 : decode cX0_init 55 = .ok (.newarray .int, 2) := by decide +kernel
theorem dX0_init_57 : decode cX0_init 57 = .ok (.putfield 30, 3) := by decide +kernel
theorem dX0_init_60 : decode cX0_init 60 = .ok (.aload_n 0, 1) := by decide +kernel
theorem dX0_init_61 : decode cX0_init 61 = .ok (.bipush 6, 2) := by decide +kernel
theorem dX0_init_63 : decode cX0_init 63 = .ok (.newarray .int, 2) := by decide +kernel
theorem dX0_init_65 : decode cX0_init 65 = .ok (.putfield 33, 3) := by decide +kernel
theorem dX0_init_68 : decode cX0_init 68 = .ok (.aload_n 0, 1) := by decide +kernel
theorem dX0_init_69 : decode cX0_init 69 = .ok (.bipush 6, 2) := by decide +kernel
theorem dX0_init_71 : decode cX0_init 71 = .ok (.newarray .int, 2) := by decide +kernel
theorem dX0_init_73 : decode cX0_init 73 = .ok (.putfield 36, 3) := by decide +kernel
theorem dX0_init_76 : decode cX0_init 76 = .ok (.aload_n 0, 1) := by decide +kernel
theorem dX0_init_77 : decode cX0_init 77 = .ok (.bipush 6, 2) := by decide +kernel
theorem dX0_init_79 : decode cX0_init 79 = .ok (.newarray .int, 2) := by decide +kernel
theorem dX0_init_81 : decode cX0_init 81 = .ok (.putfield 39, 3) := by decide +kernel
theorem dX0_init_84 : decode cX0_init 84 = .ok (.aload_n 0, 1) := by decide +kernel
theorem dX0_init_85 : decode cX0_init 85 = .ok (.bipush 6, 2) := by decide +kernel
theorem dX0_init_87 : decode cX0_init 87 = .ok (.newarray .int, 2) := by decide +kernel
theorem dX0_init_89 : decode cX0_init 89 = .ok (.putfield 42, 3) := by decide +kernel
theorem dX0_init_92 : decode cX0_init 92 = .ok (.aload_n 0, 1) := by decide +kernel
theorem dX0_init_93 : decode cX0_init 93 = .ok (.bipush 32, 2) := by decide +kernel
theorem dX0_init_95 : decode cX0_init 95 = .ok (.newarray .int, 2) := by decide +kernel
theorem dX0_init_97 : decode cX0_init 97 = .ok (.putfield 45, 3) := by decide +kernel
theorem dX0_init_100 : decode cX0_init 100 = .ok (.return_, 1) := by decide +kernel
theorem dX0_isFull_0 : decode cX0_isFull 0 = .ok (.aload_n 0, 1) := by decide +kernel
theorem dX0_isFull_1 : decode cX0_isFull 1 = .ok (.getfield 48, 3) := by decide +kernel
theorem dX0_isFull_4 : decode cX0_isFull 4 = .ok (.bipush 32, 2) := by decide +kernel
theorem dX0_isFull_6 : decode cX0_isFull 6 = .ok (.if_icmp .lt 7, 3) := by decide +kernel
theorem dX0_isFull_9 : decode cX0_isFull 9 = .ok (.iconst 1, 1) := by decide +kernel
theorem dX0_isFull_10 : decode cX0_isFull 10 = .ok (.goto 4, 3) := by decide +kernel
theorem dX0_isFull_13 : decode cX0_isFull 13 = .ok (.iconst 0, 1) := by decide +kernel
theorem dX0_isFull_14 : decode cX0_isFull 14 = .ok (.ireturn, 1) := by decide +kernel
theorem dX0_isNode_0 : decode cX0_isNode 0 = .ok (.iload_n 1, 1) := by decide +kernel
theorem dX0_isNode_1 : decode cX0_isNode 1 = .ok (.ifCond .lt 15, 3) := by decide +kernel
theorem dX0_isNode_4 : decode cX0_isNode 4 = .ok (.iload_n 1, 1) := by decide +kernel
theorem dX0_isNode_5 : decode cX0_isNode 5 = .ok (.aload_n 0, 1) := by decide +kernel
theorem dX0_isNode_6 : decode cX0_isNode 6 = .ok (.getfield 48, 3) := by decide +kernel
theorem dX0_isNode_9 : decode cX0_isNode 9 = .ok (.if_icmp .ge 7, 3) := by decide +kernel
theorem dX0_isNode_12 : decode cX0_isNode 12 = .ok (.iconst 1, 1) := by decide +kernel
theorem dX0_isNode_13 : decode cX0_isNode 13 = .ok (.goto 4, 3) := by decide +kernel
theorem dX0_isNode_16 : decode cX0_isNode 16 = .ok (.iconst 0, 1) := by decide +kernel
theorem dX0_isNode_17 : decode cX0_isNode 17 = .ok (.ireturn, 1) := by decide +kernel
set_option maxRecDepth 20000 in
theorem ggX0_isSort_X0_isNode : GoodIn wsX0_isSort wsX0_isNode := goodIn_r _ [6, 7, 8, 9, 10, 11, 12, 13, 14, 15, 16, 17, 18, 19, 20, 21, 22] (by decide +kernel) (by decide +kernel)
set_option maxRecDepth 20000 in
theorem gX0_isSort_X0_isNode : GoodIn wsX0_isSort (wsV RX0 52 RX0 yX0_isNode wsX0_isNode) := goodIn_app (goodIn_of _ (by decide +kernel)) ggX0_isSort_X0_isNode
theorem dX0_isSort_0 : decode cX0_isSort 0 = .ok (.aload_n 0, 1) := by decide +kernel
theorem dX0_isSort_1 : decode cX0_isSort 1 = .ok (.iload_n 1, 1) := by decide +kernel
theorem dX0_isSort_2 : decode cX0_isSort 2 = .ok (.invokevirtual 52, 3) := by decide +kernel
theorem dX0_isSort_5 : decode cX0_isSort 5 = .ok (.ifCond .eq 17, 3) := by decide +kernel
theorem dX0_isSort_8 : decode cX0_isSort 8 = .ok (.aload_n 0, 1) := by decide +kernel
theorem dX0_isSort_9 : decode cX0_isSort 9 = .ok (.getfield 9, 3) := by decide +kernel
theorem dX0_isSort_12 : decode cX0_isSort 12 = .ok (.iload_n 1, 1) := by decide +kernel
theorem dX0_isSort_13 : decode cX0_isSort 13 = .ok (.iaload, 1) := by decide +kernel
theorem dX0_isSort_14 : decode cX0_isSort 14 = .ok (.iload_n 2, 1) := by decide +kernel
theorem dX0_isSort_15 : decode cX0_isSort 15 = .ok (.if_icmp .ne 7, 3) := by decide +kernel
theorem dX0_isSort_18 : decode cX0_isSort 18 = .ok (.iconst 1, 1) := by decide +kernel
theorem dX0_isSort_19 : decode cX0_isSort 19 = .ok (.goto 4, 3) := by decide +kernel
theorem dX0_isSort_22 : decode cX0_isSort 22 = .ok (.iconst 0, 1) := by decide +kernel
theorem dX0_isSort_23 : decode cX0_isSort 23 = .ok (.ireturn, 1) := by decide +kernel
theorem dX0_rowCount_0 : decode cX0_rowCount 0 = .ok (.iconst 1, 1) := by decide +kernel
theorem dX0_rowCount_1 : decode cX0_rowCount 1 = .ok (.aload_n 0, 1) := by decide +kernel
theorem dX0_rowCount_2 : decode cX0_rowCount 2 = .ok (.getfield 56, 3) := by decide +kernel
theorem dX0_rowCount_5 : decode cX0_rowCount 5 = .ok (.ishl, 1) := by decide +kernel
theorem dX0_rowCount_6 : decode cX0_rowCount 6 = .ok (.ireturn, 1) := by decide +kernel
set_option maxRecDepth 20000 in
theorem ggX0_addInput_X0_addNode : GoodIn wsX0_addInput wsX0_addNode := goodIn_r _ [7, 8, 9, 10, 11, 12, 13, 14, 15, 16, 17, 18, 19, 20, 21, 22, 23, 24] (by decide +kernel) (by decide +kernel)
set_option maxRecDepth 20000 in
theorem gX0_addInput_X0_addNode : GoodIn wsX0_addInput (wsV RX0 59 RX0 yX0_addNode wsX0_addNode) := goodIn_app (goodIn_of _ (by decide +kernel)) ggX0_addInput_X0_addNode
theorem dX0_addInput_0 : decode cX0_addInput 0 = .ok (.aload_n 0, 1) := by decide +kernel
theorem dX0_addInput_1 : decode cX0_addInput 1 = .ok (.iconst 0, 1) := by decide +kernel
theorem dX0_addInput_2 : decode cX0_addInput 2 = .ok (.invokevirtual 59, 3) := by decide +kernel
theorem dX0_addInput_5 : decode cX0_addInput 5 = .ok (.istore_n 1, 1) := by decide +kernel
theorem dX0_addInput_6 : decode cX0_addInput 6 = .ok (.aload_n 0, 1) := by decide +kernel
theorem dX0_addInput_7 : decode cX0_addInput 7 = .ok (.getfield 27, 3) := by decide +kernel
theorem dX0_addInput_10 : decode cX0_addInput 10 = .ok (.iload_n 1, 1) := by decide +kernel
theorem dX0_addInput_11 : decode cX0_addInput 11 = .ok (.iconst 2, 1) := by decide +kernel
theorem dX0_addInput_12 : decode cX0_addInput 12 = .ok (.iastore, 1) := by decide +kernel
theorem dX0_addInput_13 : decode cX0_addInput 13 = .ok (.aload_n 0, 1) := by decide +kernel
theorem dX0_addInput_14 : decode cX0_addInput 14 = .ok (.dup, 1) := by decide +kernel
theorem dX0_addInput_15 : decode cX0_addInput 15 = .ok (.getfield 63, 3) := by decide +kernel
theorem dX0_addInput_18 : decode cX0_addInput 18 = .ok (.iconst 1, 1) := by decide +kernel
theorem dX0_addInput_19 : decode cX0_addInput 19 = .ok (.iadd, 1) := by decide +kernel
theorem dX0_addInput_20 : decode cX0_addInput 20 = .ok (.putfield 63, 3) := by decide +kernel
theorem dX0_addInput_23 : decode cX0_addInput 23 = .ok (.iload_n 1, 1) := by decide +kernel
theorem dX0_addInput_24 : decode cX0_addInput 24 = .ok (.ireturn, 1) := by decide +kernel
set_option maxRecDepth 20000 in
theorem ggX0_addFixed_X0_addNode : GoodIn wsX0_addFixed wsX0_addNode := goodIn_r _ [6, 7, 8, 9, 10, 11, 12, 13, 14, 15, 16, 17, 18, 19, 20, 21, 22, 23] (by decide +kernel) (by decide +kernel)
set_option maxRecDepth 20000 in
theorem gX0_addFixed_X0_addNode : GoodIn wsX0_addFixed (wsV RX0 59 RX0 yX0_addNode wsX0_addNode) := goodIn_app (goodIn_of _ (by decide +kernel)) ggX0_addFixed_X0_addNode
theorem dX0_addFixed_0 : decode cX0_addFixed 0 = .ok (.aload_n 0, 1) := by decide +kernel
theorem dX0_addFixed_1 : decode cX0_addFixed 1 = .ok (.iconst 1, 1) := by decide +kernel
theorem dX0_addFixed_2 : decode cX0_addFixed 2 = .ok (.invokevirtual 59, 3) := by decide +kernel
theorem dX0_addFixed_5 : decode cX0_addFixed 5 = .ok (.istore_n 2, 1) := by decide +kernel
theorem dX0_addFixed_6 : decode cX0_addFixed 6 = .ok (.aload_n 0, 1) := by decide +kernel
theorem dX0_addFixed_7 : decode cX0_addFixed 7 = .ok (.getfield 27, 3) := by decide +kernel
theorem dX0_addFixed_10 : decode cX0_addFixed 10 = .ok (.iload_n 2, 1) := by decide +kernel
theorem dX0_addFixed_11 : decode cX0_addFixed 11 = .ok (.iload_n 1, 1) := by decide +kernel
theorem dX0_addFixed_12 : decode cX0_addFixed 12 = .ok (.iastore, 1) := by decide +kernel
theorem dX0_addFixed_13 : decode cX0_addFixed 13 = .ok (.iload_n 2, 1) := by decide +kernel
theorem dX0_addFixed_14 : decode cX0_addFixed 14 = .ok (.ireturn, 1) := by decide +kernel
set_option maxRecDepth 20000 in
theorem ggX0_addGate_X0_addNode : GoodIn wsX0_addGate wsX0_addNode := goodIn_r _ [9, 10, 11, 12, 13, 14, 15, 16, 17, 18, 19, 20, 21, 22, 23, 24, 25, 26] (by decide +kernel) (by decide +kernel)
set_option maxRecDepth 20000 in
theorem gX0_addGate_X0_addNode : GoodIn wsX0_addGate (wsV RX0 59 RX0 yX0_addNode wsX0_addNode) := goodIn_app (goodIn_of _ (by decide +kernel)) ggX0_addGate_X0_addNode
theorem dX0_addGate_0 : decode cX0_addGate 0 = .ok (.aload_n 0, 1) := by decide +kernel
theorem dX0_addGate_1 : decode cX0_addGate 1 = .ok (.iconst 2, 1) := by decide +kernel
theorem dX0_addGate_2 : decode cX0_addGate 2 = .ok (.invokevirtual 59, 3) := by decide +kernel
theorem dX0_addGate_5 : decode cX0_addGate 5 = .ok (.istore 5, 2) := by decide +kernel
theorem dX0_addGate_7 : decode cX0_addGate 7 = .ok (.aload_n 0, 1) := by decide +kernel
theorem dX0_addGate_8 : decode cX0_addGate 8 = .ok (.getfield 15, 3) := by decide +kernel
theorem dX0_addGate_11 : decode cX0_addGate 11 = .ok (.iload 5, 2) := by decide +kernel
theorem dX0_addGate_13 : decode cX0_addGate 13 = .ok (.iload_n 1, 1) := by decide +kernel
theorem dX0_addGate_14 : decode cX0_addGate 14 = .ok (.iastore, 1) := by decide +kernel
theorem dX0_addGate_15 : decode cX0_addGate 15 = .ok (.aload_n 0, 1) := by decide +kernel
theorem dX0_addGate_16 : decode cX0_addGate 16 = .ok (.getfield 18, 3) := by decide +kernel
theorem dX0_addGate_19 : decode cX0_addGate 19 = .ok (.iload 5, 2) := by decide +kernel
theorem dX0_addGate_21 : decode cX0_addGate 21 = .ok (.iload_n 2, 1) := by decide +kernel
theorem dX0_addGate_22 : decode cX0_addGate 22 = .ok (.iastore, 1) := by decide +kernel
theorem dX0_addGate_23 : decode cX0_addGate 23 = .ok (.aload_n 0, 1) := by decide +kernel
theorem dX0_addGate_24 : decode cX0_addGate 24 = .ok (.getfield 21, 3) := by decide +kernel
theorem dX0_addGate_27 : decode cX0_addGate 27 = .ok (.iload 5, 2) := by decide +kernel
theorem dX0_addGate_29 : decode cX0_addGate 29 = .ok (.iload_n 3, 1) := by decide +kernel
theorem dX0_addGate_30 : decode cX0_addGate 30 = .ok (.iastore, 1) := by decide +kernel
theorem dX0_addGate_31 : decode cX0_addGate 31 = .ok (.aload_n 0, 1) := by decide +kernel
theorem dX0_addGate_32 : decode cX0_addGate 32 = .ok (.getfield 24, 3) := by decide +kernel
theorem dX0_addGate_35 : decode cX0_addGate 35 = .ok (.iload 5, 2) := by decide +kernel
theorem dX0_addGate_37 : decode cX0_addGate 37 = .ok (.iload 4, 2) := by decide +kernel
theorem dX0_addGate_39 : decode cX0_addGate 39 = .ok (.iastore, 1) := by decide +kernel
theorem dX0_addGate_40 : decode cX0_addGate 40 = .ok (.iload 5, 2) := by decide +kernel
theorem dX0_addGate_42 : decode cX0_addGate 42 = .ok (.ireturn, 1) := by decide +kernel
set_option maxRecDepth 20000 in
theorem ggX0_addStore_X0_addNode : GoodIn wsX0_addStore wsX0_addNode := goodIn_r _ [11, 12, 13, 14, 15, 16, 17, 18, 19, 20, 21, 22, 23, 24, 25, 26, 27, 28] (by decide +kernel) (by decide +kernel)
set_option maxRecDepth 20000 in
theorem gX0_addStore_X0_addNode : GoodIn wsX0_addStore (wsV RX0 59 RX0 yX0_addNode wsX0_addNode) := goodIn_app (goodIn_of _ (by decide +kernel)) ggX0_addStore_X0_addNode
theorem dX0_addStore_0 : decode cX0_addStore 0 = .ok (.aload_n 0, 1) := by decide +kernel
theorem dX0_addStore_1 : decode cX0_addStore 1 = .ok (.iconst 3, 1) := by decide +kernel
theorem dX0_addStore_2 : decode cX0_addStore 2 = .ok (.invokevirtual 59, 3) := by decide +kernel
theorem dX0_addStore_5 : decode cX0_addStore 5 = .ok (.istore_n 3, 1) := by decide +kernel
theorem dX0_addStore_6 : decode cX0_addStore 6 = .ok (.aload_n 0, 1) := by decide +kernel
theorem dX0_addStore_7 : decode cX0_addStore 7 = .ok (.getfield 30, 3) := by decide +kernel
theorem dX0_addStore_10 : decode cX0_addStore 10 = .ok (.iload_n 3, 1) := by decide +kernel
theorem dX0_addStore_11 : decode cX0_addStore 11 = .ok (.aload_n 0, 1) := by decide +kernel
theorem dX0_addStore_12 : decode cX0_addStore 12 = .ok (.getfield 56, 3) := by decide +kernel
theorem dX0_addStore_15 : decode cX0_addStore 15 = .ok (.iastore, 1) := by decide +kernel
theorem dX0_addStore_16 : decode cX0_addStore 16 = .ok (.aload_n 0, 1) := by decide +kernel
theorem dX0_addStore_17 : decode cX0_addStore 17 = .ok (.getfield 33, 3) := by decide +kernel
theorem dX0_addStore_20 : decode cX0_addStore 20 = .ok (.aload_n 0, 1) := by decide +kernel
theorem dX0_addStore_21 : decode cX0_addStore 21 = .ok (.getfield 56, 3) := by decide +kernel
theorem dX0_addStore_24 : decode cX0_addStore 24 = .ok (.iload_n 3, 1) := by decide +kernel
theorem dX0_addStore_25 : decode cX0_addStore 25 = .ok (.iastore, 1) := by decide +kernel
theorem dX0_addStore_26 : decode cX0_addStore 26 = .ok (.aload_n 0, 1) := by decide +kernel
theorem dX0_addStore_27 : decode cX0_addStore 27 = .ok (.getfield 36, 3) := by decide +kernel
theorem dX0_addStore_30 : decode cX0_addStore 30 = .ok (.aload_n 0, 1) := by decide +kernel
theorem dX0_addStore_31 : decode cX0_addStore 31 = .ok (.getfield 56, 3) := by decide +kernel
theorem dX0_addStore_34 : decode cX0_addStore 34 = .ok (.iload_n 1, 1) := by decide +kernel
theorem dX0_addStore_35 : decode cX0_addStore 35 = .ok (.iastore, 1) := by decide +kernel
theorem dX0_addStore_36 : decode cX0_addStore 36 = .ok (.aload_n 0, 1) := by decide +kernel
theorem dX0_addStore_37 : decode cX0_addStore 37 = .ok (.getfield 39, 3) := by decide +kernel
theorem dX0_addStore_40 : decode cX0_addStore 40 = .ok (.aload_n 0, 1) := by decide +kernel
theorem dX0_addStore_41 : decode cX0_addStore 41 = .ok (.getfield 56, 3) := by decide +kernel
theorem dX0_addStore_44 : decode cX0_addStore 44 = .ok (.iload_n 2, 1) := by decide +kernel
theorem dX0_addStore_45 : decode cX0_addStore 45 = .ok (.iastore, 1) := by decide +kernel
theorem dX0_addStore_46 : decode cX0_addStore 46 = .ok (.aload_n 0, 1) := by decide +kernel
theorem dX0_addStore_47 : decode cX0_addStore 47 = .ok (.getfield 42, 3) := by decide +kernel
theorem dX0_addStore_50 : decode cX0_addStore 50 = .ok (.aload_n 0, 1) := by decide +kernel
theorem dX0_addStore_51 : decode cX0_addStore 51 = .ok (.getfield 56, 3) := by decide +kernel
theorem dX0_addStore_54 : decode cX0_addStore 54 = .ok (.iload_n 3, 1) := by decide +kernel
theorem dX0_addStore_55 : decode cX0_addStore 55 = .ok (.iastore, 1) := by decide +kernel
theorem dX0_addStore_56 : decode cX0_addStore 56 = .ok (.aload_n 0, 1) := by decide +kernel
theorem dX0_addStore_57 : decode cX0_addStore 57 = .ok (.dup, 1) := by decide +kernel
theorem dX0_addStore_58 : decode cX0_addStore 58 = .ok (.getfield 56, 3) := by decide +kernel
theorem dX0_addStore_61 : decode cX0_addStore 61 = .ok (.iconst 1, 1) := by decide +kernel
theorem dX0_addStore_62 : decode cX0_addStore 62 = .ok (.iadd, 1) := by decide +kernel
theorem dX0_addStore_63 : decode cX0_addStore 63 = .ok (.putfield 56, 3) := by decide +kernel
theorem dX0_addStore_66 : decode cX0_addStore 66 = .ok (.iload_n 3, 1) := by decide +kernel
theorem dX0_addStore_67 : decode cX0_addStore 67 = .ok (.ireturn, 1) := by decide +kernel
theorem dX0_addNode_0 : decode cX0_addNode 0 = .ok (.aload_n 0, 1) := by decide +kernel
theorem dX0_addNode_1 : decode cX0_addNode 1 = .ok (.getfield 48, 3) := by decide +kernel
theorem dX0_addNode_4 : decode cX0_addNode 4 = .ok (.istore_n 2, 1) := by decide +kernel
theorem dX0_addNode_5 : decode cX0_addNode 5 = .ok (.aload_n 0, 1) := by decide +kernel
theorem dX0_addNode_6 : decode cX0_addNode 6 = .ok (.getfield 9, 3) := by decide +kernel
theorem dX0_addNode_9 : decode cX0_addNode 9 = .ok (.iload_n 2, 1) := by decide +kernel
theorem dX0_addNode_10 : decode cX0_addNode 10 = .ok (.iload_n 1, 1) := by decide +kernel
theorem dX0_addNode_11 : decode cX0_addNode 11 = .ok (.iastore, 1) := by decide +kernel
theorem dX0_addNode_12 : decode cX0_addNode 12 = .ok (.aload_n 0, 1) := by decide +kernel
theorem dX0_addNode_13 : decode cX0_addNode 13 = .ok (.dup, 1) := by decide +kernel
theorem dX0_addNode_14 : decode cX0_addNode 14 = .ok (.getfield 48, 3) := by decide +kernel
theorem dX0_addNode_17 : decode cX0_addNode 17 = .ok (.iconst 1, 1) := by decide +kernel
theorem dX0_addNode_18 : decode cX0_addNode 18 = .ok (.iadd, 1) := by decide +kernel
theorem dX0_addNode_19 : decode cX0_addNode 19 = .ok (.putfield 48, 3) := by decide +kernel
theorem dX0_addNode_22 : decode cX0_addNode 22 = .ok (.iload_n 2, 1) := by decide +kernel
theorem dX0_addNode_23 : decode cX0_addNode 23 = .ok (.ireturn, 1) := by decide +kernel
theorem dX0_aboutStore_0 : decode cX0_aboutStore 0 = .ok (.iload_n 2, 1) := by decide +kernel
theorem dX0_aboutStore_1 : decode cX0_aboutStore 1 = .ok (.lookupswitch 41 #[(2, 27), (3, 34)], 27) := by decide +kernel
theorem dX0_aboutStore_28 : decode cX0_aboutStore 28 = .ok (.aload_n 0, 1) := by decide +kernel
theorem dX0_aboutStore_29 : decode cX0_aboutStore 29 = .ok (.getfield 36, 3) := by decide +kernel
theorem dX0_aboutStore_32 : decode cX0_aboutStore 32 = .ok (.iload_n 1, 1) := by decide +kernel
theorem dX0_aboutStore_33 : decode cX0_aboutStore 33 = .ok (.iaload, 1) := by decide +kernel
theorem dX0_aboutStore_34 : decode cX0_aboutStore 34 = .ok (.ireturn, 1) := by decide +kernel
theorem dX0_aboutStore_35 : decode cX0_aboutStore 35 = .ok (.aload_n 0, 1) := by decide +kernel
theorem dX0_aboutStore_36 : decode cX0_aboutStore 36 = .ok (.getfield 39, 3) := by decide +kernel
theorem dX0_aboutStore_39 : decode cX0_aboutStore 39 = .ok (.iload_n 1, 1) := by decide +kernel
theorem dX0_aboutStore_40 : decode cX0_aboutStore 40 = .ok (.iaload, 1) := by decide +kernel
theorem dX0_aboutStore_41 : decode cX0_aboutStore 41 = .ok (.ireturn, 1) := by decide +kernel
theorem dX0_aboutStore_42 : decode cX0_aboutStore 42 = .ok (.aload_n 0, 1) := by decide +kernel
theorem dX0_aboutStore_43 : decode cX0_aboutStore 43 = .ok (.getfield 42, 3) := by decide +kernel
theorem dX0_aboutStore_46 : decode cX0_aboutStore 46 = .ok (.iload_n 1, 1) := by decide +kernel
theorem dX0_aboutStore_47 : decode cX0_aboutStore 47 = .ok (.iaload, 1) := by decide +kernel
theorem dX0_aboutStore_48 : decode cX0_aboutStore 48 = .ok (.ireturn, 1) := by decide +kernel
theorem dX0_storesOf_0 : decode cX0_storesOf 0 = .ok (.iconst 0, 1) := by decide +kernel
theorem dX0_storesOf_1 : decode cX0_storesOf 1 = .ok (.istore_n 2, 1) := by decide +kernel
theorem dX0_storesOf_2 : decode cX0_storesOf 2 = .ok (.iconst 0, 1) := by decide +kernel
theorem dX0_storesOf_3 : decode cX0_storesOf 3 = .ok (.istore_n 3, 1) := by decide +kernel
theorem dX0_storesOf_4 : decode cX0_storesOf 4 = .ok (.iload_n 3, 1) := by decide +kernel
theorem dX0_storesOf_5 : decode cX0_storesOf 5 = .ok (.aload_n 0, 1) := by decide +kernel
theorem dX0_storesOf_6 : decode cX0_storesOf 6 = .ok (.getfield 56, 3) := by decide +kernel
theorem dX0_storesOf_9 : decode cX0_storesOf 9 = .ok (.if_icmp .ge 39, 3) := by decide +kernel
theorem dX0_storesOf_12 : decode cX0_storesOf 12 = .ok (.aload_n 0, 1) := by decide +kernel
theorem dX0_storesOf_13 : decode cX0_storesOf 13 = .ok (.getfield 36, 3) := by decide +kernel
theorem dX0_storesOf_16 : decode cX0_storesOf 16 = .ok (.iload_n 3, 1) := by decide +kernel
theorem dX0_storesOf_17 : decode cX0_storesOf 17 = .ok (.iaload, 1) := by decide +kernel
theorem dX0_storesOf_18 : decode cX0_storesOf 18 = .ok (.bipush (-9), 2) := by decide +kernel
theorem dX0_storesOf_20 : decode cX0_storesOf 20 = .ok (.if_icmp .eq 22, 3) := by decide +kernel
theorem dX0_storesOf_23 : decode cX0_storesOf 23 = .ok (.iload_n 1, 1) := by decide +kernel
theorem dX0_storesOf_24 : decode cX0_storesOf 24 = .ok (.aload_n 0, 1) := by decide +kernel
theorem dX0_storesOf_25 : decode cX0_storesOf 25 = .ok (.getfield 36, 3) := by decide +kernel
theorem dX0_storesOf_28 : decode cX0_storesOf 28 = .ok (.iload_n 3, 1) := by decide +kernel
theorem dX0_storesOf_29 : decode cX0_storesOf 29 = .ok (.iaload, 1) := by decide +kernel
theorem dX0_storesOf_30 : decode cX0_storesOf 30 = .ok (.ishr, 1) := by decide +kernel
theorem dX0_storesOf_31 : decode cX0_storesOf 31 = .ok (.iconst 1, 1) := by decide +kernel
theorem dX0_storesOf_32 : decode cX0_storesOf 32 = .ok (.iand, 1) := by decide +kernel
theorem dX0_storesOf_33 : decode cX0_storesOf 33 = .ok (.ifCond .eq 9, 3) := by decide +kernel
theorem dX0_storesOf_36 : decode cX0_storesOf 36 = .ok (.iload_n 2, 1) := by decide +kernel
theorem dX0_storesOf_37 : decode cX0_storesOf 37 = .ok (.iconst 1, 1) := by decide +kernel
theorem dX0_storesOf_38 : decode cX0_storesOf 38 = .ok (.iload_n 3, 1) := by decide +kernel
theorem dX0_storesOf_39 : decode cX0_storesOf 39 = .ok (.ishl, 1) := by decide +kernel
theorem dX0_storesOf_40 : decode cX0_storesOf 40 = .ok (.ior, 1) := by decide +kernel
theorem dX0_storesOf_41 : decode cX0_storesOf 41 = .ok (.istore_n 2, 1) := by decide +kernel
theorem dX0_storesOf_42 : decode cX0_storesOf 42 = .ok (.iinc 3 1, 3) := by decide +kernel
theorem dX0_storesOf_45 : decode cX0_storesOf 45 = .ok (.goto (-41), 3) := by decide +kernel
theorem dX0_storesOf_48 : decode cX0_storesOf 48 = .ok (.iload_n 2, 1) := by decide +kernel
theorem dX0_storesOf_49 : decode cX0_storesOf 49 = .ok (.ireturn, 1) := by decide +kernel
theorem dX0_beginBits_0 : decode cX0_beginBits 0 = .ok (.iconst 0, 1) := by decide +kernel
theorem dX0_beginBits_1 : decode cX0_beginBits 1 = .ok (.istore_n 1, 1) := by decide +kernel
theorem dX0_beginBits_2 : decode cX0_beginBits 2 = .ok (.iconst 0, 1) := by decide +kernel
theorem dX0_beginBits_3 : decode cX0_beginBits 3 = .ok (.istore_n 2, 1) := by decide +kernel
theorem dX0_beginBits_4 : decode cX0_beginBits 4 = .ok (.iload_n 2, 1) := by decide +kernel
theorem dX0_beginBits_5 : decode cX0_beginBits 5 = .ok (.aload_n 0, 1) := by decide +kernel
theorem dX0_beginBits_6 : decode cX0_beginBits 6 = .ok (.getfield 56, 3) := by decide +kernel
theorem dX0_beginBits_9 : decode cX0_beginBits 9 = .ok (.if_icmp .ge 20, 3) := by decide +kernel
theorem dX0_beginBits_12 : decode cX0_beginBits 12 = .ok (.iload_n 1, 1) := by decide +kernel
theorem dX0_beginBits_13 : decode cX0_beginBits 13 = .ok (.aload_n 0, 1) := by decide +kernel
theorem dX0_beginBits_14 : decode cX0_beginBits 14 = .ok (.getfield 39, 3) := by decide +kernel
theorem dX0_beginBits_17 : decode cX0_beginBits 17 = .ok (.iload_n 2, 1) := by decide +kernel
theorem dX0_beginBits_18 : decode cX0_beginBits 18 = .ok (.iaload, 1) := by decide +kernel
theorem dX0_beginBits_19 : decode cX0_beginBits 19 = .ok (.iload_n 2, 1) := by decide +kernel
theorem dX0_beginBits_20 : decode cX0_beginBits 20 = .ok (.ishl, 1) := by decide +kernel
theorem dX0_beginBits_21 : decode cX0_beginBits 21 = .ok (.ior, 1) := by decide +kernel
theorem dX0_beginBits_22 : decode cX0_beginBits 22 = .ok (.istore_n 1, 1) := by decide +kernel
theorem dX0_beginBits_23 : decode cX0_beginBits 23 = .ok (.iinc 2 1, 3) := by decide +kernel
theorem dX0_beginBits_26 : decode cX0_beginBits 26 = .ok (.goto (-22), 3) := by decide +kernel
theorem dX0_beginBits_29 : decode cX0_beginBits 29 = .ok (.iload_n 1, 1) := by decide +kernel
theorem dX0_beginBits_30 : decode cX0_beginBits 30 = .ok (.ireturn, 1) := by decide +kernel
theorem dX0_openInputs_0 : decode cX0_openInputs 0 = .ok (.iconst 0, 1) := by decide +kernel
theorem dX0_openInputs_1 : decode cX0_openInputs 1 = .ok (.istore_n 2, 1) := by decide +kernel
theorem dX0_openInputs_2 : decode cX0_openInputs 2 = .ok (.iconst 0, 1) := by decide +kernel
theorem dX0_openInputs_3 : decode cX0_openInputs 3 = .ok (.istore_n 3, 1) := by decide +kernel
theorem dX0_openInputs_4 : decode cX0_openInputs 4 = .ok (.iload_n 3, 1) := by decide +kernel
theorem dX0_openInputs_5 : decode cX0_openInputs 5 = .ok (.aload_n 0, 1) := by decide +kernel
theorem dX0_openInputs_6 : decode cX0_openInputs 6 = .ok (.getfield 48, 3) := by decide +kernel
theorem dX0_openInputs_9 : decode cX0_openInputs 9 = .ok (.if_icmp .ge 35, 3) := by decide +kernel
theorem dX0_openInputs_12 : decode cX0_openInputs 12 = .ok (.aload_n 0, 1) := by decide +kernel
theorem dX0_openInputs_13 : decode cX0_openInputs 13 = .ok (.getfield 9, 3) := by decide +kernel
theorem dX0_openInputs_16 : decode cX0_openInputs 16 = .ok (.iload_n 3, 1) := by decide +kernel
theorem dX0_openInputs_17 : decode cX0_openInputs 17 = .ok (.iaload, 1) := by decide +kernel
theorem dX0_openInputs_18 : decode cX0_openInputs 18 = .ok (.ifCond .ne 20, 3) := by decide +kernel
theorem dX0_openInputs_21 : decode cX0_openInputs 21 = .ok (.iload_n 1, 1) := by decide +kernel
theorem dX0_openInputs_22 : decode cX0_openInputs 22 = .ok (.ifCond .ne 13, 3) := by decide +kernel
theorem dX0_openInputs_25 : decode cX0_openInputs 25 = .ok (.aload_n 0, 1) := by decide +kernel
theorem dX0_openInputs_26 : decode cX0_openInputs 26 = .ok (.getfield 27, 3) := by decide +kernel
theorem dX0_openInputs_29 : decode cX0_openInputs 29 = .ok (.iload_n 3, 1) := by decide +kernel
theorem dX0_openInputs_30 : decode cX0_openInputs 30 = .ok (.iaload, 1) := by decide +kernel
theorem dX0_openInputs_31 : decode cX0_openInputs 31 = .ok (.iconst 2, 1) := by decide +kernel
theorem dX0_openInputs_32 : decode cX0_openInputs 32 = .ok (.if_icmp .ne 6, 3) := by decide +kernel
theorem dX0_openInputs_35 : decode cX0_openInputs 35 = .ok (.iinc 2 1, 3) := by decide +kernel
theorem dX0_openInputs_38 : decode cX0_openInputs 38 = .ok (.iinc 3 1, 3) := by decide +kernel
theorem dX0_openInputs_41 : decode cX0_openInputs 41 = .ok (.goto (-37), 3) := by decide +kernel
theorem dX0_openInputs_44 : decode cX0_openInputs 44 = .ok (.iload_n 2, 1) := by decide +kernel
theorem dX0_openInputs_45 : decode cX0_openInputs 45 = .ok (.ireturn, 1) := by decide +kernel
theorem dX0_traceSources_0 : decode cX0_traceSources 0 = .ok (.iconst 0, 1) := by decide +kernel
theorem dX0_traceSources_1 : decode cX0_traceSources 1 = .ok (.istore_n 1, 1) := by decide +kernel
theorem dX0_traceSources_2 : decode cX0_traceSources 2 = .ok (.iload_n 1, 1) := by decide +kernel
theorem dX0_traceSources_3 : decode cX0_traceSources 3 = .ok (.aload_n 0, 1) := by decide +kernel
theorem dX0_traceSources_4 : decode cX0_traceSources 4 = .ok (.getfield 48, 3) := by decide +kernel
theorem dX0_traceSources_7 : decode cX0_traceSources 7 = .ok (.if_icmp .ge 97, 3) := by decide +kernel
theorem dX0_traceSources_10 : decode cX0_traceSources 10 = .ok (.aload_n 0, 1) := by decide +kernel
theorem dX0_traceSources_11 : decode cX0_traceSources 11 = .ok (.getfield 9, 3) := by decide +kernel
theorem dX0_traceSources_14 : decode cX0_traceSources 14 = .ok (.iload_n 1, 1) := by decide +kernel
theorem dX0_traceSources_15 : decode cX0_traceSources 15 = .ok (.iaload, 1) := by decide +kernel
theorem dX0_traceSources_16 : decode cX0_traceSources 16 = .ok (.iconst 3, 1) := by decide +kernel
theorem dX0_traceSources_17 : decode cX0_traceSources 17 = .ok (.if_icmp .ne 20, 3) := by decide +kernel
theorem dX0_traceSources_20 : decode cX0_traceSources 20 = .ok (.aload_n 0, 1) := by decide +kernel
theorem dX0_traceSources_21 : decode cX0_traceSources 21 = .ok (.getfield 45, 3) := by decide +kernel
theorem dX0_traceSources_24 : decode cX0_traceSources 24 = .ok (.iload_n 1, 1) := by decide +kernel
theorem dX0_traceSources_25 : decode cX0_traceSources 25 = .ok (.iconst 1, 1) := by decide +kernel
theorem dX0_traceSources_26 : decode cX0_traceSources 26 = .ok (.aload_n 0, 1) := by decide +kernel
theorem dX0_traceSources_27 : decode cX0_traceSources 27 = .ok (.getfield 30, 3) := by decide +kernel
theorem dX0_traceSources_30 : decode cX0_traceSources 30 = .ok (.iload_n 1, 1) := by decide +kernel
theorem dX0_traceSources_31 : decode cX0_traceSources 31 = .ok (.iaload, 1) := by decide +kernel
theorem dX0_traceSources_32 : decode cX0_traceSources 32 = .ok (.ishl, 1) := by decide +kernel
theorem dX0_traceSources_33 : decode cX0_traceSources 33 = .ok (.iastore, 1) := by decide +kernel
theorem dX0_traceSources_34 : decode cX0_traceSources 34 = .ok (.goto 64, 3) := by decide +kernel
theorem dX0_traceSources_37 : decode cX0_traceSources 37 = .ok (.aload_n 0, 1) := by decide +kernel
theorem dX0_traceSources_38 : decode cX0_traceSources 38 = .ok (.getfield 9, 3) := by decide +kernel
theorem dX0_traceSources_41 : decode cX0_traceSources 41 = .ok (.iload_n 1, 1) := by decide +kernel
theorem dX0_traceSources_42 : decode cX0_traceSources 42 = .ok (.iaload, 1) := by decide +kernel
theorem dX0_traceSources_43 : decode cX0_traceSources 43 = .ok (.iconst 2, 1) := by decide +kernel
theorem dX0_traceSources_44 : decode cX0_traceSources 44 = .ok (.if_icmp .ne 47, 3) := by decide +kernel
theorem dX0_traceSources_47 : decode cX0_traceSources 47 = .ok (.aload_n 0, 1) := by decide +kernel
theorem dX0_traceSources_48 : decode cX0_traceSources 48 = .ok (.getfield 45, 3) := by decide +kernel
theorem dX0_traceSources_51 : decode cX0_traceSources 51 = .ok (.iload_n 1, 1) := by decide +kernel
theorem dX0_traceSources_52 : decode cX0_traceSources 52 = .ok (.aload_n 0, 1) := by decide +kernel
theorem dX0_traceSources_53 : decode cX0_traceSources 53 = .ok (.getfield 45, 3) := by decide +kernel
theorem dX0_traceSources_56 : decode cX0_traceSources 56 = .ok (.aload_n 0, 1) := by decide +kernel
theorem dX0_traceSources_57 : decode cX0_traceSources 57 = .ok (.getfield 18, 3) := by decide +kernel
theorem dX0_traceSources_60 : decode cX0_traceSources 60 = .ok (.iload_n 1, 1) := by decide +kernel
theorem dX0_traceSources_61 : decode cX0_traceSources 61 = .ok (.iaload, 1) := by decide +kernel
theorem dX0_traceSources_62 : decode cX0_traceSources 62 = .ok (.iaload, 1) := by decide +kernel
theorem dX0_traceSources_63 : decode cX0_traceSources 63 = .ok (.aload_n 0, 1) := by decide +kernel
theorem dX0_traceSources_64 : decode cX0_traceSources 64 = .ok (.getfield 45, 3) := by decide +kernel
theorem dX0_traceSources_67 : decode cX0_traceSources 67 = .ok (.aload_n 0, 1) := by decide +kernel
theorem dX0_traceSources_68 : decode cX0_traceSources 68 = .ok (.getfield 21, 3) := by decide +kernel
theorem dX0_traceSources_71 : decode cX0_traceSources 71 = .ok (.iload_n 1, 1) := by decide +kernel
theorem dX0_traceSources_72 : decode cX0_traceSources 72 = .ok (.iaload, 1) := by decide +kernel
theorem dX0_traceSources_73 : decode cX0_traceSources 73 = .ok (.iaload, 1) := by decide +kernel
theorem dX0_traceSources_74 : decode cX0_traceSources 74 = .ok (.ior, 1) := by decide +kernel
theorem dX0_traceSources_75 : decode cX0_traceSources 75 = .ok (.aload_n 0, 1) := by decide +kernel
theorem dX0_traceSources_76 : decode cX0_traceSources 76 = .ok (.getfield 45, 3) := by decide +kernel
theorem dX0_traceSources_79 : decode cX0_traceSources 79 = .ok (.aload_n 0, 1) := by decide +kernel
theorem dX0_traceSources_80 : decode cX0_traceSources 80 = .ok (.getfield 24, 3) := by decide +kernel
theorem dX0_traceSources_83 : decode cX0_traceSources 83 = .ok (.iload_n 1, 1) := by decide +kernel
theorem dX0_traceSources_84 : decode cX0_traceSources 84 = .ok (.iaload, 1) := by decide +kernel
theorem dX0_traceSources_85 : decode cX0_traceSources 85 = .ok (.iaload, 1) := by decide +kernel
theorem dX0_traceSources_86 : decode cX0_traceSources 86 = .ok (.ior, 1) := by decide +kernel
theorem dX0_traceSources_87 : decode cX0_traceSources 87 = .ok (.iastore, 1) := by decide +kernel
theorem dX0_traceSources_88 : decode cX0_traceSources 88 = .ok (.goto 10, 3) := by decide +kernel
theorem dX0_traceSources_91 : decode cX0_traceSources 91 = .ok (.aload_n 0, 1) := by decide +kernel
theorem dX0_traceSources_92 : decode cX0_traceSources 92 = .ok (.getfield 45, 3) := by decide +kernel
theorem dX0_traceSources_95 : decode cX0_traceSources 95 = .ok (.iload_n 1, 1) := by decide +kernel
theorem dX0_traceSources_96 : decode cX0_traceSources 96 = .ok (.iconst 0, 1) := by decide +kernel
theorem dX0_traceSources_97 : decode cX0_traceSources 97 = .ok (.iastore, 1) := by decide +kernel
theorem dX0_traceSources_98 : decode cX0_traceSources 98 = .ok (.iinc 1 1, 3) := by decide +kernel
theorem dX0_traceSources_101 : decode cX0_traceSources 101 = .ok (.goto (-99), 3) := by decide +kernel
theorem dX0_traceSources_104 : decode cX0_traceSources 104 = .ok (.return_, 1) := by decide +kernel
theorem dX0_leans_0 : decode cX0_leans 0 = .ok (.aload_n 0, 1) := by decide +kernel
theorem dX0_leans_1 : decode cX0_leans 1 = .ok (.getfield 45, 3) := by decide +kernel
theorem dX0_leans_4 : decode cX0_leans 4 = .ok (.aload_n 0, 1) := by decide +kernel
theorem dX0_leans_5 : decode cX0_leans 5 = .ok (.getfield 42, 3) := by decide +kernel
theorem dX0_leans_8 : decode cX0_leans 8 = .ok (.iload_n 1, 1) := by decide +kernel
theorem dX0_leans_9 : decode cX0_leans 9 = .ok (.iaload, 1) := by decide +kernel
theorem dX0_leans_10 : decode cX0_leans 10 = .ok (.iaload, 1) := by decide +kernel
theorem dX0_leans_11 : decode cX0_leans 11 = .ok (.iload_n 2, 1) := by decide +kernel
theorem dX0_leans_12 : decode cX0_leans 12 = .ok (.ishr, 1) := by decide +kernel
theorem dX0_leans_13 : decode cX0_leans 13 = .ok (.iconst 1, 1) := by decide +kernel
theorem dX0_leans_14 : decode cX0_leans 14 = .ok (.iand, 1) := by decide +kernel
theorem dX0_leans_15 : decode cX0_leans 15 = .ok (.ifCond .eq 7, 3) := by decide +kernel
theorem dX0_leans_18 : decode cX0_leans 18 = .ok (.iconst 1, 1) := by decide +kernel
theorem dX0_leans_19 : decode cX0_leans 19 = .ok (.goto 4, 3) := by decide +kernel
theorem dX0_leans_22 : decode cX0_leans 22 = .ok (.iconst 0, 1) := by decide +kernel
theorem dX0_leans_23 : decode cX0_leans 23 = .ok (.ireturn, 1) := by decide +kernel
set_option maxRecDepth 20000 in
theorem ggX0_crosses_X0_leans : GoodIn wsX0_crosses wsX0_leans := goodIn_r _ [6, 7, 8, 9, 10, 11, 12, 13, 14, 15, 16, 17, 18, 19, 20, 21, 22, 23] (by decide +kernel) (by decide +kernel)
set_option maxRecDepth 20000 in
theorem gX0_crosses_X0_leans : GoodIn wsX0_crosses (wsV RX0 66 RX0 yX0_leans wsX0_leans) := goodIn_app (goodIn_of _ (by decide +kernel)) ggX0_crosses_X0_leans
theorem dX0_crosses_0 : decode cX0_crosses 0 = .ok (.aload_n 0, 1) := by decide +kernel
theorem dX0_crosses_1 : decode cX0_crosses 1 = .ok (.getfield 36, 3) := by decide +kernel
theorem dX0_crosses_4 : decode cX0_crosses 4 = .ok (.iload_n 1, 1) := by decide +kernel
theorem dX0_crosses_5 : decode cX0_crosses 5 = .ok (.iaload, 1) := by decide +kernel
theorem dX0_crosses_6 : decode cX0_crosses 6 = .ok (.aload_n 0, 1) := by decide +kernel
theorem dX0_crosses_7 : decode cX0_crosses 7 = .ok (.getfield 36, 3) := by decide +kernel
theorem dX0_crosses_10 : decode cX0_crosses 10 = .ok (.iload_n 2, 1) := by decide +kernel
theorem dX0_crosses_11 : decode cX0_crosses 11 = .ok (.iaload, 1) := by decide +kernel
theorem dX0_crosses_12 : decode cX0_crosses 12 = .ok (.if_icmp .eq 16, 3) := by decide +kernel
theorem dX0_crosses_15 : decode cX0_crosses 15 = .ok (.aload_n 0, 1) := by decide +kernel
theorem dX0_crosses_16 : decode cX0_crosses 16 = .ok (.iload_n 2, 1) := by decide +kernel
theorem dX0_crosses_17 : decode cX0_crosses 17 = .ok (.iload_n 1, 1) := by decide +kernel
theorem dX0_crosses_18 : decode cX0_crosses 18 = .ok (.invokevirtual 66, 3) := by decide +kernel
theorem dX0_crosses_21 : decode cX0_crosses 21 = .ok (.ifCond .eq 7, 3) := by decide +kernel
theorem dX0_crosses_24 : decode cX0_crosses 24 = .ok (.iconst 1, 1) := by decide +kernel
theorem dX0_crosses_25 : decode cX0_crosses 25 = .ok (.goto 4, 3) := by decide +kernel
theorem dX0_crosses_28 : decode cX0_crosses 28 = .ok (.iconst 0, 1) := by decide +kernel
theorem dX0_crosses_29 : decode cX0_crosses 29 = .ok (.ireturn, 1) := by decide +kernel
theorem dX1_init_0 : decode cX1_init 0 = .ok (.aload_n 0, 1) := by decide +kernel
theorem dX1_init_1 : decode cX1_init 1 = .ok (.invokespecial 3, 3) := by decide +kernel
theorem dX1_init_4 : decode cX1_init 4 = .ok (.aload_n 0, 1) := by decide +kernel
theorem dX1_init_5 : decode cX1_init 5 = .ok (.bipush 16, 2) := by decide +kernel
theorem dX1_init_7 : decode cX1_init 7 = .ok (.newarray .int, 2) := by decide +kernel
theorem dX1_init_9 : decode cX1_init 9 = .ok (.putfield 9, 3) := by decide +kernel
theorem dX1_init_12 : decode cX1_init 12 = .ok (.aload_n 0, 1) := by decide +kernel
theorem dX1_init_13 : decode cX1_init 13 = .ok (.iconst 4, 1) := by decide +kernel
theorem dX1_init_14 : decode cX1_init 14 = .ok (.newarray .int, 2) := by decide +kernel
theorem dX1_init_16 : decode cX1_init 16 = .ok (.putfield 15, 3) := by decide +kernel
theorem dX1_init_19 : decode cX1_init 19 = .ok (.iconst 0, 1) := by decide +kernel
theorem dX1_init_20 : decode cX1_init 20 = .ok (.istore_n 1, 1) := by decide +kernel
theorem dX1_init_21 : decode cX1_init 21 = .ok (.iload_n 1, 1) := by decide +kernel
theorem dX1_init_22 : decode cX1_init 22 = .ok (.bipush 16, 2) := by decide +kernel
theorem dX1_init_24 : decode cX1_init 24 = .ok (.if_icmp .ge 17, 3) := by decide +kernel
theorem dX1_init_27 : decode cX1_init 27 = .ok (.aload_n 0, 1) := by decide +kernel
theorem dX1_init_28 : decode cX1_init 28 = .ok (.getfield 9, 3) := by decide +kernel
theorem dX1_init_31 : decode cX1_init 31 = .ok (.iload_n 1, 1) := by decide +kernel
theorem dX1_init_32 : decode cX1_init 32 = .ok (.bipush (-9), 2) := by decide +kernel
theorem dX1_init_34 : decode cX1_init 34 = .ok (.iastore, 1) := by decide +kernel
theorem dX1_init_35 : decode cX1_init 35 = .ok (.iinc 1 1, 3) := by decide +kernel
theorem dX1_init_38 : decode cX1_init 38 = .ok (.goto (-17), 3) := by decide +kernel
theorem dX1_init_41 : decode cX1_init 41 = .ok (.return_, 1) := by decide +kernel
theorem dX1_change_0 : decode cX1_change 0 = .ok (.aload_n 0, 1) := by decide +kernel
theorem dX1_change_1 : decode cX1_change 1 = .ok (.getfield 9, 3) := by decide +kernel
theorem dX1_change_4 : decode cX1_change 4 = .ok (.iconst 4, 1) := by decide +kernel
theorem dX1_change_5 : decode cX1_change 5 = .ok (.iload_n 1, 1) := by decide +kernel
theorem dX1_change_6 : decode cX1_change 6 = .ok (.imul, 1) := by decide +kernel
theorem dX1_change_7 : decode cX1_change 7 = .ok (.iload_n 2, 1) := by decide +kernel
theorem dX1_change_8 : decode cX1_change 8 = .ok (.iadd, 1) := by decide +kernel
theorem dX1_change_9 : decode cX1_change 9 = .ok (.iaload, 1) := by decide +kernel
theorem dX1_change_10 : decode cX1_change 10 = .ok (.istore 4, 2) := by decide +kernel
theorem dX1_change_12 : decode cX1_change 12 = .ok (.aload_n 0, 1) := by decide +kernel
theorem dX1_change_13 : decode cX1_change 13 = .ok (.getfield 9, 3) := by decide +kernel
theorem dX1_change_16 : decode cX1_change 16 = .ok (.iconst 4, 1) := by decide +kernel
theorem dX1_change_17 : decode cX1_change 17 = .ok (.iload_n 1, 1) := by decide +kernel
theorem dX1_change_18 : decode cX1_change 18 = .ok (.imul, 1) := by decide +kernel
theorem dX1_change_19 : decode cX1_change 19 = .ok (.iload_n 2, 1) := by decide +kernel
theorem dX1_change_20 : decode cX1_change 20 = .ok (.iadd, 1) := by decide +kernel
theorem dX1_change_21 : decode cX1_change 21 = .ok (.iload_n 3, 1) := by decide +kernel
theorem dX1_change_22 : decode cX1_change 22 = .ok (.iastore, 1) := by decide +kernel
theorem dX1_change_23 : decode cX1_change 23 = .ok (.iload 4, 2) := by decide +kernel
theorem dX1_change_25 : decode cX1_change 25 = .ok (.ireturn, 1) := by decide +kernel
theorem dX1_standing_0 : decode cX1_standing 0 = .ok (.iconst 0, 1) := by decide +kernel
theorem dX1_standing_1 : decode cX1_standing 1 = .ok (.istore_n 1, 1) := by decide +kernel
theorem dX1_standing_2 : decode cX1_standing 2 = .ok (.iconst 0, 1) := by decide +kernel
theorem dX1_standing_3 : decode cX1_standing 3 = .ok (.istore_n 2, 1) := by decide +kernel
theorem dX1_standing_4 : decode cX1_standing 4 = .ok (.iload_n 2, 1) := by decide +kernel
theorem dX1_standing_5 : decode cX1_standing 5 = .ok (.bipush 16, 2) := by decide +kernel
theorem dX1_standing_7 : decode cX1_standing 7 = .ok (.if_icmp .ge 23, 3) := by decide +kernel
theorem dX1_standing_10 : decode cX1_standing 10 = .ok (.aload_n 0, 1) := by decide +kernel
theorem dX1_standing_11 : decode cX1_standing 11 = .ok (.getfield 9, 3) := by decide +kernel
theorem dX1_standing_14 : decode cX1_standing 14 = .ok (.iload_n 2, 1) := by decide +kernel
theorem dX1_standing_15 : decode cX1_standing 15 = .ok (.iaload, 1) := by decide +kernel
theorem dX1_standing_16 : decode cX1_standing 16 = .ok (.bipush (-9), 2) := by decide +kernel
theorem dX1_standing_18 : decode cX1_standing 18 = .ok (.if_icmp .eq 6, 3) := by decide +kernel
theorem dX1_standing_21 : decode cX1_standing 21 = .ok (.iinc 1 1, 3) := by decide +kernel
theorem dX1_standing_24 : decode cX1_standing 24 = .ok (.iinc 2 1, 3) := by decide +kernel
theorem dX1_standing_27 : decode cX1_standing 27 = .ok (.goto (-23), 3) := by decide +kernel
theorem dX1_standing_30 : decode cX1_standing 30 = .ok (.iload_n 1, 1) := by decide +kernel
theorem dX1_standing_31 : decode cX1_standing 31 = .ok (.ireturn, 1) := by decide +kernel
set_option maxRecDepth 20000 in
theorem ggX1_reckon_X1_delayAll : GoodIn wsX1_reckon wsX1_delayAll := goodIn_r _ [6, 7, 1, 8, 9] (by decide +kernel) (by decide +kernel)
set_option maxRecDepth 20000 in
theorem gX1_reckon_X1_delayAll : GoodIn wsX1_reckon (wsV RX1 18 RX1 yX1_delayAll wsX1_delayAll) := goodIn_app (goodIn_of _ (by decide +kernel)) ggX1_reckon_X1_delayAll
theorem dX1_reckon_0 : decode cX1_reckon 0 = .ok (.iconst 0, 1) := by decide +kernel
theorem dX1_reckon_1 : decode cX1_reckon 1 = .ok (.istore_n 1, 1) := by decide +kernel
theorem dX1_reckon_2 : decode cX1_reckon 2 = .ok (.iload_n 1, 1) := by decide +kernel
theorem dX1_reckon_3 : decode cX1_reckon 3 = .ok (.iconst 4, 1) := by decide +kernel
theorem dX1_reckon_4 : decode cX1_reckon 4 = .ok (.if_icmp .ge 16, 3) := by decide +kernel
theorem dX1_reckon_7 : decode cX1_reckon 7 = .ok (.aload_n 0, 1) := by decide +kernel
theorem dX1_reckon_8 : decode cX1_reckon 8 = .ok (.getfield 15, 3) := by decide +kernel
theorem dX1_reckon_11 : decode cX1_reckon 11 = .ok (.iload_n 1, 1) := by decide +kernel
theorem dX1_reckon_12 : decode cX1_reckon 12 = .ok (.iconst 0, 1) := by decide +kernel
theorem dX1_reckon_13 : decode cX1_reckon 13 = .ok (.iastore, 1) := by decide +kernel
theorem dX1_reckon_14 : decode cX1_reckon 14 = .ok (.iinc 1 1, 3) := by decide +kernel
theorem dX1_reckon_17 : decode cX1_reckon 17 = .ok (.goto (-15), 3) := by decide +kernel
theorem dX1_reckon_20 : decode cX1_reckon 20 = .ok (.iconst 0, 1) := by decide +kernel
theorem dX1_reckon_21 : decode cX1_reckon 21 = .ok (.istore_n 1, 1) := by decide +kernel
theorem dX1_reckon_22 : decode cX1_reckon 22 = .ok (.iload_n 1, 1) := by decide +kernel
theorem dX1_reckon_23 : decode cX1_reckon 23 = .ok (.iconst 4, 1) := by decide +kernel
theorem dX1_reckon_24 : decode cX1_reckon 24 = .ok (.if_icmp .ge 14, 3) := by decide +kernel
theorem dX1_reckon_27 : decode cX1_reckon 27 = .ok (.aload_n 0, 1) := by decide +kernel
theorem dX1_reckon_28 : decode cX1_reckon 28 = .ok (.iconst 0, 1) := by decide +kernel
theorem dX1_reckon_29 : decode cX1_reckon 29 = .ok (.invokevirtual 18, 3) := by decide +kernel
theorem dX1_reckon_32 : decode cX1_reckon 32 = .ok (.iinc 1 1, 3) := by decide +kernel
theorem dX1_reckon_35 : decode cX1_reckon 35 = .ok (.goto (-13), 3) := by decide +kernel
theorem dX1_reckon_38 : decode cX1_reckon 38 = .ok (.iconst 0, 1) := by decide +kernel
theorem dX1_reckon_39 : decode cX1_reckon 39 = .ok (.istore_n 1, 1) := by decide +kernel
theorem dX1_reckon_40 : decode cX1_reckon 40 = .ok (.iload_n 1, 1) := by decide +kernel
theorem dX1_reckon_41 : decode cX1_reckon 41 = .ok (.iconst 4, 1) := by decide +kernel
theorem dX1_reckon_42 : decode cX1_reckon 42 = .ok (.if_icmp .ge 14, 3) := by decide +kernel
theorem dX1_reckon_45 : decode cX1_reckon 45 = .ok (.aload_n 0, 1) := by decide +kernel
theorem dX1_reckon_46 : decode cX1_reckon 46 = .ok (.iconst 1, 1) := by decide +kernel
theorem dX1_reckon_47 : decode cX1_reckon 47 = .ok (.invokevirtual 18, 3) := by decide +kernel
theorem dX1_reckon_50 : decode cX1_reckon 50 = .ok (.iinc 1 1, 3) := by decide +kernel
theorem dX1_reckon_53 : decode cX1_reckon 53 = .ok (.goto (-13), 3) := by decide +kernel
theorem dX1_reckon_56 : decode cX1_reckon 56 = .ok (.return_, 1) := by decide +kernel
theorem dX1_delayAll_0 : decode cX1_delayAll 0 = .ok (.iconst 0, 1) := by decide +kernel
theorem dX1_delayAll_1 : decode cX1_delayAll 1 = .ok (.istore_n 2, 1) := by decide +kernel
theorem dX1_delayAll_2 : decode cX1_delayAll 2 = .ok (.iload_n 2, 1) := by decide +kernel
theorem dX1_delayAll_3 : decode cX1_delayAll 3 = .ok (.iconst 4, 1) := by decide +kernel
theorem dX1_delayAll_4 : decode cX1_delayAll 4 = .ok (.if_icmp .ge 119, 3) := by decide +kernel
theorem dX1_delayAll_7 : decode cX1_delayAll 7 = .ok (.iconst 0, 1) := by decide +kernel
theorem dX1_delayAll_8 : decode cX1_delayAll 8 = .ok (.istore_n 3, 1) := by decide +kernel
theorem dX1_delayAll_9 : decode cX1_delayAll 9 = .ok (.iload_n 3, 1) := by decide +kernel
theorem dX1_delayAll_10 : decode cX1_delayAll 10 = .ok (.iconst 4, 1) := by decide +kernel
theorem dX1_delayAll_11 : decode cX1_delayAll 11 = .ok (.if_icmp .ge 106, 3) := by decide +kernel
theorem dX1_delayAll_14 : decode cX1_delayAll 14 = .ok (.aload_n 0, 1) := by decide +kernel
theorem dX1_delayAll_15 : decode cX1_delayAll 15 = .ok (.getfield 9, 3) := by decide +kernel
theorem dX1_delayAll_18 : decode cX1_delayAll 18 = .ok (.iconst 4, 1) := by decide +kernel
theorem dX1_delayAll_19 : decode cX1_delayAll 19 = .ok (.iload_n 2, 1) := by decide +kernel
theorem dX1_delayAll_20 : decode cX1_delayAll 20 = .ok (.imul, 1) := by decide +kernel
theorem dX1_delayAll_21 : decode cX1_delayAll 21 = .ok (.iload_n 3, 1) := by decide +kernel
theorem dX1_delayAll_22 : decode cX1_delayAll 22 = .ok (.iadd, 1) := by decide +kernel
theorem dX1_delayAll_23 : decode cX1_delayAll 23 = .ok (.iaload, 1) := by decide +kernel
theorem dX1_delayAll_24 : decode cX1_delayAll 24 = .ok (.istore 4, 2) := by decide +kernel
theorem dX1_delayAll_26 : decode cX1_delayAll 26 = .ok (.iload 4, 2) := by decide +kernel
theorem dX1_delayAll_28 : decode cX1_delayAll 28 = .ok (.bipush (-9), 2) := by decide +kernel
theorem dX1_delayAll_30 : decode cX1_delayAll 30 = .ok (.if_icmp .eq 81, 3) := by decide +kernel
theorem dX1_delayAll_33 : decode cX1_delayAll 33 = .ok (.aload_n 0, 1) := by decide +kernel
theorem dX1_delayAll_34 : decode cX1_delayAll 34 = .ok (.getfield 15, 3) := by decide +kernel
theorem dX1_delayAll_37 : decode cX1_delayAll 37 = .ok (.iload_n 2, 1) := by decide +kernel
theorem dX1_delayAll_38 : decode cX1_delayAll 38 = .ok (.iaload, 1) := by decide +kernel
theorem dX1_delayAll_39 : decode cX1_delayAll 39 = .ok (.bipush (-9), 2) := by decide +kernel
theorem dX1_delayAll_41 : decode cX1_delayAll 41 = .ok (.if_icmp .ne 6, 3) := by decide +kernel
theorem dX1_delayAll_44 : decode cX1_delayAll 44 = .ok (.goto 67, 3) := by decide +kernel
theorem dX1_delayAll_47 : decode cX1_delayAll 47 = .ok (.aload_n 0, 1) := by decide +kernel
theorem dX1_delayAll_48 : decode cX1_delayAll 48 = .ok (.getfield 15, 3) := by decide +kernel
theorem dX1_delayAll_51 : decode cX1_delayAll 51 = .ok (.iload_n 3, 1) := by decide +kernel
theorem dX1_delayAll_52 : decode cX1_delayAll 52 = .ok (.iaload, 1) := by decide +kernel
theorem dX1_delayAll_53 : decode cX1_delayAll 53 = .ok (.bipush (-9), 2) := by decide +kernel
theorem dX1_delayAll_55 : decode cX1_delayAll 55 = .ok (.if_icmp .ne 14, 3) := by decide +kernel
theorem dX1_delayAll_58 : decode cX1_delayAll 58 = .ok (.aload_n 0, 1) := by decide +kernel
theorem dX1_delayAll_59 : decode cX1_delayAll 59 = .ok (.getfield 15, 3) := by decide +kernel
theorem dX1_delayAll_62 : decode cX1_delayAll 62 = .ok (.iload_n 2, 1) := by decide +kernel
theorem dX1_delayAll_63 : decode cX1_delayAll 63 = .ok (.bipush (-9), 2) := by decide +kernel
theorem dX1_delayAll_65 : decode cX1_delayAll 65 = .ok (.iastore, 1) := by decide +kernel
theorem dX1_delayAll_66 : decode cX1_delayAll 66 = .ok (.goto 45, 3) := by decide +kernel
theorem dX1_delayAll_69 : decode cX1_delayAll 69 = .ok (.aload_n 0, 1) := by decide +kernel
theorem dX1_delayAll_70 : decode cX1_delayAll 70 = .ok (.getfield 15, 3) := by decide +kernel
theorem dX1_delayAll_73 : decode cX1_delayAll 73 = .ok (.iload_n 3, 1) := by decide +kernel
theorem dX1_delayAll_74 : decode cX1_delayAll 74 = .ok (.iaload, 1) := by decide +kernel
theorem dX1_delayAll_75 : decode cX1_delayAll 75 = .ok (.iload 4, 2) := by decide +kernel
theorem dX1_delayAll_77 : decode cX1_delayAll 77 = .ok (.iadd, 1) := by decide +kernel
theorem dX1_delayAll_78 : decode cX1_delayAll 78 = .ok (.aload_n 0, 1) := by decide +kernel
theorem dX1_delayAll_79 : decode cX1_delayAll 79 = .ok (.getfield 15, 3) := by decide +kernel
theorem dX1_delayAll_82 : decode cX1_delayAll 82 = .ok (.iload_n 2, 1) := by decide +kernel
theorem dX1_delayAll_83 : decode cX1_delayAll 83 = .ok (.iaload, 1) := by decide +kernel
theorem dX1_delayAll_84 : decode cX1_delayAll 84 = .ok (.if_icmp .le 27, 3) := by decide +kernel
theorem dX1_delayAll_87 : decode cX1_delayAll 87 = .ok (.aload_n 0, 1) := by decide +kernel
theorem dX1_delayAll_88 : decode cX1_delayAll 88 = .ok (.getfield 15, 3) := by decide +kernel
theorem dX1_delayAll_91 : decode cX1_delayAll 91 = .ok (.iload_n 2, 1) := by decide +kernel
theorem dX1_delayAll_92 : decode cX1_delayAll 92 = .ok (.iload_n 1, 1) := by decide +kernel
theorem dX1_delayAll_93 : decode cX1_delayAll 93 = .ok (.ifCond .eq 8, 3) := by decide +kernel
theorem dX1_delayAll_96 : decode cX1_delayAll 96 = .ok (.bipush (-9), 2) := by decide +kernel
theorem dX1_delayAll_98 : decode cX1_delayAll 98 = .ok (.goto 12, 3) := by decide +kernel
theorem dX1_delayAll_101 : decode cX1_delayAll 101 = .ok (.aload_n 0, 1) := by decide +kernel
theorem dX1_delayAll_102 : decode cX1_delayAll 102 = .ok (.getfield 15, 3) := by decide +kernel
theorem dX1_delayAll_105 : decode cX1_delayAll 105 = .ok (.iload_n 3, 1) := by decide +kernel
theorem dX1_delayAll_106 : decode cX1_delayAll 106 = .ok (.iaload, 1) := by decide +kernel
theorem dX1_delayAll_107 : decode cX1_delayAll 107 = .ok (.iload 4, 2) := by decide +kernel
theorem dX1_delayAll_109 : decode cX1_delayAll 109 = .ok (.iadd, 1) := by decide +kernel
theorem dX1_delayAll_110 : decode cX1_delayAll 110 = .ok (.iastore, 1) := by decide +kernel
theorem dX1_delayAll_111 : decode cX1_delayAll 111 = .ok (.iinc 3 1, 3) := by decide +kernel
theorem dX1_delayAll_114 : decode cX1_delayAll 114 = .ok (.goto (-105), 3) := by decide +kernel
theorem dX1_delayAll_117 : decode cX1_delayAll 117 = .ok (.iinc 2 1, 3) := by decide +kernel
theorem dX1_delayAll_120 : decode cX1_delayAll 120 = .ok (.goto (-118), 3) := by decide +kernel
theorem dX1_delayAll_123 : decode cX1_delayAll 123 = .ok (.return_, 1) := by decide +kernel
theorem dX2_init_0 : decode cX2_init 0 = .ok (.aload_n 0, 1) := by decide +kernel
theorem dX2_init_1 : decode cX2_init 1 = .ok (.invokespecial 3, 3) := by decide +kernel
theorem dX2_init_4 : decode cX2_init 4 = .ok (.aload_n 0, 1) := by decide +kernel
theorem dX2_init_5 : decode cX2_init 5 = .ok (.bipush 32, 2) := by decide +kernel
theorem dX2_init_7 : decode cX2_init 7 = .ok (.newarray .int, 2) := by decide +kernel
theorem dX2_init_9 : decode cX2_init 9 = .ok (.putfield 9, 3) := by decide +kernel
theorem dX2_init_12 : decode cX2_init 12 = .ok (.aload_n 0, 1) := by decide +kernel
theorem dX2_init_13 : decode cX2_init 13 = .ok (.bipush 6, 2) := by decide +kernel
theorem dX2_init_15 : decode cX2_init 15 = .ok (.newarray .int, 2) := by decide +kernel
theorem dX2_init_17 : decode cX2_init 17 = .ok (.putfield 15, 3) := by decide +kernel
theorem dX2_init_20 : decode cX2_init 20 = .ok (.aload_n 0, 1) := by decide +kernel
theorem dX2_init_21 : decode cX2_init 21 = .ok (.aload_n 1, 1) := by decide +kernel
theorem dX2_init_22 : decode cX2_init 22 = .ok (.putfield 18, 3) := by decide +kernel
theorem dX2_init_25 : decode cX2_init 25 = .ok (.return_, 1) := by decide +kernel
theorem dX2_forget_0 : decode cX2_forget 0 = .ok (.iconst 0, 1) := by decide +kernel
theorem dX2_forget_1 : decode cX2_forget 1 = .ok (.istore_n 1, 1) := by decide +kernel
theorem dX2_forget_2 : decode cX2_forget 2 = .ok (.iload_n 1, 1) := by decide +kernel
theorem dX2_forget_3 : decode cX2_forget 3 = .ok (.bipush 6, 2) := by decide +kernel
theorem dX2_forget_5 : decode cX2_forget 5 = .ok (.if_icmp .ge 16, 3) := by decide +kernel
theorem dX2_forget_8 : decode cX2_forget 8 = .ok (.aload_n 0, 1) := by decide +kernel
theorem dX2_forget_9 : decode cX2_forget 9 = .ok (.getfield 15, 3) := by decide +kernel
theorem dX2_forget_12 : decode cX2_forget 12 = .ok (.iload_n 1, 1) := by decide +kernel
theorem dX2_forget_13 : decode cX2_forget 13 = .ok (.iconst 2, 1) := by decide +kernel
theorem dX2_forget_14 : decode cX2_forget 14 = .ok (.iastore, 1) := by decide +kernel
theorem dX2_forget_15 : decode cX2_forget 15 = .ok (.iinc 1 1, 3) := by decide +kernel
theorem dX2_forget_18 : decode cX2_forget 18 = .ok (.goto (-16), 3) := by decide +kernel
theorem dX2_forget_21 : decode cX2_forget 21 = .ok (.return_, 1) := by decide +kernel
set_option maxRecDepth 20000 in
theorem ggX2_tellAll_X2_gateTells : GoodIn wsX2_tellAll wsX2_gateTells := goodIn_r _ [12, 4, 1, 13, 14, 15, 16, 17, 18, 19, 20, 21, 22, 11, 23, 24, 25, 26, 27, 28, 29, 30, 31, 32, 33, 34, 35, 36, 37, 38, 39, 40, 41] (by decide +kernel) (by decide +kernel)
set_option maxRecDepth 20000 in
theorem gX2_tellAll_X2_gateTells : GoodIn wsX2_tellAll (wsV RX2 31 RX2 yX2_gateTells wsX2_gateTells) := goodIn_app (goodIn_of _ (by decide +kernel)) ggX2_tellAll_X2_gateTells
theorem dX2_tellAll_0 : decode cX2_tellAll 0 = .ok (.iconst 0, 1) := by decide +kernel
theorem dX2_tellAll_1 : decode cX2_tellAll 1 = .ok (.istore_n 1, 1) := by decide +kernel
theorem dX2_tellAll_2 : decode cX2_tellAll 2 = .ok (.iload_n 1, 1) := by decide +kernel
theorem dX2_tellAll_3 : decode cX2_tellAll 3 = .ok (.aload_n 0, 1) := by decide +kernel
theorem dX2_tellAll_4 : decode cX2_tellAll 4 = .ok (.getfield 18, 3) := by decide +kernel
theorem dX2_tellAll_7 : decode cX2_tellAll 7 = .ok (.getfield 22, 3) := by decide +kernel
theorem dX2_tellAll_10 : decode cX2_tellAll 10 = .ok (.if_icmp .ge 96, 3) := by decide +kernel
theorem dX2_tellAll_13 : decode cX2_tellAll 13 = .ok (.aload_n 0, 1) := by decide +kernel
theorem dX2_tellAll_14 : decode cX2_tellAll 14 = .ok (.getfield 18, 3) := by decide +kernel
theorem dX2_tellAll_17 : decode cX2_tellAll 17 = .ok (.getfield 28, 3) := by decide +kernel
theorem dX2_tellAll_20 : decode cX2_tellAll 20 = .ok (.iload_n 1, 1) := by decide +kernel
theorem dX2_tellAll_21 : decode cX2_tellAll 21 = .ok (.iaload, 1) := by decide +kernel
theorem dX2_tellAll_22 : decode cX2_tellAll 22 = .ok (.lookupswitch 63 #[(2, 26), (3, 40)], 26) := by decide +kernel
theorem dX2_tellAll_48 : decode cX2_tellAll 48 = .ok (.aload_n 0, 1) := by decide +kernel
theorem dX2_tellAll_49 : decode cX2_tellAll 49 = .ok (.getfield 9, 3) := by decide +kernel
theorem dX2_tellAll_52 : decode cX2_tellAll 52 = .ok (.iload_n 1, 1) := by decide +kernel
theorem dX2_tellAll_53 : decode cX2_tellAll 53 = .ok (.aload_n 0, 1) := by decide +kernel
theorem dX2_tellAll_54 : decode cX2_tellAll 54 = .ok (.iload_n 1, 1) := by decide +kernel
theorem dX2_tellAll_55 : decode cX2_tellAll 55 = .ok (.invokevirtual 31, 3) := by decide +kernel
theorem dX2_tellAll_58 : decode cX2_tellAll 58 = .ok (.iastore, 1) := by decide +kernel
theorem dX2_tellAll_59 : decode cX2_tellAll 59 = .ok (.goto 41, 3) := by decide +kernel
theorem dX2_tellAll_62 : decode cX2_tellAll 62 = .ok (.aload_n 0, 1) := by decide +kernel
theorem dX2_tellAll_63 : decode cX2_tellAll 63 = .ok (.getfield 9, 3) := by decide +kernel
theorem dX2_tellAll_66 : decode cX2_tellAll 66 = .ok (.iload_n 1, 1) := by decide +kernel
theorem dX2_tellAll_67 : decode cX2_tellAll 67 = .ok (.aload_n 0, 1) := by decide +kernel
theorem dX2_tellAll_68 : decode cX2_tellAll 68 = .ok (.getfield 15, 3) := by decide +kernel
theorem dX2_tellAll_71 : decode cX2_tellAll 71 = .ok (.aload_n 0, 1) := by decide +kernel
theorem dX2_tellAll_72 : decode cX2_tellAll 72 = .ok (.getfield 18, 3) := by decide +kernel
theorem dX2_tellAll_75 : decode cX2_tellAll 75 = .ok (.getfield 35, 3) := by decide +kernel
theorem dX2_tellAll_78 : decode cX2_tellAll 78 = .ok (.iload_n 1, 1) := by decide +kernel
theorem dX2_tellAll_79 : decode cX2_tellAll 79 = .ok (.iaload, 1) := by decide +kernel
theorem dX2_tellAll_80 : decode cX2_tellAll 80 = .ok (.iaload, 1) := by decide +kernel
theorem dX2_tellAll_81 : decode cX2_tellAll 81 = .ok (.iastore, 1) := by decide +kernel
theorem dX2_tellAll_82 : decode cX2_tellAll 82 = .ok (.goto 18, 3) := by decide +kernel
theorem dX2_tellAll_85 : decode cX2_tellAll 85 = .ok (.aload_n 0, 1) := by decide +kernel
theorem dX2_tellAll_86 : decode cX2_tellAll 86 = .ok (.getfield 9, 3) := by decide +kernel
theorem dX2_tellAll_89 : decode cX2_tellAll 89 = .ok (.iload_n 1, 1) := by decide +kernel
theorem dX2_tellAll_90 : decode cX2_tellAll 90 = .ok (.aload_n 0, 1) := by decide +kernel
theorem dX2_tellAll_91 : decode cX2_tellAll 91 = .ok (.getfield 18, 3) := by decide +kernel
theorem dX2_tellAll_94 : decode cX2_tellAll 94 = .ok (.getfield 38, 3) := by decide +kernel
theorem dX2_tellAll_97 : decode cX2_tellAll 97 = .ok (.iload_n 1, 1) := by decide +kernel
theorem dX2_tellAll_98 : decode cX2_tellAll 98 = .ok (.iaload, 1) := by decide +kernel
theorem dX2_tellAll_99 : decode cX2_tellAll 99 = .ok (.iastore, 1) := by decide +kernel
theorem dX2_tellAll_100 : decode cX2_tellAll 100 = .ok (.iinc 1 1, 3) := by decide +kernel
theorem dX2_tellAll_103 : decode cX2_tellAll 103 = .ok (.goto (-101), 3) := by decide +kernel
theorem dX2_tellAll_106 : decode cX2_tellAll 106 = .ok (.return_, 1) := by decide +kernel
set_option maxRecDepth 20000 in
theorem ggX2_gateTells_X2_choiceTells : GoodIn wsX2_gateTells wsX2_choiceTells := goodIn_r _ [14] (by decide +kernel) (by decide +kernel)
set_option maxRecDepth 20000 in
theorem gX2_gateTells_X2_choiceTells : GoodIn wsX2_gateTells (va_wsS RX2 59 yX2_choiceTells wsX2_choiceTells) := goodIn_app (goodIn_of _ (by decide +kernel)) ggX2_gateTells_X2_choiceTells
theorem dX2_gateTells_0 : decode cX2_gateTells 0 = .ok (.aload_n 0, 1) := by decide +kernel
theorem dX2_gateTells_1 : decode cX2_gateTells 1 = .ok (.getfield 9, 3) := by decide +kernel
theorem dX2_gateTells_4 : decode cX2_gateTells 4 = .ok (.aload_n 0, 1) := by decide +kernel
theorem dX2_gateTells_5 : decode cX2_gateTells 5 = .ok (.getfield 18, 3) := by decide +kernel
theorem dX2_gateTells_8 : decode cX2_gateTells 8 = .ok (.getfield 41, 3) := by decide +kernel
theorem dX2_gateTells_11 : decode cX2_gateTells 11 = .ok (.iload_n 1, 1) := by decide +kernel
theorem dX2_gateTells_12 : decode cX2_gateTells 12 = .ok (.iaload, 1) := by decide +kernel
theorem dX2_gateTells_13 : decode cX2_gateTells 13 = .ok (.iaload, 1) := by decide +kernel
theorem dX2_gateTells_14 : decode cX2_gateTells 14 = .ok (.istore_n 2, 1) := by decide +kernel
theorem dX2_gateTells_15 : decode cX2_gateTells 15 = .ok (.aload_n 0, 1) := by decide +kernel
theorem dX2_gateTells_16 : decode cX2_gateTells 16 = .ok (.getfield 9, 3) := by decide +kernel
theorem dX2_gateTells_19 : decode cX2_gateTells 19 = .ok (.aload_n 0, 1) := by decide +kernel
theorem dX2_gateTells_20 : decode cX2_gateTells 20 = .ok (.getfield 18, 3) := by decide +kernel
theorem dX2_gateTells_23 : decode cX2_gateTells 23 = .ok (.getfield 44, 3) := by decide +kernel
theorem dX2_gateTells_26 : decode cX2_gateTells 26 = .ok (.iload_n 1, 1) := by decide +kernel
theorem dX2_gateTells_27 : decode cX2_gateTells 27 = .ok (.iaload, 1) := by decide +kernel
theorem dX2_gateTells_28 : decode cX2_gateTells 28 = .ok (.iaload, 1) := by decide +kernel
theorem dX2_gateTells_29 : decode cX2_gateTells 29 = .ok (.istore_n 3, 1) := by decide +kernel
theorem dX2_gateTells_30 : decode cX2_gateTells 30 = .ok (.aload_n 0, 1) := by decide +kernel
theorem dX2_gateTells_31 : decode cX2_gateTells 31 = .ok (.getfield 9, 3) := by decide +kernel
theorem dX2_gateTells_34 : decode cX2_gateTells 34 = .ok (.aload_n 0, 1) := by decide +kernel
theorem dX2_gateTells_35 : decode cX2_gateTells 35 = .ok (.getfield 18, 3) := by decide +kernel
theorem dX2_gateTells_38 : decode cX2_gateTells 38 = .ok (.getfield 47, 3) := by decide +kernel
theorem dX2_gateTells_41 : decode cX2_gateTells 41 = .ok (.iload_n 1, 1) := by decide +kernel
theorem dX2_gateTells_42 : decode cX2_gateTells 42 = .ok (.iaload, 1) := by decide +kernel
theorem dX2_gateTells_43 : decode cX2_gateTells 43 = .ok (.iaload, 1) := by decide +kernel
theorem dX2_gateTells_44 : decode cX2_gateTells 44 = .ok (.istore 4, 2) := by decide +kernel
theorem dX2_gateTells_46 : decode cX2_gateTells 46 = .ok (.aload_n 0, 1) := by decide +kernel
theorem dX2_gateTells_47 : decode cX2_gateTells 47 = .ok (.getfield 18, 3) := by decide +kernel
theorem dX2_gateTells_50 : decode cX2_gateTells 50 = .ok (.getfield 50, 3) := by decide +kernel
theorem dX2_gateTells_53 : decode cX2_gateTells 53 = .ok (.iload_n 1, 1) := by decide +kernel
theorem dX2_gateTells_54 : decode cX2_gateTells 54 = .ok (.iaload, 1) := by decide +kernel
theorem dX2_gateTells_55 : decode cX2_gateTells 55 = .ok (.tableswitch 98 0 3 #[29, 42, 60, 80], 29) := by decide +kernel
theorem dX2_gateTells_84 : decode cX2_gateTells 84 = .ok (.iload_n 2, 1) := by decide +kernel
theorem dX2_gateTells_85 : decode cX2_gateTells 85 = .ok (.iconst 2, 1) := by decide +kernel
theorem dX2_gateTells_86 : decode cX2_gateTells 86 = .ok (.if_icmp .ne 7, 3) := by decide +kernel
theorem dX2_gateTells_89 : decode cX2_gateTells 89 = .ok (.iconst 2, 1) := by decide +kernel
theorem dX2_gateTells_90 : decode cX2_gateTells 90 = .ok (.goto 6, 3) := by decide +kernel
theorem dX2_gateTells_93 : decode cX2_gateTells 93 = .ok (.iconst 1, 1) := by decide +kernel
theorem dX2_gateTells_94 : decode cX2_gateTells 94 = .ok (.iload_n 2, 1) := by decide +kernel
theorem dX2_gateTells_95 : decode cX2_gateTells 95 = .ok (.isub, 1) := by decide +kernel
theorem dX2_gateTells_96 : decode cX2_gateTells 96 = .ok (.ireturn, 1) := by decide +kernel
theorem dX2_gateTells_97 : decode cX2_gateTells 97 = .ok (.iload_n 2, 1) := by decide +kernel
theorem dX2_gateTells_98 : decode cX2_gateTells 98 = .ok (.ifCond .eq 7, 3) := by decide +kernel
theorem dX2_gateTells_101 : decode cX2_gateTells 101 = .ok (.iload_n 3, 1) := by decide +kernel
theorem dX2_gateTells_102 : decode cX2_gateTells 102 = .ok (.ifCond .ne 7, 3) := by decide +kernel
theorem dX2_gateTells_105 : decode cX2_gateTells 105 = .ok (.iconst 0, 1) := by decide +kernel
theorem dX2_gateTells_106 : decode cX2_gateTells 106 = .ok (.goto 8, 3) := by decide +kernel
theorem dX2_gateTells_109 : decode cX2_gateTells 109 = .ok (.iload_n 2, 1) := by decide +kernel
theorem dX2_gateTells_110 : decode cX2_gateTells 110 = .ok (.iload_n 3, 1) := by decide +kernel
theorem dX2_gateTells_111 : decode cX2_gateTells 111 = .ok (.invokestatic 53, 3) := by decide +kernel
theorem dX2_gateTells_114 : decode cX2_gateTells 114 = .ok (.ireturn, 1) := by decide +kernel
theorem dX2_gateTells_115 : decode cX2_gateTells 115 = .ok (.iload_n 2, 1) := by decide +kernel
theorem dX2_gateTells_116 : decode cX2_gateTells 116 = .ok (.iconst 1, 1) := by decide +kernel
theorem dX2_gateTells_117 : decode cX2_gateTells 117 = .ok (.if_icmp .eq 8, 3) := by decide +kernel
theorem dX2_gateTells_120 : decode cX2_gateTells 120 = .ok (.iload_n 3, 1) := by decide +kernel
theorem dX2_gateTells_121 : decode cX2_gateTells 121 = .ok (.iconst 1, 1) := by decide +kernel
theorem dX2_gateTells_122 : decode cX2_gateTells 122 = .ok (.if_icmp .ne 7, 3) := by decide +kernel
theorem dX2_gateTells_125 : decode cX2_gateTells 125 = .ok (.iconst 1, 1) := by decide +kernel
theorem dX2_gateTells_126 : decode cX2_gateTells 126 = .ok (.goto 8, 3) := by decide +kernel
theorem dX2_gateTells_129 : decode cX2_gateTells 129 = .ok (.iload_n 2, 1) := by decide +kernel
theorem dX2_gateTells_130 : decode cX2_gateTells 130 = .ok (.iload_n 3, 1) := by decide +kernel
theorem dX2_gateTells_131 : decode cX2_gateTells 131 = .ok (.invokestatic 53, 3) := by decide +kernel
theorem dX2_gateTells_134 : decode cX2_gateTells 134 = .ok (.ireturn, 1) := by decide +kernel
theorem dX2_gateTells_135 : decode cX2_gateTells 135 = .ok (.iload_n 2, 1) := by decide +kernel
theorem dX2_gateTells_136 : decode cX2_gateTells 136 = .ok (.iconst 2, 1) := by decide +kernel
theorem dX2_gateTells_137 : decode cX2_gateTells 137 = .ok (.if_icmp .eq 8, 3) := by decide +kernel
theorem dX2_gateTells_140 : decode cX2_gateTells 140 = .ok (.iload_n 3, 1) := by decide +kernel
theorem dX2_gateTells_141 : decode cX2_gateTells 141 = .ok (.iconst 2, 1) := by decide +kernel
theorem dX2_gateTells_142 : decode cX2_gateTells 142 = .ok (.if_icmp .ne 7, 3) := by decide +kernel
theorem dX2_gateTells_145 : decode cX2_gateTells 145 = .ok (.iconst 2, 1) := by decide +kernel
theorem dX2_gateTells_146 : decode cX2_gateTells 146 = .ok (.goto 6, 3) := by decide +kernel
theorem dX2_gateTells_149 : decode cX2_gateTells 149 = .ok (.iload_n 2, 1) := by decide +kernel
theorem dX2_gateTells_150 : decode cX2_gateTells 150 = .ok (.iload_n 3, 1) := by decide +kernel
theorem dX2_gateTells_151 : decode cX2_gateTells 151 = .ok (.ixor, 1) := by decide +kernel
theorem dX2_gateTells_152 : decode cX2_gateTells 152 = .ok (.ireturn, 1) := by decide +kernel
theorem dX2_gateTells_153 : decode cX2_gateTells 153 = .ok (.iload_n 2, 1) := by decide +kernel
theorem dX2_gateTells_154 : decode cX2_gateTells 154 = .ok (.iload_n 3, 1) := by decide +kernel
theorem dX2_gateTells_155 : decode cX2_gateTells 155 = .ok (.iload 4, 2) := by decide +kernel
theorem dX2_gateTells_157 : decode cX2_gateTells 157 = .ok (.invokestatic 59, 3) := by decide +kernel
theorem dX2_gateTells_160 : decode cX2_gateTells 160 = .ok (.ireturn, 1) := by decide +kernel
theorem dX2_choiceTells_0 : decode cX2_choiceTells 0 = .ok (.iload_n 0, 1) := by decide +kernel
theorem dX2_choiceTells_1 : decode cX2_choiceTells 1 = .ok (.iconst 2, 1) := by decide +kernel
theorem dX2_choiceTells_2 : decode cX2_choiceTells 2 = .ok (.if_icmp .ne 14, 3) := by decide +kernel
theorem dX2_choiceTells_5 : decode cX2_choiceTells 5 = .ok (.iload_n 1, 1) := by decide +kernel
theorem dX2_choiceTells_6 : decode cX2_choiceTells 6 = .ok (.iload_n 2, 1) := by decide +kernel
theorem dX2_choiceTells_7 : decode cX2_choiceTells 7 = .ok (.if_icmp .ne 7, 3) := by decide +kernel
theorem dX2_choiceTells_10 : decode cX2_choiceTells 10 = .ok (.iload_n 1, 1) := by decide +kernel
theorem dX2_choiceTells_11 : decode cX2_choiceTells 11 = .ok (.goto 4, 3) := by decide +kernel
theorem dX2_choiceTells_14 : decode cX2_choiceTells 14 = .ok (.iconst 2, 1) := by decide +kernel
theorem dX2_choiceTells_15 : decode cX2_choiceTells 15 = .ok (.ireturn, 1) := by decide +kernel
theorem dX2_choiceTells_16 : decode cX2_choiceTells 16 = .ok (.iload_n 0, 1) := by decide +kernel
theorem dX2_choiceTells_17 : decode cX2_choiceTells 17 = .ok (.iconst 1, 1) := by decide +kernel
theorem dX2_choiceTells_18 : decode cX2_choiceTells 18 = .ok (.if_icmp .ne 7, 3) := by decide +kernel
theorem dX2_choiceTells_21 : decode cX2_choiceTells 21 = .ok (.iload_n 1, 1) := by decide +kernel
theorem dX2_choiceTells_22 : decode cX2_choiceTells 22 = .ok (.goto 4, 3) := by decide +kernel
theorem dX2_choiceTells_25 : decode cX2_choiceTells 25 = .ok (.iload_n 2, 1) := by decide +kernel
theorem dX2_choiceTells_26 : decode cX2_choiceTells 26 = .ok (.ireturn, 1) := by decide +kernel
set_option maxRecDepth 20000 in
theorem ggX2_pass_X2_tellAll : GoodIn wsX2_pass wsX2_tellAll := goodIn_r _ [11, 1, 12, 13, 5, 3, 14, 15, 16, 17, 18, 10, 19, 20, 21, 22, 23, 24, 25, 26, 27, 28, 29, 30, 31, 32, 33, 34, 35, 36, 37, 38, 39, 40, 41, 42, 43, 44, 45, 46, 47, 48] (by decide +kernel) (by decide +kernel)
set_option maxRecDepth 20000 in
theorem gX2_pass_X2_tellAll : GoodIn wsX2_pass (wsV RX2 63 RX2 yX2_tellAll wsX2_tellAll) := goodIn_app (goodIn_of _ (by decide +kernel)) ggX2_pass_X2_tellAll
theorem dX2_pass_0 : decode cX2_pass 0 = .ok (.aload_n 0, 1) := by decide +kernel
theorem dX2_pass_1 : decode cX2_pass 1 = .ok (.invokevirtual 63, 3) := by decide +kernel
theorem dX2_pass_4 : decode cX2_pass 4 = .ok (.iconst 0, 1) := by decide +kernel
theorem dX2_pass_5 : decode cX2_pass 5 = .ok (.istore_n 2, 1) := by decide +kernel
theorem dX2_pass_6 : decode cX2_pass 6 = .ok (.iload_n 2, 1) := by decide +kernel
theorem dX2_pass_7 : decode cX2_pass 7 = .ok (.aload_n 0, 1) := by decide +kernel
theorem dX2_pass_8 : decode cX2_pass 8 = .ok (.getfield 18, 3) := by decide +kernel
theorem dX2_pass_11 : decode cX2_pass 11 = .ok (.getfield 66, 3) := by decide +kernel
theorem dX2_pass_14 : decode cX2_pass 14 = .ok (.if_icmp .ge 59, 3) := by decide +kernel
theorem dX2_pass_17 : decode cX2_pass 17 = .ok (.iload_n 1, 1) := by decide +kernel
theorem dX2_pass_18 : decode cX2_pass 18 = .ok (.iload_n 2, 1) := by decide +kernel
theorem dX2_pass_19 : decode cX2_pass 19 = .ok (.ishr, 1) := by decide +kernel
theorem dX2_pass_20 : decode cX2_pass 20 = .ok (.iconst 1, 1) := by decide +kernel
theorem dX2_pass_21 : decode cX2_pass 21 = .ok (.iand, 1) := by decide +kernel
theorem dX2_pass_22 : decode cX2_pass 22 = .ok (.ifCond .eq 7, 3) := by decide +kernel
theorem dX2_pass_25 : decode cX2_pass 25 = .ok (.iconst 1, 1) := by decide +kernel
theorem dX2_pass_26 : decode cX2_pass 26 = .ok (.goto 4, 3) := by decide +kernel
theorem dX2_pass_29 : decode cX2_pass 29 = .ok (.iconst 0, 1) := by decide +kernel
theorem dX2_pass_30 : decode cX2_pass 30 = .ok (.istore_n 3, 1) := by decide +kernel
theorem dX2_pass_31 : decode cX2_pass 31 = .ok (.aload_n 0, 1) := by decide +kernel
theorem dX2_pass_32 : decode cX2_pass 32 = .ok (.getfield 15, 3) := by decide +kernel
theorem dX2_pass_35 : decode cX2_pass 35 = .ok (.iload_n 2, 1) := by decide +kernel
theorem dX2_pass_36 : decode cX2_pass 36 = .ok (.iload_n 3, 1) := by decide +kernel
theorem dX2_pass_37 : decode cX2_pass 37 = .ok (.ifCond .eq 15, 3) := by decide +kernel
theorem dX2_pass_40 : decode cX2_pass 40 = .ok (.aload_n 0, 1) := by decide +kernel
theorem dX2_pass_41 : decode cX2_pass 41 = .ok (.getfield 18, 3) := by decide +kernel
theorem dX2_pass_44 : decode cX2_pass 44 = .ok (.getfield 69, 3) := by decide +kernel
theorem dX2_pass_47 : decode cX2_pass 47 = .ok (.iload_n 2, 1) := by decide +kernel
theorem dX2_pass_48 : decode cX2_pass 48 = .ok (.iaload, 1) := by decide +kernel
theorem dX2_pass_49 : decode cX2_pass 49 = .ok (.goto 17, 3) := by decide +kernel
theorem dX2_pass_52 : decode cX2_pass 52 = .ok (.aload_n 0, 1) := by decide +kernel
theorem dX2_pass_53 : decode cX2_pass 53 = .ok (.getfield 9, 3) := by decide +kernel
theorem dX2_pass_56 : decode cX2_pass 56 = .ok (.aload_n 0, 1) := by decide +kernel
theorem dX2_pass_57 : decode cX2_pass 57 = .ok (.getfield 18, 3) := by decide +kernel
theorem dX2_pass_60 : decode cX2_pass 60 = .ok (.getfield 72, 3) := by decide +kernel
theorem dX2_pass_63 : decode cX2_pass 63 = .ok (.iload_n 2, 1) := by decide +kernel
theorem dX2_pass_64 : decode cX2_pass 64 = .ok (.iaload, 1) := by decide +kernel
theorem dX2_pass_65 : decode cX2_pass 65 = .ok (.iaload, 1) := by decide +kernel
theorem dX2_pass_66 : decode cX2_pass 66 = .ok (.iastore, 1) := by decide +kernel
theorem dX2_pass_67 : decode cX2_pass 67 = .ok (.iinc 2 1, 3) := by decide +kernel
theorem dX2_pass_70 : decode cX2_pass 70 = .ok (.goto (-64), 3) := by decide +kernel
theorem dX2_pass_73 : decode cX2_pass 73 = .ok (.return_, 1) := by decide +kernel
theorem dX2_knownStores_0 : decode cX2_knownStores 0 = .ok (.iconst 0, 1) := by decide +kernel
theorem dX2_knownStores_1 : decode cX2_knownStores 1 = .ok (.istore_n 1, 1) := by decide +kernel
theorem dX2_knownStores_2 : decode cX2_knownStores 2 = .ok (.iconst 0, 1) := by decide +kernel
theorem dX2_knownStores_3 : decode cX2_knownStores 3 = .ok (.istore_n 2, 1) := by decide +kernel
theorem dX2_knownStores_4 : decode cX2_knownStores 4 = .ok (.iload_n 2, 1) := by decide +kernel
theorem dX2_knownStores_5 : decode cX2_knownStores 5 = .ok (.aload_n 0, 1) := by decide +kernel
theorem dX2_knownStores_6 : decode cX2_knownStores 6 = .ok (.getfield 18, 3) := by decide +kernel
theorem dX2_knownStores_9 : decode cX2_knownStores 9 = .ok (.getfield 66, 3) := by decide +kernel
theorem dX2_knownStores_12 : decode cX2_knownStores 12 = .ok (.if_icmp .ge 22, 3) := by decide +kernel
theorem dX2_knownStores_15 : decode cX2_knownStores 15 = .ok (.aload_n 0, 1) := by decide +kernel
theorem dX2_knownStores_16 : decode cX2_knownStores 16 = .ok (.getfield 15, 3) := by decide +kernel
theorem dX2_knownStores_19 : decode cX2_knownStores 19 = .ok (.iload_n 2, 1) := by decide +kernel
theorem dX2_knownStores_20 : decode cX2_knownStores 20 = .ok (.iaload, 1) := by decide +kernel
theorem dX2_knownStores_21 : decode cX2_knownStores 21 = .ok (.iconst 2, 1) := by decide +kernel
theorem dX2_knownStores_22 : decode cX2_knownStores 22 = .ok (.if_icmp .eq 6, 3) := by decide +kernel
theorem dX2_knownStores_25 : decode cX2_knownStores 25 = .ok (.iinc 1 1, 3) := by decide +kernel
theorem dX2_knownStores_28 : decode cX2_knownStores 28 = .ok (.iinc 2 1, 3) := by decide +kernel
theorem dX2_knownStores_31 : decode cX2_knownStores 31 = .ok (.goto (-27), 3) := by decide +kernel
theorem dX2_knownStores_34 : decode cX2_knownStores 34 = .ok (.iload_n 1, 1) := by decide +kernel
theorem dX2_knownStores_35 : decode cX2_knownStores 35 = .ok (.ireturn, 1) := by decide +kernel
theorem dX3_init_0 : decode cX3_init 0 = .ok (.aload_n 0, 1) := by decide +kernel
theorem dX3_init_1 : decode cX3_init 1 = .ok (.invokespecial 3, 3) := by decide +kernel
theorem dX3_init_4 : decode cX3_init 4 = .ok (.aload_n 0, 1) := by decide +kernel
theorem dX3_init_5 : decode cX3_init 5 = .ok (.bipush 32, 2) := by decide +kernel
theorem dX3_init_7 : decode cX3_init 7 = .ok (.newarray .long, 2) := by decide +kernel
theorem dX3_init_9 : decode cX3_init 9 = .ok (.putfield 9, 3) := by decide +kernel
theorem dX3_init_12 : decode cX3_init 12 = .ok (.aload_n 0, 1) := by decide +kernel
theorem dX3_init_13 : decode cX3_init 13 = .ok (.bipush 64, 2) := by decide +kernel
theorem dX3_init_15 : decode cX3_init 15 = .ok (.newarray .long, 2) := by decide +kernel
theorem dX3_init_17 : decode cX3_init 17 = .ok (.putfield 15, 3) := by decide +kernel
theorem dX3_init_20 : decode cX3_init 20 = .ok (.aload_n 0, 1) := by decide +kernel
theorem dX3_init_21 : decode cX3_init 21 = .ok (.aload_n 1, 1) := by decide +kernel
theorem dX3_init_22 : decode cX3_init 22 = .ok (.putfield 18, 3) := by decide +kernel
theorem dX3_init_25 : decode cX3_init 25 = .ok (.return_, 1) := by decide +kernel
set_option maxRecDepth 20000 in
theorem ggX3_allRows_X0_rowCount : GoodIn wsX3_allRows wsX0_rowCount := goodIn_r _ [7, 8, 12, 13, 14, 15, 16, 17, 18, 19, 20, 21, 22, 23, 24, 25, 26] (by decide +kernel) (by decide +kernel)
set_option maxRecDepth 20000 in
theorem gX3_allRows_X0_rowCount : GoodIn wsX3_allRows (wsV RX3 22 RX0 yX0_rowCount wsX0_rowCount) := goodIn_app (goodIn_of _ (by decide +kernel)) ggX3_allRows_X0_rowCount
theorem dX3_allRows_0 : decode cX3_allRows 0 = .ok (.aload_n 0, 1) := by decide +kernel
theorem dX3_allRows_1 : decode cX3_allRows 1 = .ok (.getfield 18, 3) := by decide +kernel
theorem dX3_allRows_4 : decode cX3_allRows 4 = .ok (.invokevirtual 22, 3) := by decide +kernel
theorem dX3_allRows_7 : decode cX3_allRows 7 = .ok (.istore_n 1, 1) := by decide +kernel
theorem dX3_allRows_8 : decode cX3_allRows 8 = .ok (.iload_n 1, 1) := by decide +kernel
theorem dX3_allRows_9 : decode cX3_allRows 9 = .ok (.bipush 64, 2) := by decide +kernel
theorem dX3_allRows_11 : decode cX3_allRows 11 = .ok (.if_icmp .lt 9, 3) := by decide +kernel
theorem dX3_allRows_14 : decode cX3_allRows 14 = .ok (.ldc2_w 28, 3) := by decide +kernel
theorem dX3_allRows_17 : decode cX3_allRows 17 = .ok (.goto 8, 3) := by decide +kernel
theorem dX3_allRows_20 : decode cX3_allRows 20 = .ok (.lconst 1, 1) := by decide +kernel
theorem dX3_allRows_21 : decode cX3_allRows 21 = .ok (.iload_n 1, 1) := by decide +kernel
theorem dX3_allRows_22 : decode cX3_allRows 22 = .ok (.lshl, 1) := by decide +kernel
theorem dX3_allRows_23 : decode cX3_allRows 23 = .ok (.lconst 1, 1) := by decide +kernel
theorem dX3_allRows_24 : decode cX3_allRows 24 = .ok (.lsub, 1) := by decide +kernel
theorem dX3_allRows_25 : decode cX3_allRows 25 = .ok (.lreturn, 1) := by decide +kernel
set_option maxRecDepth 20000 in
theorem ggX3_prepare_X0_rowCount : GoodIn wsX3_prepare wsX0_rowCount := goodIn_r _ [7, 8, 48, 49, 50, 51, 52, 53, 54, 55, 56, 57, 58, 59, 60, 61, 62] (by decide +kernel) (by decide +kernel)
set_option maxRecDepth 20000 in
theorem gX3_prepare_X0_rowCount : GoodIn wsX3_prepare (wsV RX3 22 RX0 yX0_rowCount wsX0_rowCount) := goodIn_app (goodIn_of _ (by decide +kernel)) ggX3_prepare_X0_rowCount
set_option maxRecDepth 20000 in
theorem ggX3_prepare_X0_openInputs : GoodIn wsX3_prepare wsX0_openInputs := goodIn_r _ [12, 13, 14, 15, 48, 49, 50, 51, 52, 53, 54, 55, 56, 57, 58, 59, 60, 61, 62] (by decide +kernel) (by decide +kernel)
set_option maxRecDepth 20000 in
theorem gX3_prepare_X0_openInputs : GoodIn wsX3_prepare (wsV RX3 30 RX0 yX0_openInputs wsX0_openInputs) := goodIn_app (goodIn_of _ (by decide +kernel)) ggX3_prepare_X0_openInputs
set_option maxRecDepth 20000 in
theorem ggX3_prepare_X3_evaluate : GoodIn wsX3_prepare wsX3_evaluate := goodIn_r _ [20, 1, 21, 22, 23, 24, 25, 26, 27, 28, 19, 29, 30, 31, 32, 33, 34, 35, 36, 37, 38, 45, 46, 47, 48, 49, 50, 51, 52, 53, 54, 55, 56, 57, 58, 59, 60, 61, 62] (by decide +kernel) (by decide +kernel)
set_option maxRecDepth 20000 in
theorem gX3_prepare_X3_evaluate : GoodIn wsX3_prepare (wsV RX3 34 RX3 yX3_evaluate wsX3_evaluate) := goodIn_app (goodIn_of _ (by decide +kernel)) ggX3_prepare_X3_evaluate
set_option maxRecDepth 20000 in
theorem ggX3_prepare_X3_led : GoodIn wsX3_prepare wsX3_led := goodIn_r _ [42, 1, 43, 24, 44, 45, 46, 47, 48, 49, 50, 51, 52, 53, 54, 55, 56, 57, 58, 59, 60, 61, 62] (by decide +kernel) (by decide +kernel)
set_option maxRecDepth 20000 in
theorem gX3_prepare_X3_led : GoodIn wsX3_prepare (wsV RX3 38 RX3 yX3_led wsX3_led) := goodIn_app (goodIn_of _ (by decide +kernel)) ggX3_prepare_X3_led
theorem dX3_prepare_0 : decode cX3_prepare 0 = .ok (.aload_n 0, 1) := by decide +kernel
theorem dX3_prepare_1 : decode cX3_prepare 1 = .ok (.getfield 18, 3) := by decide +kernel
theorem dX3_prepare_4 : decode cX3_prepare 4 = .ok (.invokevirtual 22, 3) := by decide +kernel
theorem dX3_prepare_7 : decode cX3_prepare 7 = .ok (.istore_n 2, 1) := by decide +kernel
theorem dX3_prepare_8 : decode cX3_prepare 8 = .ok (.iconst 0, 1) := by decide +kernel
theorem dX3_prepare_9 : decode cX3_prepare 9 = .ok (.istore_n 3, 1) := by decide +kernel
theorem dX3_prepare_10 : decode cX3_prepare 10 = .ok (.iload_n 3, 1) := by decide +kernel
theorem dX3_prepare_11 : decode cX3_prepare 11 = .ok (.iload_n 2, 1) := by decide +kernel
theorem dX3_prepare_12 : decode cX3_prepare 12 = .ok (.if_icmp .ge 16, 3) := by decide +kernel
theorem dX3_prepare_15 : decode cX3_prepare 15 = .ok (.aload_n 0, 1) := by decide +kernel
theorem dX3_prepare_16 : decode cX3_prepare 16 = .ok (.getfield 15, 3) := by decide +kernel
theorem dX3_prepare_19 : decode cX3_prepare 19 = .ok (.iload_n 3, 1) := by decide +kernel
theorem dX3_prepare_20 : decode cX3_prepare 20 = .ok (.lconst 0, 1) := by decide +kernel
theorem dX3_prepare_21 : decode cX3_prepare 21 = .ok (.lastore, 1) := by decide +kernel
theorem dX3_prepare_22 : decode cX3_prepare 22 = .ok (.iinc 3 1, 3) := by decide +kernel
theorem dX3_prepare_25 : decode cX3_prepare 25 = .ok (.goto (-15), 3) := by decide +kernel
theorem dX3_prepare_28 : decode cX3_prepare 28 = .ok (.iconst 1, 1) := by decide +kernel
theorem dX3_prepare_29 : decode cX3_prepare 29 = .ok (.aload_n 0, 1) := by decide +kernel
theorem dX3_prepare_30 : decode cX3_prepare 30 = .ok (.getfield 18, 3) := by decide +kernel
theorem dX3_prepare_33 : decode cX3_prepare 33 = .ok (.iload_n 1, 1) := by decide +kernel
theorem dX3_prepare_34 : decode cX3_prepare 34 = .ok (.invokevirtual 30, 3) := by decide +kernel
theorem dX3_prepare_37 : decode cX3_prepare 37 = .ok (.ishl, 1) := by decide +kernel
theorem dX3_prepare_38 : decode cX3_prepare 38 = .ok (.istore_n 3, 1) := by decide +kernel
theorem dX3_prepare_39 : decode cX3_prepare 39 = .ok (.iconst 0, 1) := by decide +kernel
theorem dX3_prepare_40 : decode cX3_prepare 40 = .ok (.istore 4, 2) := by decide +kernel
theorem dX3_prepare_42 : decode cX3_prepare 42 = .ok (.iload 4, 2) := by decide +kernel
theorem dX3_prepare_44 : decode cX3_prepare 44 = .ok (.iload_n 3, 1) := by decide +kernel
theorem dX3_prepare_45 : decode cX3_prepare 45 = .ok (.if_icmp .ge 49, 3) := by decide +kernel
theorem dX3_prepare_48 : decode cX3_prepare 48 = .ok (.aload_n 0, 1) := by decide +kernel
theorem dX3_prepare_49 : decode cX3_prepare 49 = .ok (.iload 4, 2) := by decide +kernel
theorem dX3_prepare_51 : decode cX3_prepare 51 = .ok (.iload_n 1, 1) := by decide +kernel
theorem dX3_prepare_52 : decode cX3_prepare 52 = .ok (.invokevirtual 34, 3) := by decide +kernel
theorem dX3_prepare_55 : decode cX3_prepare 55 = .ok (.iconst 0, 1) := by decide +kernel
theorem dX3_prepare_56 : decode cX3_prepare 56 = .ok (.istore 5, 2) := by decide +kernel
theorem dX3_prepare_58 : decode cX3_prepare 58 = .ok (.iload 5, 2) := by decide +kernel
theorem dX3_prepare_60 : decode cX3_prepare 60 = .ok (.iload_n 2, 1) := by decide +kernel
theorem dX3_prepare_61 : decode cX3_prepare 61 = .ok (.if_icmp .ge 27, 3) := by decide +kernel
theorem dX3_prepare_64 : decode cX3_prepare 64 = .ok (.aload_n 0, 1) := by decide +kernel
theorem dX3_prepare_65 : decode cX3_prepare 65 = .ok (.getfield 15, 3) := by decide +kernel
theorem dX3_prepare_68 : decode cX3_prepare 68 = .ok (.iload 5, 2) := by decide +kernel
theorem dX3_prepare_70 : decode cX3_prepare 70 = .ok (.dup2, 1) := by decide +kernel
theorem dX3_prepare_71 : decode cX3_prepare 71 = .ok (.laload, 1) := by decide +kernel
theorem dX3_prepare_72 : decode cX3_prepare 72 = .ok (.lconst 1, 1) := by decide +kernel
theorem dX3_prepare_73 : decode cX3_prepare 73 = .ok (.aload_n 0, 1) := by decide +kernel
theorem dX3_prepare_74 : decode cX3_prepare 74 = .ok (.iload 5, 2) := by decide +kernel
theorem dX3_prepare_76 : decode cX3_prepare 76 = .ok (.invokevirtual 38, 3) := by decide +kernel
theorem dX3_prepare_79 : decode cX3_prepare 79 = .ok (.lshl, 1) := by decide +kernel
theorem dX3_prepare_80 : decode cX3_prepare 80 = .ok (.lor, 1) := by decide +kernel
theorem dX3_prepare_81 : decode cX3_prepare 81 = .ok (.lastore, 1) := by decide +kernel
theorem dX3_prepare_82 : decode cX3_prepare 82 = .ok (.iinc 5 1, 3) := by decide +kernel
theorem dX3_prepare_85 : decode cX3_prepare 85 = .ok (.goto (-27), 3) := by decide +kernel
theorem dX3_prepare_88 : decode cX3_prepare 88 = .ok (.iinc 4 1, 3) := by decide +kernel
theorem dX3_prepare_91 : decode cX3_prepare 91 = .ok (.goto (-49), 3) := by decide +kernel
theorem dX3_prepare_94 : decode cX3_prepare 94 = .ok (.return_, 1) := by decide +kernel
set_option maxRecDepth 20000 in
theorem ggX3_evaluate_X3_everywhere : GoodIn wsX3_evaluate wsX3_everywhere := goodIn_r _ [11, 12] (by decide +kernel) (by decide +kernel)
set_option maxRecDepth 20000 in
theorem gX3_evaluate_X3_everywhere : GoodIn wsX3_evaluate (va_wsS RX3 53 yX3_everywhere wsX3_everywhere) := goodIn_app (goodIn_of _ (by decide +kernel)) ggX3_evaluate_X3_everywhere
set_option maxRecDepth 20000 in
theorem ggX3_evaluate_X3_gateOnes : GoodIn wsX3_evaluate wsX3_gateOnes := goodIn_r _ [16, 5, 1, 17, 18, 19, 20, 12, 21, 22, 23, 24, 25, 26, 27, 28, 29, 30, 31, 32, 33, 34, 35, 36, 37, 38] (by decide +kernel) (by decide +kernel)
set_option maxRecDepth 20000 in
theorem gX3_evaluate_X3_gateOnes : GoodIn wsX3_evaluate (wsV RX3 57 RX3 yX3_gateOnes wsX3_gateOnes) := goodIn_app (goodIn_of _ (by decide +kernel)) ggX3_evaluate_X3_gateOnes
theorem dX3_evaluate_0 : decode cX3_evaluate 0 = .ok (.iload_n 1, 1) := by decide +kernel
theorem dX3_evaluate_1 : decode cX3_evaluate 1 = .ok (.istore_n 3, 1) := by decide +kernel
theorem dX3_evaluate_2 : decode cX3_evaluate 2 = .ok (.iconst 0, 1) := by decide +kernel
theorem dX3_evaluate_3 : decode cX3_evaluate 3 = .ok (.istore 4, 2) := by decide +kernel
theorem dX3_evaluate_5 : decode cX3_evaluate 5 = .ok (.iload 4, 2) := by decide +kernel
theorem dX3_evaluate_7 : decode cX3_evaluate 7 = .ok (.aload_n 0, 1) := by decide +kernel
theorem dX3_evaluate_8 : decode cX3_evaluate 8 = .ok (.getfield 18, 3) := by decide +kernel
theorem dX3_evaluate_11 : decode cX3_evaluate 11 = .ok (.getfield 42, 3) := by decide +kernel
theorem dX3_evaluate_14 : decode cX3_evaluate 14 = .ok (.if_icmp .ge 165, 3) := by decide +kernel
theorem dX3_evaluate_17 : decode cX3_evaluate 17 = .ok (.aload_n 0, 1) := by decide +kernel
theorem dX3_evaluate_18 : decode cX3_evaluate 18 = .ok (.getfield 18, 3) := by decide +kernel
theorem dX3_evaluate_21 : decode cX3_evaluate 21 = .ok (.getfield 46, 3) := by decide +kernel
theorem dX3_evaluate_24 : decode cX3_evaluate 24 = .ok (.iload 4, 2) := by decide +kernel
theorem dX3_evaluate_26 : decode cX3_evaluate 26 = .ok (.iaload, 1) := by decide +kernel
theorem dX3_evaluate_27 : decode cX3_evaluate 27 = .ok (.tableswitch 125 0 2 #[25, 86, 109], 25) := by decide +kernel
theorem dX3_evaluate_52 : decode cX3_evaluate 52 = .ok (.iload_n 2, 1) := by decide +kernel
theorem dX3_evaluate_53 : decode cX3_evaluate 53 = .ok (.ifCond .ne 17, 3) := by decide +kernel
theorem dX3_evaluate_56 : decode cX3_evaluate 56 = .ok (.aload_n 0, 1) := by decide +kernel
theorem dX3_evaluate_57 : decode cX3_evaluate 57 = .ok (.getfield 18, 3) := by decide +kernel
theorem dX3_evaluate_60 : decode cX3_evaluate 60 = .ok (.getfield 50, 3) := by decide +kernel
theorem dX3_evaluate_63 : decode cX3_evaluate 63 = .ok (.iload 4, 2) := by decide +kernel
theorem dX3_evaluate_65 : decode cX3_evaluate 65 = .ok (.iaload, 1) := by decide +kernel
theorem dX3_evaluate_66 : decode cX3_evaluate 66 = .ok (.iconst 2, 1) := by decide +kernel
theorem dX3_evaluate_67 : decode cX3_evaluate 67 = .ok (.if_icmp .ne 23, 3) := by decide +kernel
theorem dX3_evaluate_70 : decode cX3_evaluate 70 = .ok (.aload_n 0, 1) := by decide +kernel
theorem dX3_evaluate_71 : decode cX3_evaluate 71 = .ok (.getfield 9, 3) := by decide +kernel
theorem dX3_evaluate_74 : decode cX3_evaluate 74 = .ok (.iload 4, 2) := by decide +kernel
theorem dX3_evaluate_76 : decode cX3_evaluate 76 = .ok (.iload_n 3, 1) := by decide +kernel
theorem dX3_evaluate_77 : decode cX3_evaluate 77 = .ok (.iconst 1, 1) := by decide +kernel
theorem dX3_evaluate_78 : decode cX3_evaluate 78 = .ok (.iand, 1) := by decide +kernel
theorem dX3_evaluate_79 : decode cX3_evaluate 79 = .ok (.invokestatic 53, 3) := by decide +kernel
theorem dX3_evaluate_82 : decode cX3_evaluate 82 = .ok (.lastore, 1) := by decide +kernel
theorem dX3_evaluate_83 : decode cX3_evaluate 83 = .ok (.iload_n 3, 1) := by decide +kernel
theorem dX3_evaluate_84 : decode cX3_evaluate 84 = .ok (.iconst 1, 1) := by decide +kernel
theorem dX3_evaluate_85 : decode cX3_evaluate 85 = .ok (.ishr, 1) := by decide +kernel
theorem dX3_evaluate_86 : decode cX3_evaluate 86 = .ok (.istore_n 3, 1) := by decide +kernel
theorem dX3_evaluate_87 : decode cX3_evaluate 87 = .ok (.goto 86, 3) := by decide +kernel
theorem dX3_evaluate_90 : decode cX3_evaluate 90 = .ok (.aload_n 0, 1) := by decide +kernel
theorem dX3_evaluate_91 : decode cX3_evaluate 91 = .ok (.getfield 9, 3) := by decide +kernel
theorem dX3_evaluate_94 : decode cX3_evaluate 94 = .ok (.iload 4, 2) := by decide +kernel
theorem dX3_evaluate_96 : decode cX3_evaluate 96 = .ok (.aload_n 0, 1) := by decide +kernel
theorem dX3_evaluate_97 : decode cX3_evaluate 97 = .ok (.getfield 18, 3) := by decide +kernel
theorem dX3_evaluate_100 : decode cX3_evaluate 100 = .ok (.getfield 50, 3) := by decide +kernel
theorem dX3_evaluate_103 : decode cX3_evaluate 103 = .ok (.iload 4, 2) := by decide +kernel
theorem dX3_evaluate_105 : decode cX3_evaluate 105 = .ok (.iaload, 1) := by decide +kernel
theorem dX3_evaluate_106 : decode cX3_evaluate 106 = .ok (.invokestatic 53, 3) := by decide +kernel
theorem dX3_evaluate_109 : decode cX3_evaluate 109 = .ok (.lastore, 1) := by decide +kernel
theorem dX3_evaluate_110 : decode cX3_evaluate 110 = .ok (.goto 63, 3) := by decide +kernel
theorem dX3_evaluate_113 : decode cX3_evaluate 113 = .ok (.aload_n 0, 1) := by decide +kernel
theorem dX3_evaluate_114 : decode cX3_evaluate 114 = .ok (.getfield 9, 3) := by decide +kernel
theorem dX3_evaluate_117 : decode cX3_evaluate 117 = .ok (.iload 4, 2) := by decide +kernel
theorem dX3_evaluate_119 : decode cX3_evaluate 119 = .ok (.aload_n 0, 1) := by decide +kernel
theorem dX3_evaluate_120 : decode cX3_evaluate 120 = .ok (.getfield 18, 3) := by decide +kernel
theorem dX3_evaluate_123 : decode cX3_evaluate 123 = .ok (.getfield 50, 3) := by decide +kernel
theorem dX3_evaluate_126 : decode cX3_evaluate 126 = .ok (.iload 4, 2) := by decide +kernel
theorem dX3_evaluate_128 : decode cX3_evaluate 128 = .ok (.iaload, 1) := by decide +kernel
theorem dX3_evaluate_129 : decode cX3_evaluate 129 = .ok (.invokestatic 53, 3) := by decide +kernel
theorem dX3_evaluate_132 : decode cX3_evaluate 132 = .ok (.lastore, 1) := by decide +kernel
theorem dX3_evaluate_133 : decode cX3_evaluate 133 = .ok (.goto 40, 3) := by decide +kernel
theorem dX3_evaluate_136 : decode cX3_evaluate 136 = .ok (.aload_n 0, 1) := by decide +kernel
theorem dX3_evaluate_137 : decode cX3_evaluate 137 = .ok (.getfield 9, 3) := by decide +kernel
theorem dX3_evaluate_140 : decode cX3_evaluate 140 = .ok (.iload 4, 2) := by decide +kernel
theorem dX3_evaluate_142 : decode cX3_evaluate 142 = .ok (.aload_n 0, 1) := by decide +kernel
theorem dX3_evaluate_143 : decode cX3_evaluate 143 = .ok (.iload 4, 2) := by decide +kernel
theorem dX3_evaluate_145 : decode cX3_evaluate 145 = .ok (.invokevirtual 57, 3) := by decide +kernel
theorem dX3_evaluate_148 : decode cX3_evaluate 148 = .ok (.lastore, 1) := by decide +kernel
theorem dX3_evaluate_149 : decode cX3_evaluate 149 = .ok (.goto 24, 3) := by decide +kernel
theorem dX3_evaluate_152 : decode cX3_evaluate 152 = .ok (.aload_n 0, 1) := by decide +kernel
theorem dX3_evaluate_153 : decode cX3_evaluate 153 = .ok (.getfield 9, 3) := by decide +kernel
theorem dX3_evaluate_156 : decode cX3_evaluate 156 = .ok (.iload 4, 2) := by decide +kernel
theorem dX3_evaluate_158 : decode cX3_evaluate 158 = .ok (.getstatic 60, 3) := by decide +kernel
theorem dX3_evaluate_161 : decode cX3_evaluate 161 = .ok (.aload_n 0, 1) := by decide +kernel
theorem dX3_evaluate_162 : decode cX3_evaluate 162 = .ok (.getfield 18, 3) := by decide +kernel
theorem dX3_evaluate_165 : decode cX3_evaluate 165 = .ok (.getfield 63, 3) := by decide +kernel
theorem dX3_evaluate_168 : decode cX3_evaluate 168 = .ok (.iload 4, 2) := by decide +kernel
theorem dX3_evaluate_170 : decode cX3_evaluate 170 = .ok (.iaload, 1) := by decide +kernel
theorem dX3_evaluate_171 : decode cX3_evaluate 171 = .ok (.laload, 1) := by decide +kernel
theorem dX3_evaluate_172 : decode cX3_evaluate 172 = .ok (.lastore, 1) := by decide +kernel
theorem dX3_evaluate_173 : decode cX3_evaluate 173 = .ok (.iinc 4 1, 3) := by decide +kernel
theorem dX3_evaluate_176 : decode cX3_evaluate 176 = .ok (.goto (-171), 3) := by decide +kernel
theorem dX3_evaluate_179 : decode cX3_evaluate 179 = .ok (.return_, 1) := by decide +kernel
theorem dX3_everywhere_0 : decode cX3_everywhere 0 = .ok (.iload_n 0, 1) := by decide +kernel
theorem dX3_everywhere_1 : decode cX3_everywhere 1 = .ok (.iconst 1, 1) := by decide +kernel
theorem dX3_everywhere_2 : decode cX3_everywhere 2 = .ok (.if_icmp .ne 9, 3) := by decide +kernel
theorem dX3_everywhere_5 : decode cX3_everywhere 5 = .ok (.ldc2_w 28, 3) := by decide +kernel
theorem dX3_everywhere_8 : decode cX3_everywhere 8 = .ok (.goto 4, 3) := by decide +kernel
theorem dX3_everywhere_11 : decode cX3_everywhere 11 = .ok (.lconst 0, 1) := by decide +kernel
theorem dX3_everywhere_12 : decode cX3_everywhere 12 = .ok (.lreturn, 1) := by decide +kernel
theorem dX3_gateOnes_0 : decode cX3_gateOnes 0 = .ok (.aload_n 0, 1) := by decide +kernel
theorem dX3_gateOnes_1 : decode cX3_gateOnes 1 = .ok (.getfield 9, 3) := by decide +kernel
theorem dX3_gateOnes_4 : decode cX3_gateOnes 4 = .ok (.aload_n 0, 1) := by decide +kernel
theorem dX3_gateOnes_5 : decode cX3_gateOnes 5 = .ok (.getfield 18, 3) := by decide +kernel
theorem dX3_gateOnes_8 : decode cX3_gateOnes 8 = .ok (.getfield 66, 3) := by decide +kernel
theorem dX3_gateOnes_11 : decode cX3_gateOnes 11 = .ok (.iload_n 1, 1) := by decide +kernel
theorem dX3_gateOnes_12 : decode cX3_gateOnes 12 = .ok (.iaload, 1) := by decide +kernel
theorem dX3_gateOnes_13 : decode cX3_gateOnes 13 = .ok (.laload, 1) := by decide +kernel
theorem dX3_gateOnes_14 : decode cX3_gateOnes 14 = .ok (.lstore_n 2, 1) := by decide +kernel
theorem dX3_gateOnes_15 : decode cX3_gateOnes 15 = .ok (.aload_n 0, 1) := by decide +kernel
theorem dX3_gateOnes_16 : decode cX3_gateOnes 16 = .ok (.getfield 9, 3) := by decide +kernel
theorem dX3_gateOnes_19 : decode cX3_gateOnes 19 = .ok (.aload_n 0, 1) := by decide +kernel
theorem dX3_gateOnes_20 : decode cX3_gateOnes 20 = .ok (.getfield 18, 3) := by decide +kernel
theorem dX3_gateOnes_23 : decode cX3_gateOnes 23 = .ok (.getfield 69, 3) := by decide +kernel
theorem dX3_gateOnes_26 : decode cX3_gateOnes 26 = .ok (.iload_n 1, 1) := by decide +kernel
theorem dX3_gateOnes_27 : decode cX3_gateOnes 27 = .ok (.iaload, 1) := by decide +kernel
theorem dX3_gateOnes_28 : decode cX3_gateOnes 28 = .ok (.laload, 1) := by decide +kernel
theorem dX3_gateOnes_29 : decode cX3_gateOnes 29 = .ok (.lstore 4, 2) := by decide +kernel
theorem dX3_gateOnes_31 : decode cX3_gateOnes 31 = .ok (.aload_n 0, 1) := by decide +kernel
theorem dX3_gateOnes_32 : decode cX3_gateOnes 32 = .ok (.getfield 9, 3) := by decide +kernel
theorem dX3_gateOnes_35 : decode cX3_gateOnes 35 = .ok (.aload_n 0, 1) := by decide +kernel
theorem dX3_gateOnes_36 : decode cX3_gateOnes 36 = .ok (.getfield 18, 3) := by decide +kernel
theorem dX3_gateOnes_39 : decode cX3_gateOnes 39 = .ok (.getfield 72, 3) := by decide +kernel
theorem dX3_gateOnes_42 : decode cX3_gateOnes 42 = .ok (.iload_n 1, 1) := by decide +kernel
theorem dX3_gateOnes_43 : decode cX3_gateOnes 43 = .ok (.iaload, 1) := by decide +kernel
theorem dX3_gateOnes_44 : decode cX3_gateOnes 44 = .ok (.laload, 1) := by decide +kernel
theorem dX3_gateOnes_45 : decode cX3_gateOnes 45 = .ok (.lstore 6, 2) := by decide +kernel
theorem dX3_gateOnes_47 : decode cX3_gateOnes 47 = .ok (.aload_n 0, 1) := by decide +kernel
theorem dX3_gateOnes_48 : decode cX3_gateOnes 48 = .ok (.getfield 18, 3) := by decide +kernel
theorem dX3_gateOnes_51 : decode cX3_gateOnes 51 = .ok (.getfield 75, 3) := by decide +kernel
theorem dX3_gateOnes_54 : decode cX3_gateOnes 54 = .ok (.iload_n 1, 1) := by decide +kernel
theorem dX3_gateOnes_55 : decode cX3_gateOnes 55 = .ok (.iaload, 1) := by decide +kernel
theorem dX3_gateOnes_56 : decode cX3_gateOnes 56 = .ok (.tableswitch 53 0 3 #[32, 38, 43, 48], 32) := by decide +kernel
theorem dX3_gateOnes_88 : decode cX3_gateOnes 88 = .ok (.lload_n 2, 1) := by decide +kernel
theorem dX3_gateOnes_89 : decode cX3_gateOnes 89 = .ok (.ldc2_w 28, 3) := by decide +kernel
theorem dX3_gateOnes_92 : decode cX3_gateOnes 92 = .ok (.lxor, 1) := by decide +kernel
theorem dX3_gateOnes_93 : decode cX3_gateOnes 93 = .ok (.lreturn, 1) := by decide +kernel
theorem dX3_gateOnes_94 : decode cX3_gateOnes 94 = .ok (.lload_n 2, 1) := by decide +kernel
theorem dX3_gateOnes_95 : decode cX3_gateOnes 95 = .ok (.lload 4, 2) := by decide +kernel
theorem dX3_gateOnes_97 : decode cX3_gateOnes 97 = .ok (.land, 1) := by decide +kernel
theorem dX3_gateOnes_98 : decode cX3_gateOnes 98 = .ok (.lreturn, 1) := by decide +kernel
theorem dX3_gateOnes_99 : decode cX3_gateOnes 99 = .ok (.lload_n 2, 1) := by decide +kernel
theorem dX3_gateOnes_100 : decode cX3_gateOnes 100 = .ok (.lload 4, 2) := by decide +kernel
theorem dX3_gateOnes_102 : decode cX3_gateOnes 102 = .ok (.lor, 1) := by decide +kernel
theorem dX3_gateOnes_103 : decode cX3_gateOnes 103 = .ok (.lreturn, 1) := by decide +kernel
theorem dX3_gateOnes_104 : decode cX3_gateOnes 104 = .ok (.lload_n 2, 1) := by decide +kernel
theorem dX3_gateOnes_105 : decode cX3_gateOnes 105 = .ok (.lload 4, 2) := by decide +kernel
theorem dX3_gateOnes_107 : decode cX3_gateOnes 107 = .ok (.lxor, 1) := by decide +kernel
theorem dX3_gateOnes_108 : decode cX3_gateOnes 108 = .ok (.lreturn, 1) := by decide +kernel
theorem dX3_gateOnes_109 : decode cX3_gateOnes 109 = .ok (.lload_n 2, 1) := by decide +kernel
theorem dX3_gateOnes_110 : decode cX3_gateOnes 110 = .ok (.lload 4, 2) := by decide +kernel
theorem dX3_gateOnes_112 : decode cX3_gateOnes 112 = .ok (.land, 1) := by decide +kernel
theorem dX3_gateOnes_113 : decode cX3_gateOnes 113 = .ok (.lload_n 2, 1) := by decide +kernel
theorem dX3_gateOnes_114 : decode cX3_gateOnes 114 = .ok (.ldc2_w 28, 3) := by decide +kernel
theorem dX3_gateOnes_117 : decode cX3_gateOnes 117 = .ok (.lxor, 1) := by decide +kernel
theorem dX3_gateOnes_118 : decode cX3_gateOnes 118 = .ok (.lload 6, 2) := by decide +kernel
theorem dX3_gateOnes_120 : decode cX3_gateOnes 120 = .ok (.land, 1) := by decide +kernel
theorem dX3_gateOnes_121 : decode cX3_gateOnes 121 = .ok (.lor, 1) := by decide +kernel
theorem dX3_gateOnes_122 : decode cX3_gateOnes 122 = .ok (.lreturn, 1) := by decide +kernel
theorem dX3_led_0 : decode cX3_led 0 = .ok (.iconst 0, 1) := by decide +kernel
theorem dX3_led_1 : decode cX3_led 1 = .ok (.istore_n 2, 1) := by decide +kernel
theorem dX3_led_2 : decode cX3_led 2 = .ok (.iconst 0, 1) := by decide +kernel
theorem dX3_led_3 : decode cX3_led 3 = .ok (.istore_n 3, 1) := by decide +kernel
theorem dX3_led_4 : decode cX3_led 4 = .ok (.iload_n 3, 1) := by decide +kernel
theorem dX3_led_5 : decode cX3_led 5 = .ok (.aload_n 0, 1) := by decide +kernel
theorem dX3_led_6 : decode cX3_led 6 = .ok (.getfield 18, 3) := by decide +kernel
theorem dX3_led_9 : decode cX3_led 9 = .ok (.getfield 78, 3) := by decide +kernel
theorem dX3_led_12 : decode cX3_led 12 = .ok (.if_icmp .ge 38, 3) := by decide +kernel
theorem dX3_led_15 : decode cX3_led 15 = .ok (.aload_n 0, 1) := by decide +kernel
theorem dX3_led_16 : decode cX3_led 16 = .ok (.getfield 9, 3) := by decide +kernel
theorem dX3_led_19 : decode cX3_led 19 = .ok (.aload_n 0, 1) := by decide +kernel
theorem dX3_led_20 : decode cX3_led 20 = .ok (.getfield 18, 3) := by decide +kernel
theorem dX3_led_23 : decode cX3_led 23 = .ok (.getfield 81, 3) := by decide +kernel
theorem dX3_led_26 : decode cX3_led 26 = .ok (.iload_n 3, 1) := by decide +kernel
theorem dX3_led_27 : decode cX3_led 27 = .ok (.iaload, 1) := by decide +kernel
theorem dX3_led_28 : decode cX3_led 28 = .ok (.laload, 1) := by decide +kernel
theorem dX3_led_29 : decode cX3_led 29 = .ok (.iload_n 1, 1) := by decide +kernel
theorem dX3_led_30 : decode cX3_led 30 = .ok (.lushr, 1) := by decide +kernel
theorem dX3_led_31 : decode cX3_led 31 = .ok (.lconst 1, 1) := by decide +kernel
theorem dX3_led_32 : decode cX3_led 32 = .ok (.land, 1) := by decide +kernel
theorem dX3_led_33 : decode cX3_led 33 = .ok (.lconst 0, 1) := by decide +kernel
theorem dX3_led_34 : decode cX3_led 34 = .ok (.lcmp, 1) := by decide +kernel
theorem dX3_led_35 : decode cX3_led 35 = .ok (.ifCond .eq 9, 3) := by decide +kernel
theorem dX3_led_38 : decode cX3_led 38 = .ok (.iload_n 2, 1) := by decide +kernel
theorem dX3_led_39 : decode cX3_led 39 = .ok (.iconst 1, 1) := by decide +kernel
theorem dX3_led_40 : decode cX3_led 40 = .ok (.iload_n 3, 1) := by decide +kernel
theorem dX3_led_41 : decode cX3_led 41 = .ok (.ishl, 1) := by decide +kernel
theorem dX3_led_42 : decode cX3_led 42 = .ok (.ior, 1) := by decide +kernel
theorem dX3_led_43 : decode cX3_led 43 = .ok (.istore_n 2, 1) := by decide +kernel
theorem dX3_led_44 : decode cX3_led 44 = .ok (.iinc 3 1, 3) := by decide +kernel
theorem dX3_led_47 : decode cX3_led 47 = .ok (.goto (-43), 3) := by decide +kernel
theorem dX3_led_50 : decode cX3_led 50 = .ok (.iload_n 2, 1) := by decide +kernel
theorem dX3_led_51 : decode cX3_led 51 = .ok (.ireturn, 1) := by decide +kernel
set_option maxRecDepth 20000 in
theorem ggX3_after_X0_rowCount : GoodIn wsX3_after wsX0_rowCount := goodIn_r _ [8, 9, 21, 22, 23, 24, 25, 26, 27, 28, 29, 30, 31, 32, 33, 34, 35] (by decide +kernel) (by decide +kernel)
set_option maxRecDepth 20000 in
theorem gX3_after_X0_rowCount : GoodIn wsX3_after (wsV RX3 22 RX0 yX0_rowCount wsX0_rowCount) := goodIn_app (goodIn_of _ (by decide +kernel)) ggX3_after_X0_rowCount
set_option maxRecDepth 20000 in
theorem ggX3_after_X3_begun : GoodIn wsX3_after wsX3_begun := goodIn_r _ [14, 1, 15, 16, 17, 18, 19, 20, 21, 22, 23, 24, 25, 26, 27, 28, 29, 30, 31, 32, 33, 34, 35] (by decide +kernel) (by decide +kernel)
set_option maxRecDepth 20000 in
theorem gX3_after_X3_begun : GoodIn wsX3_after (wsV RX3 84 RX3 yX3_begun wsX3_begun) := goodIn_app (goodIn_of _ (by decide +kernel)) ggX3_after_X3_begun
theorem dX3_after_0 : decode cX3_after 0 = .ok (.lconst 0, 1) := by decide +kernel
theorem dX3_after_1 : decode cX3_after 1 = .ok (.lstore 4, 2) := by decide +kernel
theorem dX3_after_3 : decode cX3_after 3 = .ok (.iconst 0, 1) := by decide +kernel
theorem dX3_after_4 : decode cX3_after 4 = .ok (.istore 6, 2) := by decide +kernel
theorem dX3_after_6 : decode cX3_after 6 = .ok (.iload 6, 2) := by decide +kernel
theorem dX3_after_8 : decode cX3_after 8 = .ok (.aload_n 0, 1) := by decide +kernel
theorem dX3_after_9 : decode cX3_after 9 = .ok (.getfield 18, 3) := by decide +kernel
theorem dX3_after_12 : decode cX3_after 12 = .ok (.invokevirtual 22, 3) := by decide +kernel
theorem dX3_after_15 : decode cX3_after 15 = .ok (.if_icmp .ge 32, 3) := by decide +kernel
theorem dX3_after_18 : decode cX3_after 18 = .ok (.lload_n 1, 1) := by decide +kernel
theorem dX3_after_19 : decode cX3_after 19 = .ok (.iload 6, 2) := by decide +kernel
theorem dX3_after_21 : decode cX3_after 21 = .ok (.lushr, 1) := by decide +kernel
theorem dX3_after_22 : decode cX3_after 22 = .ok (.lconst 1, 1) := by decide +kernel
theorem dX3_after_23 : decode cX3_after 23 = .ok (.land, 1) := by decide +kernel
theorem dX3_after_24 : decode cX3_after 24 = .ok (.lconst 0, 1) := by decide +kernel
theorem dX3_after_25 : decode cX3_after 25 = .ok (.lcmp, 1) := by decide +kernel
theorem dX3_after_26 : decode cX3_after 26 = .ok (.ifCond .eq 15, 3) := by decide +kernel
theorem dX3_after_29 : decode cX3_after 29 = .ok (.lload 4, 2) := by decide +kernel
theorem dX3_after_31 : decode cX3_after 31 = .ok (.aload_n 0, 1) := by decide +kernel
theorem dX3_after_32 : decode cX3_after 32 = .ok (.getfield 15, 3) := by decide +kernel
theorem dX3_after_35 : decode cX3_after 35 = .ok (.iload 6, 2) := by decide +kernel
theorem dX3_after_37 : decode cX3_after 37 = .ok (.laload, 1) := by decide +kernel
theorem dX3_after_38 : decode cX3_after 38 = .ok (.lor, 1) := by decide +kernel
theorem dX3_after_39 : decode cX3_after 39 = .ok (.lstore 4, 2) := by decide +kernel
theorem dX3_after_41 : decode cX3_after 41 = .ok (.iinc 6 1, 3) := by decide +kernel
theorem dX3_after_44 : decode cX3_after 44 = .ok (.goto (-38), 3) := by decide +kernel
theorem dX3_after_47 : decode cX3_after 47 = .ok (.iconst 0, 1) := by decide +kernel
theorem dX3_after_48 : decode cX3_after 48 = .ok (.istore 6, 2) := by decide +kernel
theorem dX3_after_50 : decode cX3_after 50 = .ok (.iload 6, 2) := by decide +kernel
theorem dX3_after_52 : decode cX3_after 52 = .ok (.aload_n 0, 1) := by decide +kernel
theorem dX3_after_53 : decode cX3_after 53 = .ok (.getfield 18, 3) := by decide +kernel
theorem dX3_after_56 : decode cX3_after 56 = .ok (.getfield 78, 3) := by decide +kernel
theorem dX3_after_59 : decode cX3_after 59 = .ok (.if_icmp .ge 28, 3) := by decide +kernel
theorem dX3_after_62 : decode cX3_after 62 = .ok (.iload_n 3, 1) := by decide +kernel
theorem dX3_after_63 : decode cX3_after 63 = .ok (.iload 6, 2) := by decide +kernel
theorem dX3_after_65 : decode cX3_after 65 = .ok (.ishr, 1) := by decide +kernel
theorem dX3_after_66 : decode cX3_after 66 = .ok (.iconst 1, 1) := by decide +kernel
theorem dX3_after_67 : decode cX3_after 67 = .ok (.iand, 1) := by decide +kernel
theorem dX3_after_68 : decode cX3_after 68 = .ok (.ifCond .eq 13, 3) := by decide +kernel
theorem dX3_after_71 : decode cX3_after 71 = .ok (.aload_n 0, 1) := by decide +kernel
theorem dX3_after_72 : decode cX3_after 72 = .ok (.lload 4, 2) := by decide +kernel
theorem dX3_after_74 : decode cX3_after 74 = .ok (.iload 6, 2) := by decide +kernel
theorem dX3_after_76 : decode cX3_after 76 = .ok (.invokevirtual 84, 3) := by decide +kernel
theorem dX3_after_79 : decode cX3_after 79 = .ok (.lstore 4, 2) := by decide +kernel
theorem dX3_after_81 : decode cX3_after 81 = .ok (.iinc 6 1, 3) := by decide +kernel
theorem dX3_after_84 : decode cX3_after 84 = .ok (.goto (-34), 3) := by decide +kernel
theorem dX3_after_87 : decode cX3_after 87 = .ok (.lload 4, 2) := by decide +kernel
theorem dX3_after_89 : decode cX3_after 89 = .ok (.lreturn, 1) := by decide +kernel
theorem dX3_begun_0 : decode cX3_begun 0 = .ok (.iconst 1, 1) := by decide +kernel
theorem dX3_begun_1 : decode cX3_begun 1 = .ok (.iload_n 3, 1) := by decide +kernel
theorem dX3_begun_2 : decode cX3_begun 2 = .ok (.ishl, 1) := by decide +kernel
theorem dX3_begun_3 : decode cX3_begun 3 = .ok (.istore 4, 2) := by decide +kernel
theorem dX3_begun_5 : decode cX3_begun 5 = .ok (.aload_n 0, 1) := by decide +kernel
theorem dX3_begun_6 : decode cX3_begun 6 = .ok (.getfield 18, 3) := by decide +kernel
theorem dX3_begun_9 : decode cX3_begun 9 = .ok (.getfield 88, 3) := by decide +kernel
theorem dX3_begun_12 : decode cX3_begun 12 = .ok (.iload_n 3, 1) := by decide +kernel
theorem dX3_begun_13 : decode cX3_begun 13 = .ok (.iaload, 1) := by decide +kernel
theorem dX3_begun_14 : decode cX3_begun 14 = .ok (.iconst 1, 1) := by decide +kernel
theorem dX3_begun_15 : decode cX3_begun 15 = .ok (.if_icmp .ne 16, 3) := by decide +kernel
theorem dX3_begun_18 : decode cX3_begun 18 = .ok (.lload_n 1, 1) := by decide +kernel
theorem dX3_begun_19 : decode cX3_begun 19 = .ok (.lload_n 1, 1) := by decide +kernel
theorem dX3_begun_20 : decode cX3_begun 20 = .ok (.iload 4, 2) := by decide +kernel
theorem dX3_begun_22 : decode cX3_begun 22 = .ok (.lshl, 1) := by decide +kernel
theorem dX3_begun_23 : decode cX3_begun 23 = .ok (.lor, 1) := by decide +kernel
theorem dX3_begun_24 : decode cX3_begun 24 = .ok (.getstatic 60, 3) := by decide +kernel
theorem dX3_begun_27 : decode cX3_begun 27 = .ok (.iload_n 3, 1) := by decide +kernel
theorem dX3_begun_28 : decode cX3_begun 28 = .ok (.laload, 1) := by decide +kernel
theorem dX3_begun_29 : decode cX3_begun 29 = .ok (.land, 1) := by decide +kernel
theorem dX3_begun_30 : decode cX3_begun 30 = .ok (.lreturn, 1) := by decide +kernel
theorem dX3_begun_31 : decode cX3_begun 31 = .ok (.lload_n 1, 1) := by decide +kernel
theorem dX3_begun_32 : decode cX3_begun 32 = .ok (.lload_n 1, 1) := by decide +kernel
theorem dX3_begun_33 : decode cX3_begun 33 = .ok (.iload 4, 2) := by decide +kernel
theorem dX3_begun_35 : decode cX3_begun 35 = .ok (.lushr, 1) := by decide +kernel
theorem dX3_begun_36 : decode cX3_begun 36 = .ok (.lor, 1) := by decide +kernel
theorem dX3_begun_37 : decode cX3_begun 37 = .ok (.getstatic 60, 3) := by decide +kernel
theorem dX3_begun_40 : decode cX3_begun 40 = .ok (.iload_n 3, 1) := by decide +kernel
theorem dX3_begun_41 : decode cX3_begun 41 = .ok (.laload, 1) := by decide +kernel
theorem dX3_begun_42 : decode cX3_begun 42 = .ok (.ldc2_w 28, 3) := by decide +kernel
theorem dX3_begun_45 : decode cX3_begun 45 = .ok (.lxor, 1) := by decide +kernel
theorem dX3_begun_46 : decode cX3_begun 46 = .ok (.land, 1) := by decide +kernel
theorem dX3_begun_47 : decode cX3_begun 47 = .ok (.lreturn, 1) := by decide +kernel
set_option maxRecDepth 20000 in
theorem ggX3_ticksTillOne_J13_bitCount_95d88 : GoodIn wsX3_ticksTillOne wsJ13_bitCount_95d88 := goodIn_r _ [4, 5, 6, 7] (by decide +kernel) (by decide +kernel)
set_option maxRecDepth 20000 in
theorem gX3_ticksTillOne_J13_bitCount_95d88 : GoodIn wsX3_ticksTillOne (va_wsS RX3 91 yJ13_bitCount_95d88 wsJ13_bitCount_95d88) := goodIn_app (goodIn_of _ (by decide +kernel)) ggX3_ticksTillOne_J13_bitCount_95d88
set_option maxRecDepth 20000 in
theorem ggX3_ticksTillOne_X3_after : GoodIn wsX3_ticksTillOne wsX3_after := goodIn_r _ [12, 13, 14, 15, 16, 17, 18, 19, 20, 21, 22, 23, 24, 11, 25, 26, 27, 28, 29, 30, 31, 32, 33, 34, 35, 36, 37, 38, 39, 40, 41, 42, 43, 44, 45, 46] (by decide +kernel) (by decide +kernel)
set_option maxRecDepth 20000 in
theorem gX3_ticksTillOne_X3_after : GoodIn wsX3_ticksTillOne (wsV RX3 97 RX3 yX3_after wsX3_after) := goodIn_app (goodIn_of _ (by decide +kernel)) ggX3_ticksTillOne_X3_after
theorem dX3_ticksTillOne_0 : decode cX3_ticksTillOne 0 = .ok (.lload_n 1, 1) := by decide +kernel
theorem dX3_ticksTillOne_1 : decode cX3_ticksTillOne 1 = .ok (.lstore 4, 2) := by decide +kernel
theorem dX3_ticksTillOne_3 : decode cX3_ticksTillOne 3 = .ok (.iconst 0, 1) := by decide +kernel
theorem dX3_ticksTillOne_4 : decode cX3_ticksTillOne 4 = .ok (.istore 6, 2) := by decide +kernel
theorem dX3_ticksTillOne_6 : decode cX3_ticksTillOne 6 = .ok (.iload 6, 2) := by decide +kernel
theorem dX3_ticksTillOne_8 : decode cX3_ticksTillOne 8 = .ok (.bipush 64, 2) := by decide +kernel
theorem dX3_ticksTillOne_10 : decode cX3_ticksTillOne 10 = .ok (.if_icmp .gt 30, 3) := by decide +kernel
theorem dX3_ticksTillOne_13 : decode cX3_ticksTillOne 13 = .ok (.lload 4, 2) := by decide +kernel
theorem dX3_ticksTillOne_15 : decode cX3_ticksTillOne 15 = .ok (.invokestatic 91, 3) := by decide +kernel
theorem dX3_ticksTillOne_18 : decode cX3_ticksTillOne 18 = .ok (.iconst 1, 1) := by decide +kernel
theorem dX3_ticksTillOne_19 : decode cX3_ticksTillOne 19 = .ok (.if_icmp .ne 6, 3) := by decide +kernel
theorem dX3_ticksTillOne_22 : decode cX3_ticksTillOne 22 = .ok (.iload 6, 2) := by decide +kernel
theorem dX3_ticksTillOne_24 : decode cX3_ticksTillOne 24 = .ok (.ireturn, 1) := by decide +kernel
theorem dX3_ticksTillOne_25 : decode cX3_ticksTillOne 25 = .ok (.aload_n 0, 1) := by decide +kernel
theorem dX3_ticksTillOne_26 : decode cX3_ticksTillOne 26 = .ok (.lload 4, 2) := by decide +kernel
theorem dX3_ticksTillOne_28 : decode cX3_ticksTillOne 28 = .ok (.iload_n 3, 1) := by decide +kernel
theorem dX3_ticksTillOne_29 : decode cX3_ticksTillOne 29 = .ok (.invokevirtual 97, 3) := by decide +kernel
theorem dX3_ticksTillOne_32 : decode cX3_ticksTillOne 32 = .ok (.lstore 4, 2) := by decide +kernel
theorem dX3_ticksTillOne_34 : decode cX3_ticksTillOne 34 = .ok (.iinc 6 1, 3) := by decide +kernel
theorem dX3_ticksTillOne_37 : decode cX3_ticksTillOne 37 = .ok (.goto (-31), 3) := by decide +kernel
theorem dX3_ticksTillOne_40 : decode cX3_ticksTillOne 40 = .ok (.bipush (-9), 2) := by decide +kernel
theorem dX3_ticksTillOne_42 : decode cX3_ticksTillOne 42 = .ok (.ireturn, 1) := by decide +kernel
set_option maxRecDepth 20000 in
theorem ggX3_leavesOne_X3_allRows : GoodIn wsX3_leavesOne wsX3_allRows := goodIn_r _ [5, 6, 7, 8, 9, 10, 11, 12, 13, 33, 34, 35, 36, 37, 38, 39, 40, 41, 42, 43, 44, 45, 46, 47, 48, 49, 50] (by decide +kernel) (by decide +kernel)
set_option maxRecDepth 20000 in
theorem gX3_leavesOne_X3_allRows : GoodIn wsX3_leavesOne (wsV RX3 100 RX3 yX3_allRows wsX3_allRows) := goodIn_app (goodIn_of _ (by decide +kernel)) ggX3_leavesOne_X3_allRows
set_option maxRecDepth 20000 in
theorem ggX3_leavesOne_X3_after : GoodIn wsX3_leavesOne wsX3_after := goodIn_r _ [17, 6, 18, 19, 8, 9, 10, 11, 12, 13, 20, 21, 22, 4, 23, 24, 25, 7, 33, 34, 35, 36, 37, 38, 39, 40, 41, 42, 43, 44, 45, 46, 47, 48, 49, 50] (by decide +kernel) (by decide +kernel)
set_option maxRecDepth 20000 in
theorem gX3_leavesOne_X3_after : GoodIn wsX3_leavesOne (wsV RX3 97 RX3 yX3_after wsX3_after) := goodIn_app (goodIn_of _ (by decide +kernel)) ggX3_leavesOne_X3_after
set_option maxRecDepth 20000 in
theorem ggX3_leavesOne_J13_bitCount_95d88 : GoodIn wsX3_leavesOne wsJ13_bitCount_95d88 := goodIn_r _ [29, 30, 31, 32] (by decide +kernel) (by decide +kernel)
set_option maxRecDepth 20000 in
theorem gX3_leavesOne_J13_bitCount_95d88 : GoodIn wsX3_leavesOne (va_wsS RX3 91 yJ13_bitCount_95d88 wsJ13_bitCount_95d88) := goodIn_app (goodIn_of _ (by decide +kernel)) ggX3_leavesOne_J13_bitCount_95d88
theorem dX3_leavesOne_0 : decode cX3_leavesOne 0 = .ok (.aload_n 0, 1) := by decide +kernel
theorem dX3_leavesOne_1 : decode cX3_leavesOne 1 = .ok (.invokevirtual 100, 3) := by decide +kernel
theorem dX3_leavesOne_4 : decode cX3_leavesOne 4 = .ok (.lstore_n 3, 1) := by decide +kernel
theorem dX3_leavesOne_5 : decode cX3_leavesOne 5 = .ok (.iconst 0, 1) := by decide +kernel
theorem dX3_leavesOne_6 : decode cX3_leavesOne 6 = .ok (.istore 5, 2) := by decide +kernel
theorem dX3_leavesOne_8 : decode cX3_leavesOne 8 = .ok (.iload 5, 2) := by decide +kernel
theorem dX3_leavesOne_10 : decode cX3_leavesOne 10 = .ok (.iload_n 1, 1) := by decide +kernel
theorem dX3_leavesOne_11 : decode cX3_leavesOne 11 = .ok (.if_icmp .ge 30, 3) := by decide +kernel
theorem dX3_leavesOne_14 : decode cX3_leavesOne 14 = .ok (.aload_n 0, 1) := by decide +kernel
theorem dX3_leavesOne_15 : decode cX3_leavesOne 15 = .ok (.lload_n 3, 1) := by decide +kernel
theorem dX3_leavesOne_16 : decode cX3_leavesOne 16 = .ok (.iload_n 2, 1) := by decide +kernel
theorem dX3_leavesOne_17 : decode cX3_leavesOne 17 = .ok (.invokevirtual 97, 3) := by decide +kernel
theorem dX3_leavesOne_20 : decode cX3_leavesOne 20 = .ok (.lstore 6, 2) := by decide +kernel
theorem dX3_leavesOne_22 : decode cX3_leavesOne 22 = .ok (.lload 6, 2) := by decide +kernel
theorem dX3_leavesOne_24 : decode cX3_leavesOne 24 = .ok (.lload_n 3, 1) := by decide +kernel
theorem dX3_leavesOne_25 : decode cX3_leavesOne 25 = .ok (.lcmp, 1) := by decide +kernel
theorem dX3_leavesOne_26 : decode cX3_leavesOne 26 = .ok (.ifCond .ne 6, 3) := by decide +kernel
theorem dX3_leavesOne_29 : decode cX3_leavesOne 29 = .ok (.goto 12, 3) := by decide +kernel
theorem dX3_leavesOne_32 : decode cX3_leavesOne 32 = .ok (.lload 6, 2) := by decide +kernel
theorem dX3_leavesOne_34 : decode cX3_leavesOne 34 = .ok (.lstore_n 3, 1) := by decide +kernel
theorem dX3_leavesOne_35 : decode cX3_leavesOne 35 = .ok (.iinc 5 1, 3) := by decide +kernel
theorem dX3_leavesOne_38 : decode cX3_leavesOne 38 = .ok (.goto (-30), 3) := by decide +kernel
theorem dX3_leavesOne_41 : decode cX3_leavesOne 41 = .ok (.lload_n 3, 1) := by decide +kernel
theorem dX3_leavesOne_42 : decode cX3_leavesOne 42 = .ok (.invokestatic 91, 3) := by decide +kernel
theorem dX3_leavesOne_45 : decode cX3_leavesOne 45 = .ok (.iconst 1, 1) := by decide +kernel
theorem dX3_leavesOne_46 : decode cX3_leavesOne 46 = .ok (.if_icmp .ne 7, 3) := by decide +kernel
theorem dX3_leavesOne_49 : decode cX3_leavesOne 49 = .ok (.iconst 1, 1) := by decide +kernel
theorem dX3_leavesOne_50 : decode cX3_leavesOne 50 = .ok (.goto 4, 3) := by decide +kernel
theorem dX3_leavesOne_53 : decode cX3_leavesOne 53 = .ok (.iconst 0, 1) := by decide +kernel
theorem dX3_leavesOne_54 : decode cX3_leavesOne 54 = .ok (.ireturn, 1) := by decide +kernel
set_option maxRecDepth 20000 in
theorem ggX3_surely_X0_openInputs : GoodIn wsX3_surely wsX0_openInputs := goodIn_r _ [8, 9, 10, 11, 36, 37, 38, 39, 40, 41, 42, 43, 44, 45, 46, 47, 48, 49, 50] (by decide +kernel) (by decide +kernel)
set_option maxRecDepth 20000 in
theorem gX3_surely_X0_openInputs : GoodIn wsX3_surely (wsV RX3 30 RX0 yX0_openInputs wsX0_openInputs) := goodIn_app (goodIn_of _ (by decide +kernel)) ggX3_surely_X0_openInputs
set_option maxRecDepth 20000 in
theorem ggX3_surely_X3_evaluate : GoodIn wsX3_surely wsX3_evaluate := goodIn_r _ [16, 1, 17, 18, 19, 2, 20, 21, 22, 23, 15, 24, 3, 25, 26, 27, 28, 29, 30, 31, 32, 33, 34, 35, 36, 37, 38, 39, 40, 41, 42, 43, 44, 45, 46, 47, 48, 49, 50] (by decide +kernel) (by decide +kernel)
set_option maxRecDepth 20000 in
theorem gX3_surely_X3_evaluate : GoodIn wsX3_surely (wsV RX3 34 RX3 yX3_evaluate wsX3_evaluate) := goodIn_app (goodIn_of _ (by decide +kernel)) ggX3_surely_X3_evaluate
theorem dX3_surely_0 : decode cX3_surely 0 = .ok (.iconst 0, 1) := by decide +kernel
theorem dX3_surely_1 : decode cX3_surely 1 = .ok (.istore 4, 2) := by decide +kernel
theorem dX3_surely_3 : decode cX3_surely 3 = .ok (.iconst 0, 1) := by decide +kernel
theorem dX3_surely_4 : decode cX3_surely 4 = .ok (.istore 5, 2) := by decide +kernel
theorem dX3_surely_6 : decode cX3_surely 6 = .ok (.iconst 1, 1) := by decide +kernel
theorem dX3_surely_7 : decode cX3_surely 7 = .ok (.aload_n 0, 1) := by decide +kernel
theorem dX3_surely_8 : decode cX3_surely 8 = .ok (.getfield 18, 3) := by decide +kernel
theorem dX3_surely_11 : decode cX3_surely 11 = .ok (.iconst 0, 1) := by decide +kernel
theorem dX3_surely_12 : decode cX3_surely 12 = .ok (.invokevirtual 30, 3) := by decide +kernel
theorem dX3_surely_15 : decode cX3_surely 15 = .ok (.ishl, 1) := by decide +kernel
theorem dX3_surely_16 : decode cX3_surely 16 = .ok (.istore 6, 2) := by decide +kernel
theorem dX3_surely_18 : decode cX3_surely 18 = .ok (.iconst 0, 1) := by decide +kernel
theorem dX3_surely_19 : decode cX3_surely 19 = .ok (.istore 7, 2) := by decide +kernel
theorem dX3_surely_21 : decode cX3_surely 21 = .ok (.iload 7, 2) := by decide +kernel
theorem dX3_surely_23 : decode cX3_surely 23 = .ok (.iload 6, 2) := by decide +kernel
theorem dX3_surely_25 : decode cX3_surely 25 = .ok (.if_icmp .ge 66, 3) := by decide +kernel
theorem dX3_surely_28 : decode cX3_surely 28 = .ok (.aload_n 0, 1) := by decide +kernel
theorem dX3_surely_29 : decode cX3_surely 29 = .ok (.iload 7, 2) := by decide +kernel
theorem dX3_surely_31 : decode cX3_surely 31 = .ok (.iconst 0, 1) := by decide +kernel
theorem dX3_surely_32 : decode cX3_surely 32 = .ok (.invokevirtual 34, 3) := by decide +kernel
theorem dX3_surely_35 : decode cX3_surely 35 = .ok (.iload 4, 2) := by decide +kernel
theorem dX3_surely_37 : decode cX3_surely 37 = .ok (.aload_n 0, 1) := by decide +kernel
theorem dX3_surely_38 : decode cX3_surely 38 = .ok (.getfield 9, 3) := by decide +kernel
theorem dX3_surely_41 : decode cX3_surely 41 = .ok (.iload_n 1, 1) := by decide +kernel
theorem dX3_surely_42 : decode cX3_surely 42 = .ok (.laload, 1) := by decide +kernel
theorem dX3_surely_43 : decode cX3_surely 43 = .ok (.lload_n 2, 1) := by decide +kernel
theorem dX3_surely_44 : decode cX3_surely 44 = .ok (.land, 1) := by decide +kernel
theorem dX3_surely_45 : decode cX3_surely 45 = .ok (.lconst 0, 1) := by decide +kernel
theorem dX3_surely_46 : decode cX3_surely 46 = .ok (.lcmp, 1) := by decide +kernel
theorem dX3_surely_47 : decode cX3_surely 47 = .ok (.ifCond .eq 7, 3) := by decide +kernel
theorem dX3_surely_50 : decode cX3_surely 50 = .ok (.iconst 1, 1) := by decide +kernel
theorem dX3_surely_51 : decode cX3_surely 51 = .ok (.goto 4, 3) := by decide +kernel
theorem dX3_surely_54 : decode cX3_surely 54 = .ok (.iconst 0, 1) := by decide +kernel
theorem dX3_surely_55 : decode cX3_surely 55 = .ok (.ior, 1) := by decide +kernel
theorem dX3_surely_56 : decode cX3_surely 56 = .ok (.istore 4, 2) := by decide +kernel
theorem dX3_surely_58 : decode cX3_surely 58 = .ok (.iload 5, 2) := by decide +kernel
theorem dX3_surely_60 : decode cX3_surely 60 = .ok (.aload_n 0, 1) := by decide +kernel
theorem dX3_surely_61 : decode cX3_surely 61 = .ok (.getfield 9, 3) := by decide +kernel
theorem dX3_surely_64 : decode cX3_surely 64 = .ok (.iload_n 1, 1) := by decide +kernel
theorem dX3_surely_65 : decode cX3_surely 65 = .ok (.laload, 1) := by decide +kernel
theorem dX3_surely_66 : decode cX3_surely 66 = .ok (.ldc2_w 28, 3) := by decide +kernel
theorem dX3_surely_69 : decode cX3_surely 69 = .ok (.lxor, 1) := by decide +kernel
theorem dX3_surely_70 : decode cX3_surely 70 = .ok (.lload_n 2, 1) := by decide +kernel
theorem dX3_surely_71 : decode cX3_surely 71 = .ok (.land, 1) := by decide +kernel
theorem dX3_surely_72 : decode cX3_surely 72 = .ok (.lconst 0, 1) := by decide +kernel
theorem dX3_surely_73 : decode cX3_surely 73 = .ok (.lcmp, 1) := by decide +kernel
theorem dX3_surely_74 : decode cX3_surely 74 = .ok (.ifCond .eq 7, 3) := by decide +kernel
theorem dX3_surely_77 : decode cX3_surely 77 = .ok (.iconst 1, 1) := by decide +kernel
theorem dX3_surely_78 : decode cX3_surely 78 = .ok (.goto 4, 3) := by decide +kernel
theorem dX3_surely_81 : decode cX3_surely 81 = .ok (.iconst 0, 1) := by decide +kernel
theorem dX3_surely_82 : decode cX3_surely 82 = .ok (.ior, 1) := by decide +kernel
theorem dX3_surely_83 : decode cX3_surely 83 = .ok (.istore 5, 2) := by decide +kernel
theorem dX3_surely_85 : decode cX3_surely 85 = .ok (.iinc 7 1, 3) := by decide +kernel
theorem dX3_surely_88 : decode cX3_surely 88 = .ok (.goto (-67), 3) := by decide +kernel
theorem dX3_surely_91 : decode cX3_surely 91 = .ok (.iload 4, 2) := by decide +kernel
theorem dX3_surely_93 : decode cX3_surely 93 = .ok (.ifCond .eq 10, 3) := by decide +kernel
theorem dX3_surely_96 : decode cX3_surely 96 = .ok (.iload 5, 2) := by decide +kernel
theorem dX3_surely_98 : decode cX3_surely 98 = .ok (.ifCond .eq 5, 3) := by decide +kernel
theorem dX3_surely_101 : decode cX3_surely 101 = .ok (.iconst 2, 1) := by decide +kernel
theorem dX3_surely_102 : decode cX3_surely 102 = .ok (.ireturn, 1) := by decide +kernel
theorem dX3_surely_103 : decode cX3_surely 103 = .ok (.iload 4, 2) := by decide +kernel
theorem dX3_surely_105 : decode cX3_surely 105 = .ok (.ifCond .eq 7, 3) := by decide +kernel
theorem dX3_surely_108 : decode cX3_surely 108 = .ok (.iconst 1, 1) := by decide +kernel
theorem dX3_surely_109 : decode cX3_surely 109 = .ok (.goto 4, 3) := by decide +kernel
theorem dX3_surely_112 : decode cX3_surely 112 = .ok (.iconst 0, 1) := by decide +kernel
theorem dX3_surely_113 : decode cX3_surely 113 = .ok (.ireturn, 1) := by decide +kernel
theorem dX3_sureStores_0 : decode cX3_sureStores 0 = .ok (.iconst 0, 1) := by decide +kernel
theorem dX3_sureStores_1 : decode cX3_sureStores 1 = .ok (.istore_n 3, 1) := by decide +kernel
theorem dX3_sureStores_2 : decode cX3_sureStores 2 = .ok (.iconst 0, 1) := by decide +kernel
theorem dX3_sureStores_3 : decode cX3_sureStores 3 = .ok (.istore 4, 2) := by decide +kernel
theorem dX3_sureStores_5 : decode cX3_sureStores 5 = .ok (.iload 4, 2) := by decide +kernel
theorem dX3_sureStores_7 : decode cX3_sureStores 7 = .ok (.aload_n 0, 1) := by decide +kernel
theorem dX3_sureStores_8 : decode cX3_sureStores 8 = .ok (.getfield 18, 3) := by decide +kernel
theorem dX3_sureStores_11 : decode cX3_sureStores 11 = .ok (.getfield 78, 3) := by decide +kernel
theorem dX3_sureStores_14 : decode cX3_sureStores 14 = .ok (.if_icmp .ge 36, 3) := by decide +kernel
theorem dX3_sureStores_17 : decode cX3_sureStores 17 = .ok (.getstatic 60, 3) := by decide +kernel
theorem dX3_sureStores_20 : decode cX3_sureStores 20 = .ok (.iload 4, 2) := by decide +kernel
theorem dX3_sureStores_22 : decode cX3_sureStores 22 = .ok (.laload, 1) := by decide +kernel
theorem dX3_sureStores_23 : decode cX3_sureStores 23 = .ok (.lload_n 1, 1) := by decide +kernel
theorem dX3_sureStores_24 : decode cX3_sureStores 24 = .ok (.land, 1) := by decide +kernel
theorem dX3_sureStores_25 : decode cX3_sureStores 25 = .ok (.lstore 5, 2) := by decide +kernel
theorem dX3_sureStores_27 : decode cX3_sureStores 27 = .ok (.lload 5, 2) := by decide +kernel
theorem dX3_sureStores_29 : decode cX3_sureStores 29 = .ok (.lconst 0, 1) := by decide +kernel
theorem dX3_sureStores_30 : decode cX3_sureStores 30 = .ok (.lcmp, 1) := by decide +kernel
theorem dX3_sureStores_31 : decode cX3_sureStores 31 = .ok (.ifCond .eq 10, 3) := by decide +kernel
theorem dX3_sureStores_34 : decode cX3_sureStores 34 = .ok (.lload 5, 2) := by decide +kernel
theorem dX3_sureStores_36 : decode cX3_sureStores 36 = .ok (.lload_n 1, 1) := by decide +kernel
theorem dX3_sureStores_37 : decode cX3_sureStores 37 = .ok (.lcmp, 1) := by decide +kernel
theorem dX3_sureStores_38 : decode cX3_sureStores 38 = .ok (.ifCond .ne 6, 3) := by decide +kernel
theorem dX3_sureStores_41 : decode cX3_sureStores 41 = .ok (.iinc 3 1, 3) := by decide +kernel
theorem dX3_sureStores_44 : decode cX3_sureStores 44 = .ok (.iinc 4 1, 3) := by decide +kernel
theorem dX3_sureStores_47 : decode cX3_sureStores 47 = .ok (.goto (-42), 3) := by decide +kernel
theorem dX3_sureStores_50 : decode cX3_sureStores 50 = .ok (.iload_n 3, 1) := by decide +kernel
theorem dX3_sureStores_51 : decode cX3_sureStores 51 = .ok (.ireturn, 1) := by decide +kernel
set_option maxRecDepth 20000 in
theorem ggX4_init_X0_init : GoodIn wsX4_init wsX0_init := goodIn_r _ [24, 25, 2, 3, 26, 27, 28, 29, 30, 31, 32, 33, 34, 35, 36, 37, 38, 60, 61, 62, 63, 64, 65, 66, 67, 68, 69, 70, 71, 72, 73, 74] (by decide +kernel) (by decide +kernel)
set_option maxRecDepth 20000 in
theorem gX4_init_X0_init_n9 : GoodIn wsX4_init (wsX0_init) := ggX4_init_X0_init
set_option maxRecDepth 20000 in
theorem ggX4_init_X3_init : GoodIn wsX4_init wsX3_init := goodIn_r _ [41, 42, 2, 3, 43, 44, 45, 46, 82, 83, 84] (by decide +kernel) (by decide +kernel)
set_option maxRecDepth 20000 in
theorem gX4_init_X3_init : GoodIn wsX4_init (wsX3_init) := ggX4_init_X3_init
set_option maxRecDepth 20000 in
theorem ggX4_init_X2_init : GoodIn wsX4_init wsX2_init := goodIn_r _ [49, 50, 2, 3, 26, 51, 52, 53, 85, 86, 87] (by decide +kernel) (by decide +kernel)
set_option maxRecDepth 20000 in
theorem gX4_init_X2_init : GoodIn wsX4_init (wsX2_init) := ggX4_init_X2_init
set_option maxRecDepth 20000 in
theorem ggX4_init_X1_init : GoodIn wsX4_init wsX1_init := goodIn_r _ [56, 57, 2, 3, 26, 58, 59, 88, 89] (by decide +kernel) (by decide +kernel)
set_option maxRecDepth 20000 in
theorem gX4_init_X1_init : GoodIn wsX4_init (wsX1_init) := ggX4_init_X1_init
theorem dX4_init_0 : decode cX4_init 0 = .ok (.aload_n 0, 1) := by decide +kernel
theorem dX4_init_1 : decode cX4_init 1 = .ok (.invokespecial 1, 3) := by decide +kernel
theorem dX4_init_4 : decode cX4_init 4 = .ok (.aload_n 0, 1) := by decide +kernel
theorem dX4_init_5 : decode cX4_init 5 = .ok (.new 7, 3) := by decide +kernel
theorem dX4_init_8 : decode cX4_init 8 = .ok (.dup, 1) := by decide +kernel
theorem dX4_init_9 : decode cX4_init 9 = .ok (.invokespecial 9, 3) := by decide +kernel
theorem dX4_init_12 : decode cX4_init 12 = .ok (.putfield 10, 3) := by decide +kernel
theorem dX4_init_15 : decode cX4_init 15 = .ok (.aload_n 0, 1) := by decide +kernel
theorem dX4_init_16 : decode cX4_init 16 = .ok (.new 16, 3) := by decide +kernel
theorem dX4_init_19 : decode cX4_init 19 = .ok (.dup, 1) := by decide +kernel
theorem dX4_init_20 : decode cX4_init 20 = .ok (.aload_n 0, 1) := by decide +kernel
theorem dX4_init_21 : decode cX4_init 21 = .ok (.getfield 10, 3) := by decide +kernel
theorem dX4_init_24 : decode cX4_init 24 = .ok (.invokespecial 18, 3) := by decide +kernel
theorem dX4_init_27 : decode cX4_init 27 = .ok (.putfield 21, 3) := by decide +kernel
theorem dX4_init_30 : decode cX4_init 30 = .ok (.aload_n 0, 1) := by decide +kernel
theorem dX4_init_31 : decode cX4_init 31 = .ok (.new 25, 3) := by decide +kernel
theorem dX4_init_34 : decode cX4_init 34 = .ok (.dup, 1) := by decide +kernel
theorem dX4_init_35 : decode cX4_init 35 = .ok (.aload_n 0, 1) := by decide +kernel
theorem dX4_init_36 : decode cX4_init 36 = .ok (.getfield 10, 3) := by decide +kernel
theorem dX4_init_39 : decode cX4_init 39 = .ok (.invokespecial 27, 3) := by decide +kernel
theorem dX4_init_42 : decode cX4_init 42 = .ok (.putfield 28, 3) := by decide +kernel
theorem dX4_init_45 : decode cX4_init 45 = .ok (.aload_n 0, 1) := by decide +kernel
theorem dX4_init_46 : decode cX4_init 46 = .ok (.new 32, 3) := by decide +kernel
theorem dX4_init_49 : decode cX4_init 49 = .ok (.dup, 1) := by decide +kernel
theorem dX4_init_50 : decode cX4_init 50 = .ok (.invokespecial 34, 3) := by decide +kernel
theorem dX4_init_53 : decode cX4_init 53 = .ok (.putfield 35, 3) := by decide +kernel
theorem dX4_init_56 : decode cX4_init 56 = .ok (.aload_n 0, 1) := by decide +kernel
theorem dX4_init_57 : decode cX4_init 57 = .ok (.lconst 1, 1) := by decide +kernel
theorem dX4_init_58 : decode cX4_init 58 = .ok (.putfield 39, 3) := by decide +kernel
theorem dX4_init_61 : decode cX4_init 61 = .ok (.aload_n 0, 1) := by decide +kernel
theorem dX4_init_62 : decode cX4_init 62 = .ok (.iconst 0, 1) := by decide +kernel
theorem dX4_init_63 : decode cX4_init 63 = .ok (.putfield 43, 3) := by decide +kernel
theorem dX4_init_66 : decode cX4_init 66 = .ok (.aload_n 0, 1) := by decide +kernel
theorem dX4_init_67 : decode cX4_init 67 = .ok (.iconst 0, 1) := by decide +kernel
theorem dX4_init_68 : decode cX4_init 68 = .ok (.putfield 47, 3) := by decide +kernel
theorem dX4_init_71 : decode cX4_init 71 = .ok (.return_, 1) := by decide +kernel
set_option maxRecDepth 20000 in
theorem ggX4_input_X0_isFull : GoodIn wsX4_input wsX0_isFull := goodIn_r _ [7, 8, 54, 55, 56, 57, 58, 59, 60, 61, 62, 63, 64, 65, 66, 67, 68] (by decide +kernel) (by decide +kernel)
set_option maxRecDepth 20000 in
theorem gX4_input_X0_isFull : GoodIn wsX4_input (wsV RX4 53 RX0 yX0_isFull wsX0_isFull) := goodIn_app (goodIn_of _ (by decide +kernel)) ggX4_input_X0_isFull
set_option maxRecDepth 20000 in
theorem ggX4_input_X0_addInput : GoodIn wsX4_input wsX0_addInput := goodIn_r _ [12, 13, 14, 15, 16, 17, 6, 18, 8, 19, 54, 55, 56, 57, 58, 59, 60, 61, 62, 63, 64, 65, 66, 67, 68] (by decide +kernel) (by decide +kernel)
set_option maxRecDepth 20000 in
theorem gX4_input_X0_addInput : GoodIn wsX4_input (wsV RX4 57 RX0 yX0_addInput wsX0_addInput) := goodIn_app (goodIn_of _ (by decide +kernel)) ggX4_input_X0_addInput
set_option maxRecDepth 20000 in
theorem ggX4_input_X4_beginAgain : GoodIn wsX4_input wsX4_beginAgain := goodIn_r _ [24, 25, 26, 27, 28, 29, 30, 31, 32, 33, 34, 35, 36, 37, 38, 6, 39, 40, 41, 42, 43, 44, 45, 46, 47, 48, 49, 50, 51, 52, 53, 69, 70, 71, 54, 55, 56, 57, 58, 59, 60, 61, 62, 63, 64, 65, 66, 67, 68, 72, 73, 74] (by decide +kernel) (by decide +kernel)
set_option maxRecDepth 20000 in
theorem gX4_input_X4_beginAgain : GoodIn wsX4_input (wsV RX4 61 RX4 yX4_beginAgain wsX4_beginAgain) := goodIn_app (goodIn_of _ (by decide +kernel)) ggX4_input_X4_beginAgain
theorem dX4_input_0 : decode cX4_input 0 = .ok (.aload_n 0, 1) := by decide +kernel
theorem dX4_input_1 : decode cX4_input 1 = .ok (.getfield 10, 3) := by decide +kernel
theorem dX4_input_4 : decode cX4_input 4 = .ok (.getfield 50, 3) := by decide +kernel
theorem dX4_input_7 : decode cX4_input 7 = .ok (.iconst 4, 1) := by decide +kernel
theorem dX4_input_8 : decode cX4_input 8 = .ok (.if_icmp .ge 13, 3) := by decide +kernel
theorem dX4_input_11 : decode cX4_input 11 = .ok (.aload_n 0, 1) := by decide +kernel
theorem dX4_input_12 : decode cX4_input 12 = .ok (.getfield 10, 3) := by decide +kernel
theorem dX4_input_15 : decode cX4_input 15 = .ok (.invokevirtual 53, 3) := by decide +kernel
theorem dX4_input_18 : decode cX4_input 18 = .ok (.ifCond .eq 6, 3) := by decide +kernel
theorem dX4_input_21 : decode cX4_input 21 = .ok (.bipush (-4), 2) := by decide +kernel
theorem dX4_input_23 : decode cX4_input 23 = .ok (.ireturn, 1) := by decide +kernel
theorem dX4_input_24 : decode cX4_input 24 = .ok (.aload_n 0, 1) := by decide +kernel
theorem dX4_input_25 : decode cX4_input 25 = .ok (.getfield 10, 3) := by decide +kernel
theorem dX4_input_28 : decode cX4_input 28 = .ok (.invokevirtual 57, 3) := by decide +kernel
theorem dX4_input_31 : decode cX4_input 31 = .ok (.istore_n 1, 1) := by decide +kernel
theorem dX4_input_32 : decode cX4_input 32 = .ok (.aload_n 0, 1) := by decide +kernel
theorem dX4_input_33 : decode cX4_input 33 = .ok (.invokevirtual 61, 3) := by decide +kernel
theorem dX4_input_36 : decode cX4_input 36 = .ok (.iload_n 1, 1) := by decide +kernel
theorem dX4_input_37 : decode cX4_input 37 = .ok (.ireturn, 1) := by decide +kernel
set_option maxRecDepth 20000 in
theorem ggX4_fixed_X4_isBit : GoodIn wsX4_fixed wsX4_isBit := goodIn_r _ [5] (by decide +kernel) (by decide +kernel)
set_option maxRecDepth 20000 in
theorem gX4_fixed_X4_isBit : GoodIn wsX4_fixed (va_wsS RX4 64 yX4_isBit wsX4_isBit) := goodIn_app (goodIn_of _ (by decide +kernel)) ggX4_fixed_X4_isBit
set_option maxRecDepth 20000 in
theorem ggX4_fixed_X0_isFull : GoodIn wsX4_fixed wsX0_isFull := goodIn_r _ [10, 11, 55, 56, 57, 58, 59, 60, 61, 62, 63, 64, 65, 66, 67, 68, 69] (by decide +kernel) (by decide +kernel)
set_option maxRecDepth 20000 in
theorem gX4_fixed_X0_isFull : GoodIn wsX4_fixed (wsV RX4 53 RX0 yX0_isFull wsX0_isFull) := goodIn_app (goodIn_of _ (by decide +kernel)) ggX4_fixed_X0_isFull
set_option maxRecDepth 20000 in
theorem ggX4_fixed_X0_addFixed : GoodIn wsX4_fixed wsX0_addFixed := goodIn_r _ [15, 16, 17, 18, 19, 9, 20, 11, 21, 55, 56, 57, 58, 59, 60, 61, 62, 63, 64, 65, 66, 67, 68, 69] (by decide +kernel) (by decide +kernel)
set_option maxRecDepth 20000 in
theorem gX4_fixed_X0_addFixed : GoodIn wsX4_fixed (wsV RX4 68 RX0 yX0_addFixed wsX0_addFixed) := goodIn_app (goodIn_of _ (by decide +kernel)) ggX4_fixed_X0_addFixed
set_option maxRecDepth 20000 in
theorem ggX4_fixed_X4_beginAgain : GoodIn wsX4_fixed wsX4_beginAgain := goodIn_r _ [25, 26, 27, 28, 29, 30, 31, 32, 33, 34, 35, 36, 37, 38, 39, 9, 40, 41, 42, 43, 44, 45, 46, 47, 48, 49, 50, 51, 52, 53, 54, 70, 71, 72, 55, 56, 57, 58, 59, 60, 61, 62, 63, 64, 65, 66, 67, 68, 69, 73, 74, 75] (by decide +kernel) (by decide +kernel)
set_option maxRecDepth 20000 in
theorem gX4_fixed_X4_beginAgain : GoodIn wsX4_fixed (wsV RX4 61 RX4 yX4_beginAgain wsX4_beginAgain) := goodIn_app (goodIn_of _ (by decide +kernel)) ggX4_fixed_X4_beginAgain
theorem dX4_fixed_0 : decode cX4_fixed 0 = .ok (.iload_n 1, 1) := by decide +kernel
theorem dX4_fixed_1 : decode cX4_fixed 1 = .ok (.invokestatic 64, 3) := by decide +kernel
theorem dX4_fixed_4 : decode cX4_fixed 4 = .ok (.ifCond .ne 6, 3) := by decide +kernel
theorem dX4_fixed_7 : decode cX4_fixed 7 = .ok (.bipush (-2), 2) := by decide +kernel
theorem dX4_fixed_9 : decode cX4_fixed 9 = .ok (.ireturn, 1) := by decide +kernel
theorem dX4_fixed_10 : decode cX4_fixed 10 = .ok (.aload_n 0, 1) := by decide +kernel
theorem dX4_fixed_11 : decode cX4_fixed 11 = .ok (.getfield 10, 3) := by decide +kernel
theorem dX4_fixed_14 : decode cX4_fixed 14 = .ok (.invokevirtual 53, 3) := by decide +kernel
theorem dX4_fixed_17 : decode cX4_fixed 17 = .ok (.ifCond .eq 6, 3) := by decide +kernel
theorem dX4_fixed_20 : decode cX4_fixed 20 = .ok (.bipush (-4), 2) := by decide +kernel
theorem dX4_fixed_22 : decode cX4_fixed 22 = .ok (.ireturn, 1) := by decide +kernel
theorem dX4_fixed_23 : decode cX4_fixed 23 = .ok (.aload_n 0, 1) := by decide +kernel
theorem dX4_fixed_24 : decode cX4_fixed 24 = .ok (.getfield 10, 3) := by decide +kernel
theorem dX4_fixed_27 : decode cX4_fixed 27 = .ok (.iload_n 1, 1) := by decide +kernel
theorem dX4_fixed_28 : decode cX4_fixed 28 = .ok (.invokevirtual 68, 3) := by decide +kernel
theorem dX4_fixed_31 : decode cX4_fixed 31 = .ok (.istore_n 2, 1) := by decide +kernel
theorem dX4_fixed_32 : decode cX4_fixed 32 = .ok (.aload_n 0, 1) := by decide +kernel
theorem dX4_fixed_33 : decode cX4_fixed 33 = .ok (.invokevirtual 61, 3) := by decide +kernel
theorem dX4_fixed_36 : decode cX4_fixed 36 = .ok (.iload_n 2, 1) := by decide +kernel
theorem dX4_fixed_37 : decode cX4_fixed 37 = .ok (.ireturn, 1) := by decide +kernel
set_option maxRecDepth 20000 in
theorem ggX4_gate_X0_isNode : GoodIn wsX4_gate wsX0_isNode := goodIn_r _ [6, 7, 59, 60, 61, 62, 63, 64, 65, 66, 67, 68, 69, 70, 71, 72, 73] (by decide +kernel) (by decide +kernel)
set_option maxRecDepth 20000 in
theorem gX4_gate_X0_isNode : GoodIn wsX4_gate (wsV RX4 72 RX0 yX0_isNode wsX0_isNode) := goodIn_app (goodIn_of _ (by decide +kernel)) ggX4_gate_X0_isNode
set_option maxRecDepth 20000 in
theorem ggX4_gate_X0_isFull : GoodIn wsX4_gate wsX0_isFull := goodIn_r _ [11, 7, 59, 60, 61, 62, 63, 64, 65, 66, 67, 68, 69, 70, 71, 72, 73] (by decide +kernel) (by decide +kernel)
set_option maxRecDepth 20000 in
theorem gX4_gate_X0_isFull : GoodIn wsX4_gate (wsV RX4 53 RX0 yX0_isFull wsX0_isFull) := goodIn_app (goodIn_of _ (by decide +kernel)) ggX4_gate_X0_isFull
set_option maxRecDepth 20000 in
theorem ggX4_gate_X0_addGate : GoodIn wsX4_gate wsX0_addGate := goodIn_r _ [15, 16, 17, 18, 19, 20, 21, 22, 5, 23, 7, 24, 59, 60, 61, 62, 63, 64, 65, 66, 67, 68, 69, 70, 71, 72, 73] (by decide +kernel) (by decide +kernel)
set_option maxRecDepth 20000 in
theorem gX4_gate_X0_addGate : GoodIn wsX4_gate (wsV RX4 75 RX0 yX0_addGate wsX0_addGate) := goodIn_app (goodIn_of _ (by decide +kernel)) ggX4_gate_X0_addGate
set_option maxRecDepth 20000 in
theorem ggX4_gate_X4_beginAgain : GoodIn wsX4_gate wsX4_beginAgain := goodIn_r _ [29, 30, 31, 32, 33, 34, 35, 36, 37, 38, 39, 40, 41, 42, 43, 5, 44, 45, 46, 47, 48, 49, 50, 51, 52, 53, 54, 55, 56, 57, 58, 74, 75, 76, 59, 60, 61, 62, 63, 64, 65, 66, 67, 68, 69, 70, 71, 72, 73, 77, 78, 79] (by decide +kernel) (by decide +kernel)
set_option maxRecDepth 20000 in
theorem gX4_gate_X4_beginAgain : GoodIn wsX4_gate (wsV RX4 61 RX4 yX4_beginAgain wsX4_beginAgain) := goodIn_app (goodIn_of _ (by decide +kernel)) ggX4_gate_X4_beginAgain
theorem dX4_gate_0 : decode cX4_gate 0 = .ok (.iload_n 1, 1) := by decide +kernel
theorem dX4_gate_1 : decode cX4_gate 1 = .ok (.ifCond .lt 8, 3) := by decide +kernel
theorem dX4_gate_4 : decode cX4_gate 4 = .ok (.iload_n 1, 1) := by decide +kernel
theorem dX4_gate_5 : decode cX4_gate 5 = .ok (.iconst 4, 1) := by decide +kernel
theorem dX4_gate_6 : decode cX4_gate 6 = .ok (.if_icmp .le 6, 3) := by decide +kernel
theorem dX4_gate_9 : decode cX4_gate 9 = .ok (.bipush (-2), 2) := by decide +kernel
theorem dX4_gate_11 : decode cX4_gate 11 = .ok (.ireturn, 1) := by decide +kernel
theorem dX4_gate_12 : decode cX4_gate 12 = .ok (.iload_n 1, 1) := by decide +kernel
theorem dX4_gate_13 : decode cX4_gate 13 = .ok (.ifCond .eq 7, 3) := by decide +kernel
theorem dX4_gate_16 : decode cX4_gate 16 = .ok (.iconst 1, 1) := by decide +kernel
theorem dX4_gate_17 : decode cX4_gate 17 = .ok (.goto 4, 3) := by decide +kernel
theorem dX4_gate_20 : decode cX4_gate 20 = .ok (.iconst 0, 1) := by decide +kernel
theorem dX4_gate_21 : decode cX4_gate 21 = .ok (.istore 5, 2) := by decide +kernel
theorem dX4_gate_23 : decode cX4_gate 23 = .ok (.iload_n 1, 1) := by decide +kernel
theorem dX4_gate_24 : decode cX4_gate 24 = .ok (.iconst 4, 1) := by decide +kernel
theorem dX4_gate_25 : decode cX4_gate 25 = .ok (.if_icmp .ne 7, 3) := by decide +kernel
theorem dX4_gate_28 : decode cX4_gate 28 = .ok (.iconst 1, 1) := by decide +kernel
theorem dX4_gate_29 : decode cX4_gate 29 = .ok (.goto 4, 3) := by decide +kernel
theorem dX4_gate_32 : decode cX4_gate 32 = .ok (.iconst 0, 1) := by decide +kernel
theorem dX4_gate_33 : decode cX4_gate 33 = .ok (.istore 6, 2) := by decide +kernel
theorem dX4_gate_35 : decode cX4_gate 35 = .ok (.aload_n 0, 1) := by decide +kernel
theorem dX4_gate_36 : decode cX4_gate 36 = .ok (.getfield 10, 3) := by decide +kernel
theorem dX4_gate_39 : decode cX4_gate 39 = .ok (.iload_n 2, 1) := by decide +kernel
theorem dX4_gate_40 : decode cX4_gate 40 = .ok (.invokevirtual 72, 3) := by decide +kernel
theorem dX4_gate_43 : decode cX4_gate 43 = .ok (.ifCond .eq 36, 3) := by decide +kernel
theorem dX4_gate_46 : decode cX4_gate 46 = .ok (.iload 5, 2) := by decide +kernel
theorem dX4_gate_48 : decode cX4_gate 48 = .ok (.ifCond .eq 14, 3) := by decide +kernel
theorem dX4_gate_51 : decode cX4_gate 51 = .ok (.aload_n 0, 1) := by decide +kernel
theorem dX4_gate_52 : decode cX4_gate 52 = .ok (.getfield 10, 3) := by decide +kernel
theorem dX4_gate_55 : decode cX4_gate 55 = .ok (.iload_n 3, 1) := by decide +kernel
theorem dX4_gate_56 : decode cX4_gate 56 = .ok (.invokevirtual 72, 3) := by decide +kernel
theorem dX4_gate_59 : decode cX4_gate 59 = .ok (.ifCond .eq 20, 3) := by decide +kernel
theorem dX4_gate_62 : decode cX4_gate 62 = .ok (.iload 6, 2) := by decide +kernel
theorem dX4_gate_64 : decode cX4_gate 64 = .ok (.ifCond .eq 17, 3) := by decide +kernel
theorem dX4_gate_67 : decode cX4_gate 67 = .ok (.aload_n 0, 1) := by decide +kernel
theorem dX4_gate_68 : decode cX4_gate 68 = .ok (.getfield 10, 3) := by decide +kernel
theorem dX4_gate_71 : decode cX4_gate 71 = .ok (.iload 4, 2) := by decide +kernel
theorem dX4_gate_73 : decode cX4_gate 73 = .ok (.invokevirtual 72, 3) := by decide +kernel
theorem dX4_gate_76 : decode cX4_gate 76 = .ok (.ifCond .ne 5, 3) := by decide +kernel
theorem dX4_gate_79 : decode cX4_gate 79 = .ok (.iconst (-1), 1) := by decide +kernel
theorem dX4_gate_80 : decode cX4_gate 80 = .ok (.ireturn, 1) := by decide +kernel
theorem dX4_gate_81 : decode cX4_gate 81 = .ok (.aload_n 0, 1) := by decide +kernel
theorem dX4_gate_82 : decode cX4_gate 82 = .ok (.getfield 10, 3) := by decide +kernel
theorem dX4_gate_85 : decode cX4_gate 85 = .ok (.invokevirtual 53, 3) := by decide +kernel
theorem dX4_gate_88 : decode cX4_gate 88 = .ok (.ifCond .eq 6, 3) := by decide +kernel
theorem dX4_gate_91 : decode cX4_gate 91 = .ok (.bipush (-4), 2) := by decide +kernel
theorem dX4_gate_93 : decode cX4_gate 93 = .ok (.ireturn, 1) := by decide +kernel
theorem dX4_gate_94 : decode cX4_gate 94 = .ok (.aload_n 0, 1) := by decide +kernel
theorem dX4_gate_95 : decode cX4_gate 95 = .ok (.getfield 10, 3) := by decide +kernel
theorem dX4_gate_98 : decode cX4_gate 98 = .ok (.iload_n 1, 1) := by decide +kernel
theorem dX4_gate_99 : decode cX4_gate 99 = .ok (.iload_n 2, 1) := by decide +kernel
theorem dX4_gate_100 : decode cX4_gate 100 = .ok (.iload 5, 2) := by decide +kernel
theorem dX4_gate_102 : decode cX4_gate 102 = .ok (.ifCond .eq 7, 3) := by decide +kernel
theorem dX4_gate_105 : decode cX4_gate 105 = .ok (.iload_n 3, 1) := by decide +kernel
theorem dX4_gate_106 : decode cX4_gate 106 = .ok (.goto 4, 3) := by decide +kernel
theorem dX4_gate_109 : decode cX4_gate 109 = .ok (.iload_n 2, 1) := by decide +kernel
theorem dX4_gate_110 : decode cX4_gate 110 = .ok (.iload 6, 2) := by decide +kernel
theorem dX4_gate_112 : decode cX4_gate 112 = .ok (.ifCond .eq 8, 3) := by decide +kernel
theorem dX4_gate_115 : decode cX4_gate 115 = .ok (.iload 4, 2) := by decide +kernel
theorem dX4_gate_117 : decode cX4_gate 117 = .ok (.goto 4, 3) := by decide +kernel
theorem dX4_gate_120 : decode cX4_gate 120 = .ok (.iload_n 2, 1) := by decide +kernel
theorem dX4_gate_121 : decode cX4_gate 121 = .ok (.invokevirtual 75, 3) := by decide +kernel
theorem dX4_gate_124 : decode cX4_gate 124 = .ok (.istore 7, 2) := by decide +kernel
theorem dX4_gate_126 : decode cX4_gate 126 = .ok (.aload_n 0, 1) := by decide +kernel
theorem dX4_gate_127 : decode cX4_gate 127 = .ok (.invokevirtual 61, 3) := by decide +kernel
theorem dX4_gate_130 : decode cX4_gate 130 = .ok (.iload 7, 2) := by decide +kernel
theorem dX4_gate_132 : decode cX4_gate 132 = .ok (.ireturn, 1) := by decide +kernel
set_option maxRecDepth 20000 in
theorem ggX4_store_X4_isLine : GoodIn wsX4_store wsX4_isLine := goodIn_r _ [6] (by decide +kernel) (by decide +kernel)
set_option maxRecDepth 20000 in
theorem gX4_store_X4_isLine : GoodIn wsX4_store (va_wsS RX4 79 yX4_isLine wsX4_isLine) := goodIn_app (goodIn_of _ (by decide +kernel)) ggX4_store_X4_isLine
set_option maxRecDepth 20000 in
theorem ggX4_store_X4_isBit : GoodIn wsX4_store wsX4_isBit := goodIn_r _ [9] (by decide +kernel) (by decide +kernel)
set_option maxRecDepth 20000 in
theorem gX4_store_X4_isBit : GoodIn wsX4_store (va_wsS RX4 64 yX4_isBit wsX4_isBit) := goodIn_app (goodIn_of _ (by decide +kernel)) ggX4_store_X4_isBit
set_option maxRecDepth 20000 in
theorem ggX4_store_X0_isFull : GoodIn wsX4_store wsX0_isFull := goodIn_r _ [14, 15, 63, 64, 65, 66, 67, 68, 69, 70, 71, 72, 73, 74, 75, 76, 77] (by decide +kernel) (by decide +kernel)
set_option maxRecDepth 20000 in
theorem gX4_store_X0_isFull : GoodIn wsX4_store (wsV RX4 53 RX0 yX0_isFull wsX0_isFull) := goodIn_app (goodIn_of _ (by decide +kernel)) ggX4_store_X0_isFull
set_option maxRecDepth 20000 in
theorem ggX4_store_X0_addStore : GoodIn wsX4_store wsX0_addStore := goodIn_r _ [19, 20, 21, 22, 23, 24, 25, 26, 27, 28, 13, 29, 15, 30, 63, 64, 65, 66, 67, 68, 69, 70, 71, 72, 73, 74, 75, 76, 77] (by decide +kernel) (by decide +kernel)
set_option maxRecDepth 20000 in
theorem gX4_store_X0_addStore : GoodIn wsX4_store (wsV RX4 85 RX0 yX0_addStore wsX0_addStore) := goodIn_app (goodIn_of _ (by decide +kernel)) ggX4_store_X0_addStore
set_option maxRecDepth 20000 in
theorem ggX4_store_X4_beginAgain : GoodIn wsX4_store wsX4_beginAgain := goodIn_r _ [34, 35, 36, 37, 38, 39, 40, 41, 42, 43, 44, 45, 46, 47, 48, 13, 49, 21, 50, 51, 52, 53, 54, 55, 56, 57, 58, 59, 60, 61, 62, 78, 79, 80, 63, 64, 65, 66, 67, 68, 69, 70, 71, 72, 73, 74, 75, 76, 77, 81, 82, 83] (by decide +kernel) (by decide +kernel)
set_option maxRecDepth 20000 in
theorem gX4_store_X4_beginAgain : GoodIn wsX4_store (wsV RX4 61 RX4 yX4_beginAgain wsX4_beginAgain) := goodIn_app (goodIn_of _ (by decide +kernel)) ggX4_store_X4_beginAgain
theorem dX4_store_0 : decode cX4_store 0 = .ok (.iload_n 1, 1) := by decide +kernel
theorem dX4_store_1 : decode cX4_store 1 = .ok (.bipush (-9), 2) := by decide +kernel
theorem dX4_store_3 : decode cX4_store 3 = .ok (.if_icmp .eq 12, 3) := by decide +kernel
theorem dX4_store_6 : decode cX4_store 6 = .ok (.iload_n 1, 1) := by decide +kernel
theorem dX4_store_7 : decode cX4_store 7 = .ok (.invokestatic 79, 3) := by decide +kernel
theorem dX4_store_10 : decode cX4_store 10 = .ok (.ifCond .ne 5, 3) := by decide +kernel
theorem dX4_store_13 : decode cX4_store 13 = .ok (.iconst (-1), 1) := by decide +kernel
theorem dX4_store_14 : decode cX4_store 14 = .ok (.ireturn, 1) := by decide +kernel
theorem dX4_store_15 : decode cX4_store 15 = .ok (.iload_n 2, 1) := by decide +kernel
theorem dX4_store_16 : decode cX4_store 16 = .ok (.invokestatic 64, 3) := by decide +kernel
theorem dX4_store_19 : decode cX4_store 19 = .ok (.ifCond .ne 6, 3) := by decide +kernel
theorem dX4_store_22 : decode cX4_store 22 = .ok (.bipush (-2), 2) := by decide +kernel
theorem dX4_store_24 : decode cX4_store 24 = .ok (.ireturn, 1) := by decide +kernel
theorem dX4_store_25 : decode cX4_store 25 = .ok (.aload_n 0, 1) := by decide +kernel
theorem dX4_store_26 : decode cX4_store 26 = .ok (.getfield 10, 3) := by decide +kernel
theorem dX4_store_29 : decode cX4_store 29 = .ok (.getfield 82, 3) := by decide +kernel
theorem dX4_store_32 : decode cX4_store 32 = .ok (.bipush 6, 2) := by decide +kernel
theorem dX4_store_34 : decode cX4_store 34 = .ok (.if_icmp .ge 13, 3) := by decide +kernel
theorem dX4_store_37 : decode cX4_store 37 = .ok (.aload_n 0, 1) := by decide +kernel
theorem dX4_store_38 : decode cX4_store 38 = .ok (.getfield 10, 3) := by decide +kernel
theorem dX4_store_41 : decode cX4_store 41 = .ok (.invokevirtual 53, 3) := by decide +kernel
theorem dX4_store_44 : decode cX4_store 44 = .ok (.ifCond .eq 6, 3) := by decide +kernel
theorem dX4_store_47 : decode cX4_store 47 = .ok (.bipush (-4), 2) := by decide +kernel
theorem dX4_store_49 : decode cX4_store 49 = .ok (.ireturn, 1) := by decide +kernel
theorem dX4_store_50 : decode cX4_store 50 = .ok (.aload_n 0, 1) := by decide +kernel
theorem dX4_store_51 : decode cX4_store 51 = .ok (.getfield 10, 3) := by decide +kernel
theorem dX4_store_54 : decode cX4_store 54 = .ok (.iload_n 1, 1) := by decide +kernel
theorem dX4_store_55 : decode cX4_store 55 = .ok (.iload_n 2, 1) := by decide +kernel
theorem dX4_store_56 : decode cX4_store 56 = .ok (.invokevirtual 85, 3) := by decide +kernel
theorem dX4_store_59 : decode cX4_store 59 = .ok (.istore_n 3, 1) := by decide +kernel
theorem dX4_store_60 : decode cX4_store 60 = .ok (.aload_n 0, 1) := by decide +kernel
theorem dX4_store_61 : decode cX4_store 61 = .ok (.invokevirtual 61, 3) := by decide +kernel
theorem dX4_store_64 : decode cX4_store 64 = .ok (.iload_n 3, 1) := by decide +kernel
theorem dX4_store_65 : decode cX4_store 65 = .ok (.ireturn, 1) := by decide +kernel
set_option maxRecDepth 20000 in
theorem ggX4_reads_X0_isNode : GoodIn wsX4_reads wsX0_isNode := goodIn_r _ [8, 9, 50, 51, 52, 53, 54, 55, 56, 57, 58, 59, 60, 61, 62, 63, 64] (by decide +kernel) (by decide +kernel)
set_option maxRecDepth 20000 in
theorem gX4_reads_X0_isNode : GoodIn wsX4_reads (wsV RX4 72 RX0 yX0_isNode wsX0_isNode) := goodIn_app (goodIn_of _ (by decide +kernel)) ggX4_reads_X0_isNode
set_option maxRecDepth 20000 in
theorem ggX4_reads_X0_isSort : GoodIn wsX4_reads wsX0_isSort := goodIn_r _ [13, 14, 15, 5, 6, 7, 8, 9, 50, 51, 52, 53, 54, 55, 56, 57, 58, 59, 60, 61, 62, 63, 64] (by decide +kernel) (by decide +kernel)
set_option maxRecDepth 20000 in
theorem gX4_reads_X0_isSort : GoodIn wsX4_reads (wsV RX4 89 RX0 yX0_isSort wsX0_isSort) := goodIn_app (goodIn_of _ (by decide +kernel)) ggX4_reads_X0_isSort
set_option maxRecDepth 20000 in
theorem ggX4_reads_X4_beginAgain : GoodIn wsX4_reads wsX4_beginAgain := goodIn_r _ [20, 21, 22, 23, 24, 25, 26, 27, 28, 29, 30, 31, 32, 33, 34, 7, 35, 36, 37, 38, 39, 40, 41, 42, 43, 44, 45, 46, 47, 48, 49, 65, 66, 67, 50, 51, 52, 53, 54, 55, 56, 57, 58, 59, 60, 61, 62, 63, 64, 68, 69, 70] (by decide +kernel) (by decide +kernel)
set_option maxRecDepth 20000 in
theorem gX4_reads_X4_beginAgain : GoodIn wsX4_reads (wsV RX4 61 RX4 yX4_beginAgain wsX4_beginAgain) := goodIn_app (goodIn_of _ (by decide +kernel)) ggX4_reads_X4_beginAgain
theorem dX4_reads_0 : decode cX4_reads 0 = .ok (.aload_n 0, 1) := by decide +kernel
theorem dX4_reads_1 : decode cX4_reads 1 = .ok (.getfield 10, 3) := by decide +kernel
theorem dX4_reads_4 : decode cX4_reads 4 = .ok (.iload_n 1, 1) := by decide +kernel
theorem dX4_reads_5 : decode cX4_reads 5 = .ok (.invokevirtual 72, 3) := by decide +kernel
theorem dX4_reads_8 : decode cX4_reads 8 = .ok (.ifCond .eq 14, 3) := by decide +kernel
theorem dX4_reads_11 : decode cX4_reads 11 = .ok (.aload_n 0, 1) := by decide +kernel
theorem dX4_reads_12 : decode cX4_reads 12 = .ok (.getfield 10, 3) := by decide +kernel
theorem dX4_reads_15 : decode cX4_reads 15 = .ok (.iload_n 2, 1) := by decide +kernel
theorem dX4_reads_16 : decode cX4_reads 16 = .ok (.invokevirtual 72, 3) := by decide +kernel
theorem dX4_reads_19 : decode cX4_reads 19 = .ok (.ifCond .ne 5, 3) := by decide +kernel
theorem dX4_reads_22 : decode cX4_reads 22 = .ok (.iconst (-1), 1) := by decide +kernel
theorem dX4_reads_23 : decode cX4_reads 23 = .ok (.ireturn, 1) := by decide +kernel
theorem dX4_reads_24 : decode cX4_reads 24 = .ok (.aload_n 0, 1) := by decide +kernel
theorem dX4_reads_25 : decode cX4_reads 25 = .ok (.getfield 10, 3) := by decide +kernel
theorem dX4_reads_28 : decode cX4_reads 28 = .ok (.iload_n 1, 1) := by decide +kernel
theorem dX4_reads_29 : decode cX4_reads 29 = .ok (.iconst 3, 1) := by decide +kernel
theorem dX4_reads_30 : decode cX4_reads 30 = .ok (.invokevirtual 89, 3) := by decide +kernel
theorem dX4_reads_33 : decode cX4_reads 33 = .ok (.ifCond .ne 6, 3) := by decide +kernel
theorem dX4_reads_36 : decode cX4_reads 36 = .ok (.bipush (-3), 2) := by decide +kernel
theorem dX4_reads_38 : decode cX4_reads 38 = .ok (.ireturn, 1) := by decide +kernel
theorem dX4_reads_39 : decode cX4_reads 39 = .ok (.aload_n 0, 1) := by decide +kernel
theorem dX4_reads_40 : decode cX4_reads 40 = .ok (.getfield 10, 3) := by decide +kernel
theorem dX4_reads_43 : decode cX4_reads 43 = .ok (.getfield 93, 3) := by decide +kernel
theorem dX4_reads_46 : decode cX4_reads 46 = .ok (.iload_n 1, 1) := by decide +kernel
theorem dX4_reads_47 : decode cX4_reads 47 = .ok (.iaload, 1) := by decide +kernel
theorem dX4_reads_48 : decode cX4_reads 48 = .ok (.istore_n 3, 1) := by decide +kernel
theorem dX4_reads_49 : decode cX4_reads 49 = .ok (.aload_n 0, 1) := by decide +kernel
theorem dX4_reads_50 : decode cX4_reads 50 = .ok (.getfield 10, 3) := by decide +kernel
theorem dX4_reads_53 : decode cX4_reads 53 = .ok (.getfield 97, 3) := by decide +kernel
theorem dX4_reads_56 : decode cX4_reads 56 = .ok (.iload_n 3, 1) := by decide +kernel
theorem dX4_reads_57 : decode cX4_reads 57 = .ok (.iaload, 1) := by decide +kernel
theorem dX4_reads_58 : decode cX4_reads 58 = .ok (.istore 4, 2) := by decide +kernel
theorem dX4_reads_60 : decode cX4_reads 60 = .ok (.iload 4, 2) := by decide +kernel
theorem dX4_reads_62 : decode cX4_reads 62 = .ok (.iload_n 2, 1) := by decide +kernel
theorem dX4_reads_63 : decode cX4_reads 63 = .ok (.if_icmp .eq 17, 3) := by decide +kernel
theorem dX4_reads_66 : decode cX4_reads 66 = .ok (.aload_n 0, 1) := by decide +kernel
theorem dX4_reads_67 : decode cX4_reads 67 = .ok (.getfield 10, 3) := by decide +kernel
theorem dX4_reads_70 : decode cX4_reads 70 = .ok (.getfield 97, 3) := by decide +kernel
theorem dX4_reads_73 : decode cX4_reads 73 = .ok (.iload_n 3, 1) := by decide +kernel
theorem dX4_reads_74 : decode cX4_reads 74 = .ok (.iload_n 2, 1) := by decide +kernel
theorem dX4_reads_75 : decode cX4_reads 75 = .ok (.iastore, 1) := by decide +kernel
theorem dX4_reads_76 : decode cX4_reads 76 = .ok (.aload_n 0, 1) := by decide +kernel
theorem dX4_reads_77 : decode cX4_reads 77 = .ok (.invokevirtual 61, 3) := by decide +kernel
theorem dX4_reads_80 : decode cX4_reads 80 = .ok (.iload 4, 2) := by decide +kernel
theorem dX4_reads_82 : decode cX4_reads 82 = .ok (.ireturn, 1) := by decide +kernel
set_option maxRecDepth 20000 in
theorem ggX4_about_X0_isNode : GoodIn wsX4_about wsX0_isNode := goodIn_r _ [9, 10, 31, 32, 33, 34, 35, 36, 37, 38, 39, 40, 41, 42, 43, 44, 45] (by decide +kernel) (by decide +kernel)
set_option maxRecDepth 20000 in
theorem gX4_about_X0_isNode : GoodIn wsX4_about (wsV RX4 72 RX0 yX0_isNode wsX0_isNode) := goodIn_app (goodIn_of _ (by decide +kernel)) ggX4_about_X0_isNode
set_option maxRecDepth 20000 in
theorem ggX4_about_X0_isSort : GoodIn wsX4_about wsX0_isSort := goodIn_r _ [14, 15, 16, 6, 7, 8, 9, 10, 31, 32, 33, 34, 35, 36, 37, 38, 39, 40, 41, 42, 43, 44, 45] (by decide +kernel) (by decide +kernel)
set_option maxRecDepth 20000 in
theorem gX4_about_X0_isSort : GoodIn wsX4_about (wsV RX4 89 RX0 yX0_isSort wsX0_isSort) := goodIn_app (goodIn_of _ (by decide +kernel)) ggX4_about_X0_isSort
set_option maxRecDepth 20000 in
theorem ggX4_about_X0_aboutStore : GoodIn wsX4_about wsX0_aboutStore := goodIn_r _ [20, 21, 22, 23, 31, 32, 33, 34, 35, 36, 37, 38, 39, 40, 41, 42, 43, 44, 45] (by decide +kernel) (by decide +kernel)
set_option maxRecDepth 20000 in
theorem gX4_about_X0_aboutStore : GoodIn wsX4_about (wsV RX4 106 RX0 yX0_aboutStore wsX0_aboutStore) := goodIn_app (goodIn_of _ (by decide +kernel)) ggX4_about_X0_aboutStore
theorem dX4_about_0 : decode cX4_about 0 = .ok (.aload_n 0, 1) := by decide +kernel
theorem dX4_about_1 : decode cX4_about 1 = .ok (.getfield 10, 3) := by decide +kernel
theorem dX4_about_4 : decode cX4_about 4 = .ok (.iload_n 1, 1) := by decide +kernel
theorem dX4_about_5 : decode cX4_about 5 = .ok (.invokevirtual 72, 3) := by decide +kernel
theorem dX4_about_8 : decode cX4_about 8 = .ok (.ifCond .ne 5, 3) := by decide +kernel
theorem dX4_about_11 : decode cX4_about 11 = .ok (.iconst (-1), 1) := by decide +kernel
theorem dX4_about_12 : decode cX4_about 12 = .ok (.ireturn, 1) := by decide +kernel
theorem dX4_about_13 : decode cX4_about 13 = .ok (.iload_n 2, 1) := by decide +kernel
theorem dX4_about_14 : decode cX4_about 14 = .ok (.ifCond .lt 8, 3) := by decide +kernel
theorem dX4_about_17 : decode cX4_about 17 = .ok (.iload_n 2, 1) := by decide +kernel
theorem dX4_about_18 : decode cX4_about 18 = .ok (.iconst 4, 1) := by decide +kernel
theorem dX4_about_19 : decode cX4_about 19 = .ok (.if_icmp .le 6, 3) := by decide +kernel
theorem dX4_about_22 : decode cX4_about 22 = .ok (.bipush (-2), 2) := by decide +kernel
theorem dX4_about_24 : decode cX4_about 24 = .ok (.ireturn, 1) := by decide +kernel
theorem dX4_about_25 : decode cX4_about 25 = .ok (.iload_n 2, 1) := by decide +kernel
theorem dX4_about_26 : decode cX4_about 26 = .ok (.ifCond .ne 13, 3) := by decide +kernel
theorem dX4_about_29 : decode cX4_about 29 = .ok (.aload_n 0, 1) := by decide +kernel
theorem dX4_about_30 : decode cX4_about 30 = .ok (.getfield 10, 3) := by decide +kernel
theorem dX4_about_33 : decode cX4_about 33 = .ok (.getfield 100, 3) := by decide +kernel
theorem dX4_about_36 : decode cX4_about 36 = .ok (.iload_n 1, 1) := by decide +kernel
theorem dX4_about_37 : decode cX4_about 37 = .ok (.iaload, 1) := by decide +kernel
theorem dX4_about_38 : decode cX4_about 38 = .ok (.ireturn, 1) := by decide +kernel
theorem dX4_about_39 : decode cX4_about 39 = .ok (.iload_n 2, 1) := by decide +kernel
theorem dX4_about_40 : decode cX4_about 40 = .ok (.iconst 1, 1) := by decide +kernel
theorem dX4_about_41 : decode cX4_about 41 = .ok (.if_icmp .ne 30, 3) := by decide +kernel
theorem dX4_about_44 : decode cX4_about 44 = .ok (.aload_n 0, 1) := by decide +kernel
theorem dX4_about_45 : decode cX4_about 45 = .ok (.getfield 10, 3) := by decide +kernel
theorem dX4_about_48 : decode cX4_about 48 = .ok (.iload_n 1, 1) := by decide +kernel
theorem dX4_about_49 : decode cX4_about 49 = .ok (.iconst 2, 1) := by decide +kernel
theorem dX4_about_50 : decode cX4_about 50 = .ok (.invokevirtual 89, 3) := by decide +kernel
theorem dX4_about_53 : decode cX4_about 53 = .ok (.ifCond .eq 15, 3) := by decide +kernel
theorem dX4_about_56 : decode cX4_about 56 = .ok (.aload_n 0, 1) := by decide +kernel
theorem dX4_about_57 : decode cX4_about 57 = .ok (.getfield 10, 3) := by decide +kernel
theorem dX4_about_60 : decode cX4_about 60 = .ok (.getfield 103, 3) := by decide +kernel
theorem dX4_about_63 : decode cX4_about 63 = .ok (.iload_n 1, 1) := by decide +kernel
theorem dX4_about_64 : decode cX4_about 64 = .ok (.iaload, 1) := by decide +kernel
theorem dX4_about_65 : decode cX4_about 65 = .ok (.goto 5, 3) := by decide +kernel
theorem dX4_about_68 : decode cX4_about 68 = .ok (.bipush (-9), 2) := by decide +kernel
theorem dX4_about_70 : decode cX4_about 70 = .ok (.ireturn, 1) := by decide +kernel
theorem dX4_about_71 : decode cX4_about 71 = .ok (.aload_n 0, 1) := by decide +kernel
theorem dX4_about_72 : decode cX4_about 72 = .ok (.getfield 10, 3) := by decide +kernel
theorem dX4_about_75 : decode cX4_about 75 = .ok (.iload_n 1, 1) := by decide +kernel
theorem dX4_about_76 : decode cX4_about 76 = .ok (.iconst 3, 1) := by decide +kernel
theorem dX4_about_77 : decode cX4_about 77 = .ok (.invokevirtual 89, 3) := by decide +kernel
theorem dX4_about_80 : decode cX4_about 80 = .ok (.ifCond .eq 23, 3) := by decide +kernel
theorem dX4_about_83 : decode cX4_about 83 = .ok (.aload_n 0, 1) := by decide +kernel
theorem dX4_about_84 : decode cX4_about 84 = .ok (.getfield 10, 3) := by decide +kernel
theorem dX4_about_87 : decode cX4_about 87 = .ok (.aload_n 0, 1) := by decide +kernel
theorem dX4_about_88 : decode cX4_about 88 = .ok (.getfield 10, 3) := by decide +kernel
theorem dX4_about_91 : decode cX4_about 91 = .ok (.getfield 93, 3) := by decide +kernel
theorem dX4_about_94 : decode cX4_about 94 = .ok (.iload_n 1, 1) := by decide +kernel
theorem dX4_about_95 : decode cX4_about 95 = .ok (.iaload, 1) := by decide +kernel
theorem dX4_about_96 : decode cX4_about 96 = .ok (.iload_n 2, 1) := by decide +kernel
theorem dX4_about_97 : decode cX4_about 97 = .ok (.invokevirtual 106, 3) := by decide +kernel
theorem dX4_about_100 : decode cX4_about 100 = .ok (.goto 5, 3) := by decide +kernel
theorem dX4_about_103 : decode cX4_about 103 = .ok (.bipush (-9), 2) := by decide +kernel
theorem dX4_about_105 : decode cX4_about 105 = .ok (.ireturn, 1) := by decide +kernel
set_option maxRecDepth 20000 in
theorem ggX4_line_X4_isLine : GoodIn wsX4_line wsX4_isLine := goodIn_r _ [5] (by decide +kernel) (by decide +kernel)
set_option maxRecDepth 20000 in
theorem gX4_line_X4_isLine : GoodIn wsX4_line (va_wsS RX4 79 yX4_isLine wsX4_isLine) := goodIn_app (goodIn_of _ (by decide +kernel)) ggX4_line_X4_isLine
theorem dX4_line_0 : decode cX4_line 0 = .ok (.iload_n 1, 1) := by decide +kernel
theorem dX4_line_1 : decode cX4_line 1 = .ok (.invokestatic 79, 3) := by decide +kernel
theorem dX4_line_4 : decode cX4_line 4 = .ok (.ifCond .ne 5, 3) := by decide +kernel
theorem dX4_line_7 : decode cX4_line 7 = .ok (.iconst (-1), 1) := by decide +kernel
theorem dX4_line_8 : decode cX4_line 8 = .ok (.ireturn, 1) := by decide +kernel
theorem dX4_line_9 : decode cX4_line 9 = .ok (.iconst 1, 1) := by decide +kernel
theorem dX4_line_10 : decode cX4_line 10 = .ok (.iload_n 1, 1) := by decide +kernel
theorem dX4_line_11 : decode cX4_line 11 = .ok (.ishl, 1) := by decide +kernel
theorem dX4_line_12 : decode cX4_line 12 = .ok (.istore_n 3, 1) := by decide +kernel
theorem dX4_line_13 : decode cX4_line 13 = .ok (.aload_n 0, 1) := by decide +kernel
theorem dX4_line_14 : decode cX4_line 14 = .ok (.getfield 47, 3) := by decide +kernel
theorem dX4_line_17 : decode cX4_line 17 = .ok (.iload_n 3, 1) := by decide +kernel
theorem dX4_line_18 : decode cX4_line 18 = .ok (.iand, 1) := by decide +kernel
theorem dX4_line_19 : decode cX4_line 19 = .ok (.ifCond .eq 7, 3) := by decide +kernel
theorem dX4_line_22 : decode cX4_line 22 = .ok (.iconst 1, 1) := by decide +kernel
theorem dX4_line_23 : decode cX4_line 23 = .ok (.goto 4, 3) := by decide +kernel
theorem dX4_line_26 : decode cX4_line 26 = .ok (.iconst 0, 1) := by decide +kernel
theorem dX4_line_27 : decode cX4_line 27 = .ok (.istore 4, 2) := by decide +kernel
theorem dX4_line_29 : decode cX4_line 29 = .ok (.aload_n 0, 1) := by decide +kernel
theorem dX4_line_30 : decode cX4_line 30 = .ok (.iload_n 2, 1) := by decide +kernel
theorem dX4_line_31 : decode cX4_line 31 = .ok (.ifCond .eq 12, 3) := by decide +kernel
theorem dX4_line_34 : decode cX4_line 34 = .ok (.aload_n 0, 1) := by decide +kernel
theorem dX4_line_35 : decode cX4_line 35 = .ok (.getfield 47, 3) := by decide +kernel
theorem dX4_line_38 : decode cX4_line 38 = .ok (.iload_n 3, 1) := by decide +kernel
theorem dX4_line_39 : decode cX4_line 39 = .ok (.ior, 1) := by decide +kernel
theorem dX4_line_40 : decode cX4_line 40 = .ok (.goto 11, 3) := by decide +kernel
theorem dX4_line_43 : decode cX4_line 43 = .ok (.aload_n 0, 1) := by decide +kernel
theorem dX4_line_44 : decode cX4_line 44 = .ok (.getfield 47, 3) := by decide +kernel
theorem dX4_line_47 : decode cX4_line 47 = .ok (.iload_n 3, 1) := by decide +kernel
theorem dX4_line_48 : decode cX4_line 48 = .ok (.iconst (-1), 1) := by decide +kernel
theorem dX4_line_49 : decode cX4_line 49 = .ok (.ixor, 1) := by decide +kernel
theorem dX4_line_50 : decode cX4_line 50 = .ok (.iand, 1) := by decide +kernel
theorem dX4_line_51 : decode cX4_line 51 = .ok (.putfield 47, 3) := by decide +kernel
theorem dX4_line_54 : decode cX4_line 54 = .ok (.iload 4, 2) := by decide +kernel
theorem dX4_line_56 : decode cX4_line 56 = .ok (.ireturn, 1) := by decide +kernel
set_option maxRecDepth 20000 in
theorem ggX4_set_X0_isNode : GoodIn wsX4_set wsX0_isNode := goodIn_r _ [7, 8, 26, 27, 28, 29, 30, 31, 32, 33, 34, 35, 36, 37, 38, 39, 40] (by decide +kernel) (by decide +kernel)
set_option maxRecDepth 20000 in
theorem gX4_set_X0_isNode : GoodIn wsX4_set (wsV RX4 72 RX0 yX0_isNode wsX0_isNode) := goodIn_app (goodIn_of _ (by decide +kernel)) ggX4_set_X0_isNode
set_option maxRecDepth 20000 in
theorem ggX4_set_X0_isSort : GoodIn wsX4_set wsX0_isSort := goodIn_r _ [12, 13, 14, 4, 5, 6, 7, 8, 26, 27, 28, 29, 30, 31, 32, 33, 34, 35, 36, 37, 38, 39, 40] (by decide +kernel) (by decide +kernel)
set_option maxRecDepth 20000 in
theorem gX4_set_X0_isSort : GoodIn wsX4_set (wsV RX4 89 RX0 yX0_isSort wsX0_isSort) := goodIn_app (goodIn_of _ (by decide +kernel)) ggX4_set_X0_isSort
set_option maxRecDepth 20000 in
theorem ggX4_set_X4_isBit : GoodIn wsX4_set wsX4_isBit := goodIn_r _ [18] (by decide +kernel) (by decide +kernel)
set_option maxRecDepth 20000 in
theorem gX4_set_X4_isBit : GoodIn wsX4_set (va_wsS RX4 64 yX4_isBit wsX4_isBit) := goodIn_app (goodIn_of _ (by decide +kernel)) ggX4_set_X4_isBit
theorem dX4_set_0 : decode cX4_set 0 = .ok (.aload_n 0, 1) := by decide +kernel
theorem dX4_set_1 : decode cX4_set 1 = .ok (.getfield 10, 3) := by decide +kernel
theorem dX4_set_4 : decode cX4_set 4 = .ok (.iload_n 1, 1) := by decide +kernel
theorem dX4_set_5 : decode cX4_set 5 = .ok (.invokevirtual 72, 3) := by decide +kernel
theorem dX4_set_8 : decode cX4_set 8 = .ok (.ifCond .ne 5, 3) := by decide +kernel
theorem dX4_set_11 : decode cX4_set 11 = .ok (.iconst (-1), 1) := by decide +kernel
theorem dX4_set_12 : decode cX4_set 12 = .ok (.ireturn, 1) := by decide +kernel
theorem dX4_set_13 : decode cX4_set 13 = .ok (.aload_n 0, 1) := by decide +kernel
theorem dX4_set_14 : decode cX4_set 14 = .ok (.getfield 10, 3) := by decide +kernel
theorem dX4_set_17 : decode cX4_set 17 = .ok (.iload_n 1, 1) := by decide +kernel
theorem dX4_set_18 : decode cX4_set 18 = .ok (.iconst 0, 1) := by decide +kernel
theorem dX4_set_19 : decode cX4_set 19 = .ok (.invokevirtual 89, 3) := by decide +kernel
theorem dX4_set_22 : decode cX4_set 22 = .ok (.ifCond .ne 6, 3) := by decide +kernel
theorem dX4_set_25 : decode cX4_set 25 = .ok (.bipush (-3), 2) := by decide +kernel
theorem dX4_set_27 : decode cX4_set 27 = .ok (.ireturn, 1) := by decide +kernel
theorem dX4_set_28 : decode cX4_set 28 = .ok (.iload_n 2, 1) := by decide +kernel
theorem dX4_set_29 : decode cX4_set 29 = .ok (.invokestatic 64, 3) := by decide +kernel
theorem dX4_set_32 : decode cX4_set 32 = .ok (.ifCond .ne 11, 3) := by decide +kernel
theorem dX4_set_35 : decode cX4_set 35 = .ok (.iload_n 2, 1) := by decide +kernel
theorem dX4_set_36 : decode cX4_set 36 = .ok (.iconst 2, 1) := by decide +kernel
theorem dX4_set_37 : decode cX4_set 37 = .ok (.if_icmp .eq 6, 3) := by decide +kernel
theorem dX4_set_40 : decode cX4_set 40 = .ok (.bipush (-2), 2) := by decide +kernel
theorem dX4_set_42 : decode cX4_set 42 = .ok (.ireturn, 1) := by decide +kernel
theorem dX4_set_43 : decode cX4_set 43 = .ok (.aload_n 0, 1) := by decide +kernel
theorem dX4_set_44 : decode cX4_set 44 = .ok (.getfield 10, 3) := by decide +kernel
theorem dX4_set_47 : decode cX4_set 47 = .ok (.getfield 109, 3) := by decide +kernel
theorem dX4_set_50 : decode cX4_set 50 = .ok (.iload_n 1, 1) := by decide +kernel
theorem dX4_set_51 : decode cX4_set 51 = .ok (.iaload, 1) := by decide +kernel
theorem dX4_set_52 : decode cX4_set 52 = .ok (.istore_n 3, 1) := by decide +kernel
theorem dX4_set_53 : decode cX4_set 53 = .ok (.aload_n 0, 1) := by decide +kernel
theorem dX4_set_54 : decode cX4_set 54 = .ok (.getfield 10, 3) := by decide +kernel
theorem dX4_set_57 : decode cX4_set 57 = .ok (.getfield 109, 3) := by decide +kernel
theorem dX4_set_60 : decode cX4_set 60 = .ok (.iload_n 1, 1) := by decide +kernel
theorem dX4_set_61 : decode cX4_set 61 = .ok (.iload_n 2, 1) := by decide +kernel
theorem dX4_set_62 : decode cX4_set 62 = .ok (.iastore, 1) := by decide +kernel
theorem dX4_set_63 : decode cX4_set 63 = .ok (.iload_n 3, 1) := by decide +kernel
theorem dX4_set_64 : decode cX4_set 64 = .ok (.ireturn, 1) := by decide +kernel
set_option maxRecDepth 20000 in
theorem ggX4_tick_X4_isTickCount : GoodIn wsX4_tick wsX4_isTickCount := goodIn_r _ [10] (by decide +kernel) (by decide +kernel)
set_option maxRecDepth 20000 in
theorem gX4_tick_X4_isTickCount : GoodIn wsX4_tick (va_wsS RX4 112 yX4_isTickCount wsX4_isTickCount) := goodIn_app (goodIn_of _ (by decide +kernel)) ggX4_tick_X4_isTickCount
set_option maxRecDepth 20000 in
theorem ggX4_tick_X0_storesOf : GoodIn wsX4_tick wsX0_storesOf := goodIn_r _ [15, 16, 17, 121, 122, 123, 124, 125, 126, 127, 128, 129, 130, 131, 132, 133, 134, 135] (by decide +kernel) (by decide +kernel)
set_option maxRecDepth 20000 in
theorem gX4_tick_X0_storesOf : GoodIn wsX4_tick (wsV RX4 115 RX0 yX0_storesOf wsX0_storesOf) := goodIn_app (goodIn_of _ (by decide +kernel)) ggX4_tick_X0_storesOf
set_option maxRecDepth 20000 in
theorem ggX4_tick_X3_prepare : GoodIn wsX4_tick wsX3_prepare := goodIn_r _ [22, 23, 24, 25, 26, 27, 14, 28, 16, 29, 30, 31, 32, 33, 34, 35, 36, 37, 38, 21, 39, 40, 41, 42, 43, 44, 45, 46, 47, 48, 49, 50, 51, 52, 53, 54, 55, 56, 57, 58, 59, 60, 61, 62, 63, 136, 137, 138, 121, 122, 123, 124, 125, 126, 127, 128, 129, 130, 131, 132, 133, 134, 135] (by decide +kernel) (by decide +kernel)
set_option maxRecDepth 20000 in
theorem gX4_tick_X3_prepare : GoodIn wsX4_tick (wsV RX4 118 RX3 yX3_prepare wsX3_prepare) := goodIn_app (goodIn_of _ (by decide +kernel)) ggX4_tick_X3_prepare
set_option maxRecDepth 20000 in
theorem ggX4_tick_X3_after : GoodIn wsX4_tick wsX3_after := goodIn_r _ [67, 23, 24, 62, 25, 26, 27, 14, 28, 16, 68, 69, 70, 21, 71, 72, 44, 49, 136, 137, 138, 121, 122, 123, 124, 125, 126, 127, 128, 129, 130, 131, 132, 133, 134, 135] (by decide +kernel) (by decide +kernel)
set_option maxRecDepth 20000 in
theorem gX4_tick_X3_after : GoodIn wsX4_tick (wsV RX4 122 RX3 yX3_after wsX3_after) := goodIn_app (goodIn_of _ (by decide +kernel)) ggX4_tick_X3_after
set_option maxRecDepth 20000 in
theorem ggX4_tick_X2_pass : GoodIn wsX4_tick wsX2_pass := goodIn_r _ [77, 78, 79, 80, 81, 82, 83, 84, 85, 86, 76, 87, 88, 89, 90, 91, 92, 93, 94, 95, 96, 97, 98, 99, 100, 101, 102, 103, 104, 105, 106, 139, 140, 141, 121, 122, 123, 124, 125, 126, 127, 128, 129, 130, 131, 132, 133, 134, 135] (by decide +kernel) (by decide +kernel)
set_option maxRecDepth 20000 in
theorem gX4_tick_X2_pass : GoodIn wsX4_tick (wsV RX4 126 RX2 yX2_pass wsX2_pass) := goodIn_app (goodIn_of _ (by decide +kernel)) ggX4_tick_X2_pass
set_option maxRecDepth 20000 in
theorem ggX4_tick_J13_bitCount_95d88 : GoodIn wsX4_tick wsJ13_bitCount_95d88 := goodIn_r _ [110, 111, 112, 113] (by decide +kernel) (by decide +kernel)
set_option maxRecDepth 20000 in
theorem gX4_tick_J13_bitCount_95d88 : GoodIn wsX4_tick (va_wsS RX4 130 yJ13_bitCount_95d88 wsJ13_bitCount_95d88) := goodIn_app (goodIn_of _ (by decide +kernel)) ggX4_tick_J13_bitCount_95d88
theorem dX4_tick_0 : decode cX4_tick 0 = .ok (.iload_n 1, 1) := by decide +kernel
theorem dX4_tick_1 : decode cX4_tick 1 = .ok (.invokestatic 112, 3) := by decide +kernel
theorem dX4_tick_4 : decode cX4_tick 4 = .ok (.ifCond .ne 6, 3) := by decide +kernel
theorem dX4_tick_7 : decode cX4_tick 7 = .ok (.bipush (-2), 2) := by decide +kernel
theorem dX4_tick_9 : decode cX4_tick 9 = .ok (.ireturn, 1) := by decide +kernel
theorem dX4_tick_10 : decode cX4_tick 10 = .ok (.aload_n 0, 1) := by decide +kernel
theorem dX4_tick_11 : decode cX4_tick 11 = .ok (.getfield 10, 3) := by decide +kernel
theorem dX4_tick_14 : decode cX4_tick 14 = .ok (.aload_n 0, 1) := by decide +kernel
theorem dX4_tick_15 : decode cX4_tick 15 = .ok (.getfield 47, 3) := by decide +kernel
theorem dX4_tick_18 : decode cX4_tick 18 = .ok (.invokevirtual 115, 3) := by decide +kernel
theorem dX4_tick_21 : decode cX4_tick 21 = .ok (.istore_n 2, 1) := by decide +kernel
theorem dX4_tick_22 : decode cX4_tick 22 = .ok (.aload_n 0, 1) := by decide +kernel
theorem dX4_tick_23 : decode cX4_tick 23 = .ok (.getfield 21, 3) := by decide +kernel
theorem dX4_tick_26 : decode cX4_tick 26 = .ok (.iconst 0, 1) := by decide +kernel
theorem dX4_tick_27 : decode cX4_tick 27 = .ok (.invokevirtual 118, 3) := by decide +kernel
theorem dX4_tick_30 : decode cX4_tick 30 = .ok (.iconst 0, 1) := by decide +kernel
theorem dX4_tick_31 : decode cX4_tick 31 = .ok (.istore_n 3, 1) := by decide +kernel
theorem dX4_tick_32 : decode cX4_tick 32 = .ok (.iload_n 3, 1) := by decide +kernel
theorem dX4_tick_33 : decode cX4_tick 33 = .ok (.iload_n 1, 1) := by decide +kernel
theorem dX4_tick_34 : decode cX4_tick 34 = .ok (.if_icmp .ge 33, 3) := by decide +kernel
theorem dX4_tick_37 : decode cX4_tick 37 = .ok (.aload_n 0, 1) := by decide +kernel
theorem dX4_tick_38 : decode cX4_tick 38 = .ok (.aload_n 0, 1) := by decide +kernel
theorem dX4_tick_39 : decode cX4_tick 39 = .ok (.getfield 21, 3) := by decide +kernel
theorem dX4_tick_42 : decode cX4_tick 42 = .ok (.aload_n 0, 1) := by decide +kernel
theorem dX4_tick_43 : decode cX4_tick 43 = .ok (.getfield 39, 3) := by decide +kernel
theorem dX4_tick_46 : decode cX4_tick 46 = .ok (.iload_n 2, 1) := by decide +kernel
theorem dX4_tick_47 : decode cX4_tick 47 = .ok (.invokevirtual 122, 3) := by decide +kernel
theorem dX4_tick_50 : decode cX4_tick 50 = .ok (.putfield 39, 3) := by decide +kernel
theorem dX4_tick_53 : decode cX4_tick 53 = .ok (.aload_n 0, 1) := by decide +kernel
theorem dX4_tick_54 : decode cX4_tick 54 = .ok (.getfield 28, 3) := by decide +kernel
theorem dX4_tick_57 : decode cX4_tick 57 = .ok (.iload_n 2, 1) := by decide +kernel
theorem dX4_tick_58 : decode cX4_tick 58 = .ok (.invokevirtual 126, 3) := by decide +kernel
theorem dX4_tick_61 : decode cX4_tick 61 = .ok (.iinc 3 1, 3) := by decide +kernel
theorem dX4_tick_64 : decode cX4_tick 64 = .ok (.goto (-32), 3) := by decide +kernel
theorem dX4_tick_67 : decode cX4_tick 67 = .ok (.aload_n 0, 1) := by decide +kernel
theorem dX4_tick_68 : decode cX4_tick 68 = .ok (.dup, 1) := by decide +kernel
theorem dX4_tick_69 : decode cX4_tick 69 = .ok (.getfield 43, 3) := by decide +kernel
theorem dX4_tick_72 : decode cX4_tick 72 = .ok (.iload_n 1, 1) := by decide +kernel
theorem dX4_tick_73 : decode cX4_tick 73 = .ok (.iadd, 1) := by decide +kernel
theorem dX4_tick_74 : decode cX4_tick 74 = .ok (.putfield 43, 3) := by decide +kernel
theorem dX4_tick_77 : decode cX4_tick 77 = .ok (.aload_n 0, 1) := by decide +kernel
theorem dX4_tick_78 : decode cX4_tick 78 = .ok (.getfield 39, 3) := by decide +kernel
theorem dX4_tick_81 : decode cX4_tick 81 = .ok (.invokestatic 130, 3) := by decide +kernel
theorem dX4_tick_84 : decode cX4_tick 84 = .ok (.ireturn, 1) := by decide +kernel
set_option maxRecDepth 20000 in
theorem ggX4_fresh_X4_beginAgain : GoodIn wsX4_fresh wsX4_beginAgain := goodIn_r _ [6, 7, 8, 1, 9, 10, 11, 12, 13, 14, 15, 16, 17, 18, 19, 20, 21, 22, 23, 24, 25, 26, 27, 28, 29, 30, 31, 32, 33, 34, 35, 36, 37, 38, 39, 40, 41, 42, 43, 44, 45, 46, 47, 48, 49, 50, 51, 52, 53, 54, 55, 56] (by decide +kernel) (by decide +kernel)
set_option maxRecDepth 20000 in
theorem gX4_fresh_X4_beginAgain : GoodIn wsX4_fresh (wsV RX4 61 RX4 yX4_beginAgain wsX4_beginAgain) := goodIn_app (goodIn_of _ (by decide +kernel)) ggX4_fresh_X4_beginAgain
theorem dX4_fresh_0 : decode cX4_fresh 0 = .ok (.aload_n 0, 1) := by decide +kernel
theorem dX4_fresh_1 : decode cX4_fresh 1 = .ok (.getfield 43, 3) := by decide +kernel
theorem dX4_fresh_4 : decode cX4_fresh 4 = .ok (.istore_n 1, 1) := by decide +kernel
theorem dX4_fresh_5 : decode cX4_fresh 5 = .ok (.aload_n 0, 1) := by decide +kernel
theorem dX4_fresh_6 : decode cX4_fresh 6 = .ok (.invokevirtual 61, 3) := by decide +kernel
theorem dX4_fresh_9 : decode cX4_fresh 9 = .ok (.iload_n 1, 1) := by decide +kernel
theorem dX4_fresh_10 : decode cX4_fresh 10 = .ok (.ireturn, 1) := by decide +kernel
set_option maxRecDepth 20000 in
theorem ggX4_possible_J13_bitCount_95d88 : GoodIn wsX4_possible wsJ13_bitCount_95d88 := goodIn_r _ [5, 6, 7, 8] (by decide +kernel) (by decide +kernel)
set_option maxRecDepth 20000 in
theorem gX4_possible_J13_bitCount_95d88 : GoodIn wsX4_possible (va_wsS RX4 130 yJ13_bitCount_95d88 wsJ13_bitCount_95d88) := goodIn_app (goodIn_of _ (by decide +kernel)) ggX4_possible_J13_bitCount_95d88
theorem dX4_possible_0 : decode cX4_possible 0 = .ok (.aload_n 0, 1) := by decide +kernel
theorem dX4_possible_1 : decode cX4_possible 1 = .ok (.getfield 39, 3) := by decide +kernel
theorem dX4_possible_4 : decode cX4_possible 4 = .ok (.invokestatic 130, 3) := by decide +kernel
theorem dX4_possible_7 : decode cX4_possible 7 = .ok (.ireturn, 1) := by decide +kernel
theorem dX4_row_0 : decode cX4_row 0 = .ok (.iload_n 1, 1) := by decide +kernel
theorem dX4_row_1 : decode cX4_row 1 = .ok (.ifCond .ge 6, 3) := by decide +kernel
theorem dX4_row_4 : decode cX4_row 4 = .ok (.bipush (-9), 2) := by decide +kernel
theorem dX4_row_6 : decode cX4_row 6 = .ok (.ireturn, 1) := by decide +kernel
theorem dX4_row_7 : decode cX4_row 7 = .ok (.iload_n 1, 1) := by decide +kernel
theorem dX4_row_8 : decode cX4_row 8 = .ok (.istore_n 2, 1) := by decide +kernel
theorem dX4_row_9 : decode cX4_row 9 = .ok (.iconst 0, 1) := by decide +kernel
theorem dX4_row_10 : decode cX4_row 10 = .ok (.istore_n 3, 1) := by decide +kernel
theorem dX4_row_11 : decode cX4_row 11 = .ok (.iload_n 3, 1) := by decide +kernel
theorem dX4_row_12 : decode cX4_row 12 = .ok (.bipush 64, 2) := by decide +kernel
theorem dX4_row_14 : decode cX4_row 14 = .ok (.if_icmp .ge 31, 3) := by decide +kernel
theorem dX4_row_17 : decode cX4_row 17 = .ok (.aload_n 0, 1) := by decide +kernel
theorem dX4_row_18 : decode cX4_row 18 = .ok (.getfield 39, 3) := by decide +kernel
theorem dX4_row_21 : decode cX4_row 21 = .ok (.iload_n 3, 1) := by decide +kernel
theorem dX4_row_22 : decode cX4_row 22 = .ok (.lushr, 1) := by decide +kernel
theorem dX4_row_23 : decode cX4_row 23 = .ok (.lconst 1, 1) := by decide +kernel
theorem dX4_row_24 : decode cX4_row 24 = .ok (.land, 1) := by decide +kernel
theorem dX4_row_25 : decode cX4_row 25 = .ok (.lconst 0, 1) := by decide +kernel
theorem dX4_row_26 : decode cX4_row 26 = .ok (.lcmp, 1) := by decide +kernel
theorem dX4_row_27 : decode cX4_row 27 = .ok (.ifCond .eq 12, 3) := by decide +kernel
theorem dX4_row_30 : decode cX4_row 30 = .ok (.iload_n 2, 1) := by decide +kernel
theorem dX4_row_31 : decode cX4_row 31 = .ok (.ifCond .ne 5, 3) := by decide +kernel
theorem dX4_row_34 : decode cX4_row 34 = .ok (.iload_n 3, 1) := by decide +kernel
theorem dX4_row_35 : decode cX4_row 35 = .ok (.ireturn, 1) := by decide +kernel
theorem dX4_row_36 : decode cX4_row 36 = .ok (.iinc 2 (-1), 3) := by decide +kernel
theorem dX4_row_39 : decode cX4_row 39 = .ok (.iinc 3 1, 3) := by decide +kernel
theorem dX4_row_42 : decode cX4_row 42 = .ok (.goto (-31), 3) := by decide +kernel
theorem dX4_row_45 : decode cX4_row 45 = .ok (.bipush (-9), 2) := by decide +kernel
theorem dX4_row_47 : decode cX4_row 47 = .ok (.ireturn, 1) := by decide +kernel
set_option maxRecDepth 20000 in
theorem ggX4_sure_X0_isNode : GoodIn wsX4_sure wsX0_isNode := goodIn_r _ [8, 9, 51, 52, 53, 54, 55, 56, 57, 58, 59, 60, 61, 62, 63, 64, 65] (by decide +kernel) (by decide +kernel)
set_option maxRecDepth 20000 in
theorem gX4_sure_X0_isNode : GoodIn wsX4_sure (wsV RX4 72 RX0 yX0_isNode wsX0_isNode) := goodIn_app (goodIn_of _ (by decide +kernel)) ggX4_sure_X0_isNode
set_option maxRecDepth 20000 in
theorem ggX4_sure_X3_surely : GoodIn wsX4_sure wsX3_surely := goodIn_r _ [14, 15, 16, 17, 18, 19, 20, 7, 21, 9, 22, 23, 24, 25, 26, 13, 27, 28, 29, 30, 31, 32, 33, 34, 35, 36, 37, 38, 39, 40, 41, 42, 43, 66, 67, 68, 51, 52, 53, 54, 55, 56, 57, 58, 59, 60, 61, 62, 63, 64, 65] (by decide +kernel) (by decide +kernel)
set_option maxRecDepth 20000 in
theorem gX4_sure_X3_surely : GoodIn wsX4_sure (wsV RX4 136 RX3 yX3_surely wsX3_surely) := goodIn_app (goodIn_of _ (by decide +kernel)) ggX4_sure_X3_surely
theorem dX4_sure_0 : decode cX4_sure 0 = .ok (.aload_n 0, 1) := by decide +kernel
theorem dX4_sure_1 : decode cX4_sure 1 = .ok (.getfield 10, 3) := by decide +kernel
theorem dX4_sure_4 : decode cX4_sure 4 = .ok (.iload_n 1, 1) := by decide +kernel
theorem dX4_sure_5 : decode cX4_sure 5 = .ok (.invokevirtual 72, 3) := by decide +kernel
theorem dX4_sure_8 : decode cX4_sure 8 = .ok (.ifCond .eq 18, 3) := by decide +kernel
theorem dX4_sure_11 : decode cX4_sure 11 = .ok (.aload_n 0, 1) := by decide +kernel
theorem dX4_sure_12 : decode cX4_sure 12 = .ok (.getfield 21, 3) := by decide +kernel
theorem dX4_sure_15 : decode cX4_sure 15 = .ok (.iload_n 1, 1) := by decide +kernel
theorem dX4_sure_16 : decode cX4_sure 16 = .ok (.aload_n 0, 1) := by decide +kernel
theorem dX4_sure_17 : decode cX4_sure 17 = .ok (.getfield 39, 3) := by decide +kernel
theorem dX4_sure_20 : decode cX4_sure 20 = .ok (.invokevirtual 136, 3) := by decide +kernel
theorem dX4_sure_23 : decode cX4_sure 23 = .ok (.goto 4, 3) := by decide +kernel
theorem dX4_sure_26 : decode cX4_sure 26 = .ok (.iconst (-1), 1) := by decide +kernel
theorem dX4_sure_27 : decode cX4_sure 27 = .ok (.ireturn, 1) := by decide +kernel
set_option maxRecDepth 20000 in
theorem ggX4_told_X0_isNode : GoodIn wsX4_told wsX0_isNode := goodIn_r _ [8, 9, 47, 48, 49, 50, 51, 52, 53, 54, 55, 56, 57, 58, 59, 60, 61] (by decide +kernel) (by decide +kernel)
set_option maxRecDepth 20000 in
theorem gX4_told_X0_isNode : GoodIn wsX4_told (wsV RX4 72 RX0 yX0_isNode wsX0_isNode) := goodIn_app (goodIn_of _ (by decide +kernel)) ggX4_told_X0_isNode
set_option maxRecDepth 20000 in
theorem ggX4_told_X2_tellAll : GoodIn wsX4_told wsX2_tellAll := goodIn_r _ [14, 15, 16, 17, 18, 19, 20, 21, 22, 23, 24, 13, 25, 26, 27, 28, 29, 30, 31, 32, 33, 34, 35, 36, 44, 45, 46, 47, 48, 49, 50, 51, 52, 53, 54, 55, 56, 57, 58, 59, 60, 61] (by decide +kernel) (by decide +kernel)
set_option maxRecDepth 20000 in
theorem gX4_told_X2_tellAll : GoodIn wsX4_told (wsV RX4 140 RX2 yX2_tellAll wsX2_tellAll) := goodIn_app (goodIn_of _ (by decide +kernel)) ggX4_told_X2_tellAll
theorem dX4_told_0 : decode cX4_told 0 = .ok (.aload_n 0, 1) := by decide +kernel
theorem dX4_told_1 : decode cX4_told 1 = .ok (.getfield 10, 3) := by decide +kernel
theorem dX4_told_4 : decode cX4_told 4 = .ok (.iload_n 1, 1) := by decide +kernel
theorem dX4_told_5 : decode cX4_told 5 = .ok (.invokevirtual 72, 3) := by decide +kernel
theorem dX4_told_8 : decode cX4_told 8 = .ok (.ifCond .ne 5, 3) := by decide +kernel
theorem dX4_told_11 : decode cX4_told 11 = .ok (.iconst (-1), 1) := by decide +kernel
theorem dX4_told_12 : decode cX4_told 12 = .ok (.ireturn, 1) := by decide +kernel
theorem dX4_told_13 : decode cX4_told 13 = .ok (.aload_n 0, 1) := by decide +kernel
theorem dX4_told_14 : decode cX4_told 14 = .ok (.getfield 28, 3) := by decide +kernel
theorem dX4_told_17 : decode cX4_told 17 = .ok (.invokevirtual 140, 3) := by decide +kernel
theorem dX4_told_20 : decode cX4_told 20 = .ok (.aload_n 0, 1) := by decide +kernel
theorem dX4_told_21 : decode cX4_told 21 = .ok (.getfield 28, 3) := by decide +kernel
theorem dX4_told_24 : decode cX4_told 24 = .ok (.getfield 143, 3) := by decide +kernel
theorem dX4_told_27 : decode cX4_told 27 = .ok (.iload_n 1, 1) := by decide +kernel
theorem dX4_told_28 : decode cX4_told 28 = .ok (.iaload, 1) := by decide +kernel
theorem dX4_told_29 : decode cX4_told 29 = .ok (.ireturn, 1) := by decide +kernel
set_option maxRecDepth 20000 in
theorem ggX4_known_X2_knownStores : GoodIn wsX4_known wsX2_knownStores := goodIn_r _ [8, 9, 10, 11, 27, 28, 29, 30, 31, 32, 33, 34, 35, 36, 37, 38, 39, 40, 41, 42, 43, 44] (by decide +kernel) (by decide +kernel)
set_option maxRecDepth 20000 in
theorem gX4_known_X2_knownStores : GoodIn wsX4_known (wsV RX4 146 RX2 yX2_knownStores wsX2_knownStores) := goodIn_app (goodIn_of _ (by decide +kernel)) ggX4_known_X2_knownStores
set_option maxRecDepth 20000 in
theorem ggX4_known_X3_sureStores : GoodIn wsX4_known wsX3_sureStores := goodIn_r _ [16, 17, 18, 19, 45, 46, 47, 30, 31, 32, 33, 34, 35, 36, 37, 38, 39, 40, 41, 42, 43, 44] (by decide +kernel) (by decide +kernel)
set_option maxRecDepth 20000 in
theorem gX4_known_X3_sureStores : GoodIn wsX4_known (wsV RX4 149 RX3 yX3_sureStores wsX3_sureStores) := goodIn_app (goodIn_of _ (by decide +kernel)) ggX4_known_X3_sureStores
theorem dX4_known_0 : decode cX4_known 0 = .ok (.iload_n 1, 1) := by decide +kernel
theorem dX4_known_1 : decode cX4_known 1 = .ok (.ifCond .eq 13, 3) := by decide +kernel
theorem dX4_known_4 : decode cX4_known 4 = .ok (.aload_n 0, 1) := by decide +kernel
theorem dX4_known_5 : decode cX4_known 5 = .ok (.getfield 28, 3) := by decide +kernel
theorem dX4_known_8 : decode cX4_known 8 = .ok (.invokevirtual 146, 3) := by decide +kernel
theorem dX4_known_11 : decode cX4_known 11 = .ok (.goto 14, 3) := by decide +kernel
theorem dX4_known_14 : decode cX4_known 14 = .ok (.aload_n 0, 1) := by decide +kernel
theorem dX4_known_15 : decode cX4_known 15 = .ok (.getfield 21, 3) := by decide +kernel
theorem dX4_known_18 : decode cX4_known 18 = .ok (.aload_n 0, 1) := by decide +kernel
theorem dX4_known_19 : decode cX4_known 19 = .ok (.getfield 39, 3) := by decide +kernel
theorem dX4_known_22 : decode cX4_known 22 = .ok (.invokevirtual 149, 3) := by decide +kernel
theorem dX4_known_25 : decode cX4_known 25 = .ok (.ireturn, 1) := by decide +kernel
set_option maxRecDepth 20000 in
theorem ggX4_settles_X3_prepare : GoodIn wsX4_settles wsX3_prepare := goodIn_r _ [9, 10, 11, 12, 13, 14, 15, 16, 17, 18, 19, 20, 21, 22, 23, 24, 25, 26, 27, 8, 28, 29, 30, 31, 32, 33, 34, 35, 36, 37, 38, 39, 40, 41, 42, 43, 44, 45, 46, 47, 48, 49, 50, 51, 52, 85, 86, 87, 88, 89, 90, 91, 92, 93, 94, 95, 96, 97, 98, 99, 100, 101, 102] (by decide +kernel) (by decide +kernel)
set_option maxRecDepth 20000 in
theorem gX4_settles_X3_prepare : GoodIn wsX4_settles (wsV RX4 118 RX3 yX3_prepare wsX3_prepare) := goodIn_app (goodIn_of _ (by decide +kernel)) ggX4_settles_X3_prepare
set_option maxRecDepth 20000 in
theorem ggX4_settles_X0_storesOf : GoodIn wsX4_settles wsX0_storesOf := goodIn_r _ [56, 17, 57, 88, 89, 90, 91, 92, 93, 94, 95, 96, 97, 98, 99, 100, 101, 102] (by decide +kernel) (by decide +kernel)
set_option maxRecDepth 20000 in
theorem gX4_settles_X0_storesOf : GoodIn wsX4_settles (wsV RX4 115 RX0 yX0_storesOf wsX0_storesOf) := goodIn_app (goodIn_of _ (by decide +kernel)) ggX4_settles_X0_storesOf
set_option maxRecDepth 20000 in
theorem ggX4_settles_X3_ticksTillOne : GoodIn wsX4_settles wsX3_ticksTillOne := goodIn_r _ [61, 62, 63, 64, 65, 66, 67, 68, 69, 70, 71, 8, 72, 10, 11, 51, 12, 13, 14, 15, 16, 17, 73, 74, 75, 76, 77, 33, 38, 85, 86, 87, 88, 89, 90, 91, 92, 93, 94, 95, 96, 97, 98, 99, 100, 101, 102] (by decide +kernel) (by decide +kernel)
set_option maxRecDepth 20000 in
theorem gX4_settles_X3_ticksTillOne : GoodIn wsX4_settles (wsV RX4 152 RX3 yX3_ticksTillOne wsX3_ticksTillOne) := goodIn_app (goodIn_of _ (by decide +kernel)) ggX4_settles_X3_ticksTillOne
theorem dX4_settles_0 : decode cX4_settles 0 = .ok (.aload_n 0, 1) := by decide +kernel
theorem dX4_settles_1 : decode cX4_settles 1 = .ok (.getfield 21, 3) := by decide +kernel
theorem dX4_settles_4 : decode cX4_settles 4 = .ok (.iconst 0, 1) := by decide +kernel
theorem dX4_settles_5 : decode cX4_settles 5 = .ok (.invokevirtual 118, 3) := by decide +kernel
theorem dX4_settles_8 : decode cX4_settles 8 = .ok (.aload_n 0, 1) := by decide +kernel
theorem dX4_settles_9 : decode cX4_settles 9 = .ok (.getfield 21, 3) := by decide +kernel
theorem dX4_settles_12 : decode cX4_settles 12 = .ok (.aload_n 0, 1) := by decide +kernel
theorem dX4_settles_13 : decode cX4_settles 13 = .ok (.getfield 39, 3) := by decide +kernel
theorem dX4_settles_16 : decode cX4_settles 16 = .ok (.aload_n 0, 1) := by decide +kernel
theorem dX4_settles_17 : decode cX4_settles 17 = .ok (.getfield 10, 3) := by decide +kernel
theorem dX4_settles_20 : decode cX4_settles 20 = .ok (.aload_n 0, 1) := by decide +kernel
theorem dX4_settles_21 : decode cX4_settles 21 = .ok (.getfield 47, 3) := by decide +kernel
theorem dX4_settles_24 : decode cX4_settles 24 = .ok (.invokevirtual 115, 3) := by decide +kernel
theorem dX4_settles_27 : decode cX4_settles 27 = .ok (.invokevirtual 152, 3) := by decide +kernel
theorem dX4_settles_30 : decode cX4_settles 30 = .ok (.ireturn, 1) := by decide +kernel
set_option maxRecDepth 20000 in
theorem ggX4_next_X0_rowCount : GoodIn wsX4_next wsX0_rowCount := goodIn_r _ [8, 9, 57, 58, 59, 60, 61, 62, 63, 64, 65, 66, 67, 68, 69, 70, 71] (by decide +kernel) (by decide +kernel)
set_option maxRecDepth 20000 in
theorem gX4_next_X0_rowCount : GoodIn wsX4_next (wsV RX4 156 RX0 yX0_rowCount wsX0_rowCount) := goodIn_app (goodIn_of _ (by decide +kernel)) ggX4_next_X0_rowCount
set_option maxRecDepth 20000 in
theorem ggX4_next_X3_evaluate : GoodIn wsX4_next wsX3_evaluate := goodIn_r _ [14, 15, 16, 17, 18, 19, 20, 21, 22, 23, 13, 24, 25, 26, 27, 28, 29, 30, 31, 32, 33, 72, 73, 74, 57, 58, 59, 60, 61, 62, 63, 64, 65, 66, 67, 68, 69, 70, 71] (by decide +kernel) (by decide +kernel)
set_option maxRecDepth 20000 in
theorem gX4_next_X3_evaluate : GoodIn wsX4_next (wsV RX4 159 RX3 yX3_evaluate wsX3_evaluate) := goodIn_app (goodIn_of _ (by decide +kernel)) ggX4_next_X3_evaluate
set_option maxRecDepth 20000 in
theorem ggX4_next_X0_storesOf : GoodIn wsX4_next wsX0_storesOf := goodIn_r _ [37, 9, 38, 57, 58, 59, 60, 61, 62, 63, 64, 65, 66, 67, 68, 69, 70, 71] (by decide +kernel) (by decide +kernel)
set_option maxRecDepth 20000 in
theorem gX4_next_X0_storesOf : GoodIn wsX4_next (wsV RX4 115 RX0 yX0_storesOf wsX0_storesOf) := goodIn_app (goodIn_of _ (by decide +kernel)) ggX4_next_X0_storesOf
set_option maxRecDepth 20000 in
theorem ggX4_next_X3_led : GoodIn wsX4_next wsX3_led := goodIn_r _ [42, 15, 43, 19, 44, 72, 73, 74, 57, 58, 59, 60, 61, 62, 63, 64, 65, 66, 67, 68, 69, 70, 71] (by decide +kernel) (by decide +kernel)
set_option maxRecDepth 20000 in
theorem gX4_next_X3_led : GoodIn wsX4_next (wsV RX4 163 RX3 yX3_led wsX3_led) := goodIn_app (goodIn_of _ (by decide +kernel)) ggX4_next_X3_led
set_option maxRecDepth 20000 in
theorem ggX4_next_X0_beginBits : GoodIn wsX4_next wsX0_beginBits := goodIn_r _ [48, 9, 49, 57, 58, 59, 60, 61, 62, 63, 64, 65, 66, 67, 68, 69, 70, 71] (by decide +kernel) (by decide +kernel)
set_option maxRecDepth 20000 in
theorem gX4_next_X0_beginBits : GoodIn wsX4_next (wsV RX4 166 RX0 yX0_beginBits wsX0_beginBits) := goodIn_app (goodIn_of _ (by decide +kernel)) ggX4_next_X0_beginBits
theorem dX4_next_0 : decode cX4_next 0 = .ok (.iload_n 1, 1) := by decide +kernel
theorem dX4_next_1 : decode cX4_next 1 = .ok (.ifCond .lt 14, 3) := by decide +kernel
theorem dX4_next_4 : decode cX4_next 4 = .ok (.iload_n 1, 1) := by decide +kernel
theorem dX4_next_5 : decode cX4_next 5 = .ok (.aload_n 0, 1) := by decide +kernel
theorem dX4_next_6 : decode cX4_next 6 = .ok (.getfield 10, 3) := by decide +kernel
theorem dX4_next_9 : decode cX4_next 9 = .ok (.invokevirtual 156, 3) := by decide +kernel
theorem dX4_next_12 : decode cX4_next 12 = .ok (.if_icmp .lt 6, 3) := by decide +kernel
theorem dX4_next_15 : decode cX4_next 15 = .ok (.bipush (-2), 2) := by decide +kernel
theorem dX4_next_17 : decode cX4_next 17 = .ok (.ireturn, 1) := by decide +kernel
theorem dX4_next_18 : decode cX4_next 18 = .ok (.aload_n 0, 1) := by decide +kernel
theorem dX4_next_19 : decode cX4_next 19 = .ok (.getfield 21, 3) := by decide +kernel
theorem dX4_next_22 : decode cX4_next 22 = .ok (.iconst 0, 1) := by decide +kernel
theorem dX4_next_23 : decode cX4_next 23 = .ok (.iconst 0, 1) := by decide +kernel
theorem dX4_next_24 : decode cX4_next 24 = .ok (.invokevirtual 159, 3) := by decide +kernel
theorem dX4_next_27 : decode cX4_next 27 = .ok (.aload_n 0, 1) := by decide +kernel
theorem dX4_next_28 : decode cX4_next 28 = .ok (.getfield 10, 3) := by decide +kernel
theorem dX4_next_31 : decode cX4_next 31 = .ok (.aload_n 0, 1) := by decide +kernel
theorem dX4_next_32 : decode cX4_next 32 = .ok (.getfield 47, 3) := by decide +kernel
theorem dX4_next_35 : decode cX4_next 35 = .ok (.invokevirtual 115, 3) := by decide +kernel
theorem dX4_next_38 : decode cX4_next 38 = .ok (.istore_n 2, 1) := by decide +kernel
theorem dX4_next_39 : decode cX4_next 39 = .ok (.aload_n 0, 1) := by decide +kernel
theorem dX4_next_40 : decode cX4_next 40 = .ok (.getfield 21, 3) := by decide +kernel
theorem dX4_next_43 : decode cX4_next 43 = .ok (.iload_n 1, 1) := by decide +kernel
theorem dX4_next_44 : decode cX4_next 44 = .ok (.invokevirtual 163, 3) := by decide +kernel
theorem dX4_next_47 : decode cX4_next 47 = .ok (.iload_n 2, 1) := by decide +kernel
theorem dX4_next_48 : decode cX4_next 48 = .ok (.iconst (-1), 1) := by decide +kernel
theorem dX4_next_49 : decode cX4_next 49 = .ok (.ixor, 1) := by decide +kernel
theorem dX4_next_50 : decode cX4_next 50 = .ok (.iand, 1) := by decide +kernel
theorem dX4_next_51 : decode cX4_next 51 = .ok (.aload_n 0, 1) := by decide +kernel
theorem dX4_next_52 : decode cX4_next 52 = .ok (.getfield 10, 3) := by decide +kernel
theorem dX4_next_55 : decode cX4_next 55 = .ok (.invokevirtual 166, 3) := by decide +kernel
theorem dX4_next_58 : decode cX4_next 58 = .ok (.iload_n 2, 1) := by decide +kernel
theorem dX4_next_59 : decode cX4_next 59 = .ok (.iand, 1) := by decide +kernel
theorem dX4_next_60 : decode cX4_next 60 = .ok (.ior, 1) := by decide +kernel
theorem dX4_next_61 : decode cX4_next 61 = .ok (.ireturn, 1) := by decide +kernel
set_option maxRecDepth 20000 in
theorem ggX4_depends_X0_isNode : GoodIn wsX4_depends wsX0_isNode := goodIn_r _ [7, 8, 36, 37, 38, 39, 40, 41, 42, 43, 44, 45, 46, 47, 48, 49, 50] (by decide +kernel) (by decide +kernel)
set_option maxRecDepth 20000 in
theorem gX4_depends_X0_isNode : GoodIn wsX4_depends (wsV RX4 72 RX0 yX0_isNode wsX0_isNode) := goodIn_app (goodIn_of _ (by decide +kernel)) ggX4_depends_X0_isNode
set_option maxRecDepth 20000 in
theorem ggX4_depends_X0_isSort : GoodIn wsX4_depends wsX0_isSort := goodIn_r _ [12, 13, 14, 4, 5, 6, 7, 8, 36, 37, 38, 39, 40, 41, 42, 43, 44, 45, 46, 47, 48, 49, 50] (by decide +kernel) (by decide +kernel)
set_option maxRecDepth 20000 in
theorem gX4_depends_X0_isSort : GoodIn wsX4_depends (wsV RX4 89 RX0 yX0_isSort wsX0_isSort) := goodIn_app (goodIn_of _ (by decide +kernel)) ggX4_depends_X0_isSort
set_option maxRecDepth 20000 in
theorem ggX4_depends_X0_traceSources : GoodIn wsX4_depends wsX0_traceSources := goodIn_r _ [18, 8, 13, 19, 20, 21, 22, 23, 36, 37, 38, 39, 40, 41, 42, 43, 44, 45, 46, 47, 48, 49, 50] (by decide +kernel) (by decide +kernel)
set_option maxRecDepth 20000 in
theorem gX4_depends_X0_traceSources : GoodIn wsX4_depends (wsV RX4 169 RX0 yX0_traceSources wsX0_traceSources) := goodIn_app (goodIn_of _ (by decide +kernel)) ggX4_depends_X0_traceSources
set_option maxRecDepth 20000 in
theorem ggX4_depends_X0_leans : GoodIn wsX4_depends wsX0_leans := goodIn_r _ [27, 19, 28, 36, 37, 38, 39, 40, 41, 42, 43, 44, 45, 46, 47, 48, 49, 50] (by decide +kernel) (by decide +kernel)
set_option maxRecDepth 20000 in
theorem gX4_depends_X0_leans : GoodIn wsX4_depends (wsV RX4 172 RX0 yX0_leans wsX0_leans) := goodIn_app (goodIn_of _ (by decide +kernel)) ggX4_depends_X0_leans
theorem dX4_depends_0 : decode cX4_depends 0 = .ok (.aload_n 0, 1) := by decide +kernel
theorem dX4_depends_1 : decode cX4_depends 1 = .ok (.getfield 10, 3) := by decide +kernel
theorem dX4_depends_4 : decode cX4_depends 4 = .ok (.iload_n 1, 1) := by decide +kernel
theorem dX4_depends_5 : decode cX4_depends 5 = .ok (.invokevirtual 72, 3) := by decide +kernel
theorem dX4_depends_8 : decode cX4_depends 8 = .ok (.ifCond .eq 14, 3) := by decide +kernel
theorem dX4_depends_11 : decode cX4_depends 11 = .ok (.aload_n 0, 1) := by decide +kernel
theorem dX4_depends_12 : decode cX4_depends 12 = .ok (.getfield 10, 3) := by decide +kernel
theorem dX4_depends_15 : decode cX4_depends 15 = .ok (.iload_n 2, 1) := by decide +kernel
theorem dX4_depends_16 : decode cX4_depends 16 = .ok (.invokevirtual 72, 3) := by decide +kernel
theorem dX4_depends_19 : decode cX4_depends 19 = .ok (.ifCond .ne 5, 3) := by decide +kernel
theorem dX4_depends_22 : decode cX4_depends 22 = .ok (.iconst (-1), 1) := by decide +kernel
theorem dX4_depends_23 : decode cX4_depends 23 = .ok (.ireturn, 1) := by decide +kernel
theorem dX4_depends_24 : decode cX4_depends 24 = .ok (.aload_n 0, 1) := by decide +kernel
theorem dX4_depends_25 : decode cX4_depends 25 = .ok (.getfield 10, 3) := by decide +kernel
theorem dX4_depends_28 : decode cX4_depends 28 = .ok (.iload_n 1, 1) := by decide +kernel
theorem dX4_depends_29 : decode cX4_depends 29 = .ok (.iconst 3, 1) := by decide +kernel
theorem dX4_depends_30 : decode cX4_depends 30 = .ok (.invokevirtual 89, 3) := by decide +kernel
theorem dX4_depends_33 : decode cX4_depends 33 = .ok (.ifCond .eq 15, 3) := by decide +kernel
theorem dX4_depends_36 : decode cX4_depends 36 = .ok (.aload_n 0, 1) := by decide +kernel
theorem dX4_depends_37 : decode cX4_depends 37 = .ok (.getfield 10, 3) := by decide +kernel
theorem dX4_depends_40 : decode cX4_depends 40 = .ok (.iload_n 2, 1) := by decide +kernel
theorem dX4_depends_41 : decode cX4_depends 41 = .ok (.iconst 3, 1) := by decide +kernel
theorem dX4_depends_42 : decode cX4_depends 42 = .ok (.invokevirtual 89, 3) := by decide +kernel
theorem dX4_depends_45 : decode cX4_depends 45 = .ok (.ifCond .ne 6, 3) := by decide +kernel
theorem dX4_depends_48 : decode cX4_depends 48 = .ok (.bipush (-3), 2) := by decide +kernel
theorem dX4_depends_50 : decode cX4_depends 50 = .ok (.ireturn, 1) := by decide +kernel
theorem dX4_depends_51 : decode cX4_depends 51 = .ok (.aload_n 0, 1) := by decide +kernel
theorem dX4_depends_52 : decode cX4_depends 52 = .ok (.getfield 10, 3) := by decide +kernel
theorem dX4_depends_55 : decode cX4_depends 55 = .ok (.invokevirtual 169, 3) := by decide +kernel
theorem dX4_depends_58 : decode cX4_depends 58 = .ok (.aload_n 0, 1) := by decide +kernel
theorem dX4_depends_59 : decode cX4_depends 59 = .ok (.getfield 10, 3) := by decide +kernel
theorem dX4_depends_62 : decode cX4_depends 62 = .ok (.aload_n 0, 1) := by decide +kernel
theorem dX4_depends_63 : decode cX4_depends 63 = .ok (.getfield 10, 3) := by decide +kernel
theorem dX4_depends_66 : decode cX4_depends 66 = .ok (.getfield 93, 3) := by decide +kernel
theorem dX4_depends_69 : decode cX4_depends 69 = .ok (.iload_n 1, 1) := by decide +kernel
theorem dX4_depends_70 : decode cX4_depends 70 = .ok (.iaload, 1) := by decide +kernel
theorem dX4_depends_71 : decode cX4_depends 71 = .ok (.aload_n 0, 1) := by decide +kernel
theorem dX4_depends_72 : decode cX4_depends 72 = .ok (.getfield 10, 3) := by decide +kernel
theorem dX4_depends_75 : decode cX4_depends 75 = .ok (.getfield 93, 3) := by decide +kernel
theorem dX4_depends_78 : decode cX4_depends 78 = .ok (.iload_n 2, 1) := by decide +kernel
theorem dX4_depends_79 : decode cX4_depends 79 = .ok (.iaload, 1) := by decide +kernel
theorem dX4_depends_80 : decode cX4_depends 80 = .ok (.invokevirtual 172, 3) := by decide +kernel
theorem dX4_depends_83 : decode cX4_depends 83 = .ok (.ifCond .eq 7, 3) := by decide +kernel
theorem dX4_depends_86 : decode cX4_depends 86 = .ok (.iconst 1, 1) := by decide +kernel
theorem dX4_depends_87 : decode cX4_depends 87 = .ok (.goto 4, 3) := by decide +kernel
theorem dX4_depends_90 : decode cX4_depends 90 = .ok (.iconst 0, 1) := by decide +kernel
theorem dX4_depends_91 : decode cX4_depends 91 = .ok (.ireturn, 1) := by decide +kernel
set_option maxRecDepth 20000 in
theorem ggX4_crossings_X0_traceSources : GoodIn wsX4_crossings wsX0_traceSources := goodIn_r _ [7, 8, 9, 10, 11, 12, 13, 14, 32, 33, 34, 35, 36, 37, 38, 39, 40, 41, 42, 43, 44, 45, 46] (by decide +kernel) (by decide +kernel)
set_option maxRecDepth 20000 in
theorem gX4_crossings_X0_traceSources : GoodIn wsX4_crossings (wsV RX4 169 RX0 yX0_traceSources wsX0_traceSources) := goodIn_app (goodIn_of _ (by decide +kernel)) ggX4_crossings_X0_traceSources
set_option maxRecDepth 20000 in
theorem ggX4_crossings_X0_crosses : GoodIn wsX4_crossings wsX0_crosses := goodIn_r _ [18, 19, 20, 21, 22, 6, 23, 10, 24, 32, 33, 34, 35, 36, 37, 38, 39, 40, 41, 42, 43, 44, 45, 46] (by decide +kernel) (by decide +kernel)
set_option maxRecDepth 20000 in
theorem gX4_crossings_X0_crosses : GoodIn wsX4_crossings (wsV RX4 175 RX0 yX0_crosses wsX0_crosses) := goodIn_app (goodIn_of _ (by decide +kernel)) ggX4_crossings_X0_crosses
theorem dX4_crossings_0 : decode cX4_crossings 0 = .ok (.aload_n 0, 1) := by decide +kernel
theorem dX4_crossings_1 : decode cX4_crossings 1 = .ok (.getfield 10, 3) := by decide +kernel
theorem dX4_crossings_4 : decode cX4_crossings 4 = .ok (.invokevirtual 169, 3) := by decide +kernel
theorem dX4_crossings_7 : decode cX4_crossings 7 = .ok (.iconst 0, 1) := by decide +kernel
theorem dX4_crossings_8 : decode cX4_crossings 8 = .ok (.istore_n 1, 1) := by decide +kernel
theorem dX4_crossings_9 : decode cX4_crossings 9 = .ok (.iconst 0, 1) := by decide +kernel
theorem dX4_crossings_10 : decode cX4_crossings 10 = .ok (.istore_n 2, 1) := by decide +kernel
theorem dX4_crossings_11 : decode cX4_crossings 11 = .ok (.iload_n 2, 1) := by decide +kernel
theorem dX4_crossings_12 : decode cX4_crossings 12 = .ok (.aload_n 0, 1) := by decide +kernel
theorem dX4_crossings_13 : decode cX4_crossings 13 = .ok (.getfield 10, 3) := by decide +kernel
theorem dX4_crossings_16 : decode cX4_crossings 16 = .ok (.getfield 82, 3) := by decide +kernel
theorem dX4_crossings_19 : decode cX4_crossings 19 = .ok (.if_icmp .ge 43, 3) := by decide +kernel
theorem dX4_crossings_22 : decode cX4_crossings 22 = .ok (.iconst 0, 1) := by decide +kernel
theorem dX4_crossings_23 : decode cX4_crossings 23 = .ok (.istore_n 3, 1) := by decide +kernel
theorem dX4_crossings_24 : decode cX4_crossings 24 = .ok (.iload_n 3, 1) := by decide +kernel
theorem dX4_crossings_25 : decode cX4_crossings 25 = .ok (.aload_n 0, 1) := by decide +kernel
theorem dX4_crossings_26 : decode cX4_crossings 26 = .ok (.getfield 10, 3) := by decide +kernel
theorem dX4_crossings_29 : decode cX4_crossings 29 = .ok (.getfield 82, 3) := by decide +kernel
theorem dX4_crossings_32 : decode cX4_crossings 32 = .ok (.if_icmp .ge 24, 3) := by decide +kernel
theorem dX4_crossings_35 : decode cX4_crossings 35 = .ok (.aload_n 0, 1) := by decide +kernel
theorem dX4_crossings_36 : decode cX4_crossings 36 = .ok (.getfield 10, 3) := by decide +kernel
theorem dX4_crossings_39 : decode cX4_crossings 39 = .ok (.iload_n 2, 1) := by decide +kernel
theorem dX4_crossings_40 : decode cX4_crossings 40 = .ok (.iload_n 3, 1) := by decide +kernel
theorem dX4_crossings_41 : decode cX4_crossings 41 = .ok (.invokevirtual 175, 3) := by decide +kernel
theorem dX4_crossings_44 : decode cX4_crossings 44 = .ok (.ifCond .eq 6, 3) := by decide +kernel
theorem dX4_crossings_47 : decode cX4_crossings 47 = .ok (.iinc 1 1, 3) := by decide +kernel
theorem dX4_crossings_50 : decode cX4_crossings 50 = .ok (.iinc 3 1, 3) := by decide +kernel
theorem dX4_crossings_53 : decode cX4_crossings 53 = .ok (.goto (-29), 3) := by decide +kernel
theorem dX4_crossings_56 : decode cX4_crossings 56 = .ok (.iinc 2 1, 3) := by decide +kernel
theorem dX4_crossings_59 : decode cX4_crossings 59 = .ok (.goto (-48), 3) := by decide +kernel
theorem dX4_crossings_62 : decode cX4_crossings 62 = .ok (.iload_n 1, 1) := by decide +kernel
theorem dX4_crossings_63 : decode cX4_crossings 63 = .ok (.ireturn, 1) := by decide +kernel
set_option maxRecDepth 20000 in
theorem ggX4_crossing_X0_traceSources : GoodIn wsX4_crossing wsX0_traceSources := goodIn_r _ [8, 9, 10, 11, 12, 13, 14, 15, 33, 34, 35, 36, 37, 38, 39, 40, 41, 42, 43, 44, 45, 46, 47] (by decide +kernel) (by decide +kernel)
set_option maxRecDepth 20000 in
theorem gX4_crossing_X0_traceSources : GoodIn wsX4_crossing (wsV RX4 169 RX0 yX0_traceSources wsX0_traceSources) := goodIn_app (goodIn_of _ (by decide +kernel)) ggX4_crossing_X0_traceSources
set_option maxRecDepth 20000 in
theorem ggX4_crossing_X0_crosses : GoodIn wsX4_crossing wsX0_crosses := goodIn_r _ [19, 20, 21, 22, 23, 7, 24, 11, 25, 33, 34, 35, 36, 37, 38, 39, 40, 41, 42, 43, 44, 45, 46, 47] (by decide +kernel) (by decide +kernel)
set_option maxRecDepth 20000 in
theorem gX4_crossing_X0_crosses : GoodIn wsX4_crossing (wsV RX4 175 RX0 yX0_crosses wsX0_crosses) := goodIn_app (goodIn_of _ (by decide +kernel)) ggX4_crossing_X0_crosses
theorem dX4_crossing_0 : decode cX4_crossing 0 = .ok (.iload_n 1, 1) := by decide +kernel
theorem dX4_crossing_1 : decode cX4_crossing 1 = .ok (.ifCond .ge 6, 3) := by decide +kernel
theorem dX4_crossing_4 : decode cX4_crossing 4 = .ok (.bipush (-9), 2) := by decide +kernel
theorem dX4_crossing_6 : decode cX4_crossing 6 = .ok (.ireturn, 1) := by decide +kernel
theorem dX4_crossing_7 : decode cX4_crossing 7 = .ok (.aload_n 0, 1) := by decide +kernel
theorem dX4_crossing_8 : decode cX4_crossing 8 = .ok (.getfield 10, 3) := by decide +kernel
theorem dX4_crossing_11 : decode cX4_crossing 11 = .ok (.invokevirtual 169, 3) := by decide +kernel
theorem dX4_crossing_14 : decode cX4_crossing 14 = .ok (.iload_n 1, 1) := by decide +kernel
theorem dX4_crossing_15 : decode cX4_crossing 15 = .ok (.istore_n 2, 1) := by decide +kernel
theorem dX4_crossing_16 : decode cX4_crossing 16 = .ok (.iconst 0, 1) := by decide +kernel
theorem dX4_crossing_17 : decode cX4_crossing 17 = .ok (.istore_n 3, 1) := by decide +kernel
theorem dX4_crossing_18 : decode cX4_crossing 18 = .ok (.iload_n 3, 1) := by decide +kernel
theorem dX4_crossing_19 : decode cX4_crossing 19 = .ok (.aload_n 0, 1) := by decide +kernel
theorem dX4_crossing_20 : decode cX4_crossing 20 = .ok (.getfield 10, 3) := by decide +kernel
theorem dX4_crossing_23 : decode cX4_crossing 23 = .ok (.getfield 82, 3) := by decide +kernel
theorem dX4_crossing_26 : decode cX4_crossing 26 = .ok (.if_icmp .ge 74, 3) := by decide +kernel
theorem dX4_crossing_29 : decode cX4_crossing 29 = .ok (.iconst 0, 1) := by decide +kernel
theorem dX4_crossing_30 : decode cX4_crossing 30 = .ok (.istore 4, 2) := by decide +kernel
theorem dX4_crossing_32 : decode cX4_crossing 32 = .ok (.iload 4, 2) := by decide +kernel
theorem dX4_crossing_34 : decode cX4_crossing 34 = .ok (.aload_n 0, 1) := by decide +kernel
theorem dX4_crossing_35 : decode cX4_crossing 35 = .ok (.getfield 10, 3) := by decide +kernel
theorem dX4_crossing_38 : decode cX4_crossing 38 = .ok (.getfield 82, 3) := by decide +kernel
theorem dX4_crossing_41 : decode cX4_crossing 41 = .ok (.if_icmp .ge 53, 3) := by decide +kernel
theorem dX4_crossing_44 : decode cX4_crossing 44 = .ok (.aload_n 0, 1) := by decide +kernel
theorem dX4_crossing_45 : decode cX4_crossing 45 = .ok (.getfield 10, 3) := by decide +kernel
theorem dX4_crossing_48 : decode cX4_crossing 48 = .ok (.iload_n 3, 1) := by decide +kernel
theorem dX4_crossing_49 : decode cX4_crossing 49 = .ok (.iload 4, 2) := by decide +kernel
theorem dX4_crossing_51 : decode cX4_crossing 51 = .ok (.invokevirtual 175, 3) := by decide +kernel
theorem dX4_crossing_54 : decode cX4_crossing 54 = .ok (.ifCond .eq 34, 3) := by decide +kernel
theorem dX4_crossing_57 : decode cX4_crossing 57 = .ok (.iload_n 2, 1) := by decide +kernel
theorem dX4_crossing_58 : decode cX4_crossing 58 = .ok (.ifCond .ne 27, 3) := by decide +kernel
theorem dX4_crossing_61 : decode cX4_crossing 61 = .ok (.bipush 100, 2) := by decide +kernel
theorem dX4_crossing_63 : decode cX4_crossing 63 = .ok (.aload_n 0, 1) := by decide +kernel
theorem dX4_crossing_64 : decode cX4_crossing 64 = .ok (.getfield 10, 3) := by decide +kernel
theorem dX4_crossing_67 : decode cX4_crossing 67 = .ok (.getfield 178, 3) := by decide +kernel
theorem dX4_crossing_70 : decode cX4_crossing 70 = .ok (.iload_n 3, 1) := by decide +kernel
theorem dX4_crossing_71 : decode cX4_crossing 71 = .ok (.iaload, 1) := by decide +kernel
theorem dX4_crossing_72 : decode cX4_crossing 72 = .ok (.imul, 1) := by decide +kernel
theorem dX4_crossing_73 : decode cX4_crossing 73 = .ok (.aload_n 0, 1) := by decide +kernel
theorem dX4_crossing_74 : decode cX4_crossing 74 = .ok (.getfield 10, 3) := by decide +kernel
theorem dX4_crossing_77 : decode cX4_crossing 77 = .ok (.getfield 178, 3) := by decide +kernel
theorem dX4_crossing_80 : decode cX4_crossing 80 = .ok (.iload 4, 2) := by decide +kernel
theorem dX4_crossing_82 : decode cX4_crossing 82 = .ok (.iaload, 1) := by decide +kernel
theorem dX4_crossing_83 : decode cX4_crossing 83 = .ok (.iadd, 1) := by decide +kernel
theorem dX4_crossing_84 : decode cX4_crossing 84 = .ok (.ireturn, 1) := by decide +kernel
theorem dX4_crossing_85 : decode cX4_crossing 85 = .ok (.iinc 2 (-1), 3) := by decide +kernel
theorem dX4_crossing_88 : decode cX4_crossing 88 = .ok (.iinc 4 1, 3) := by decide +kernel
theorem dX4_crossing_91 : decode cX4_crossing 91 = .ok (.goto (-59), 3) := by decide +kernel
theorem dX4_crossing_94 : decode cX4_crossing 94 = .ok (.iinc 3 1, 3) := by decide +kernel
theorem dX4_crossing_97 : decode cX4_crossing 97 = .ok (.goto (-79), 3) := by decide +kernel
theorem dX4_crossing_100 : decode cX4_crossing 100 = .ok (.bipush (-9), 2) := by decide +kernel
theorem dX4_crossing_102 : decode cX4_crossing 102 = .ok (.ireturn, 1) := by decide +kernel
set_option maxRecDepth 20000 in
theorem ggX4_alone_X4_isLine : GoodIn wsX4_alone wsX4_isLine := goodIn_r _ [6] (by decide +kernel) (by decide +kernel)
set_option maxRecDepth 20000 in
theorem gX4_alone_X4_isLine : GoodIn wsX4_alone (va_wsS RX4 79 yX4_isLine wsX4_isLine) := goodIn_app (goodIn_of _ (by decide +kernel)) ggX4_alone_X4_isLine
set_option maxRecDepth 20000 in
theorem ggX4_alone_X3_prepare : GoodIn wsX4_alone wsX3_prepare := goodIn_r _ [11, 12, 13, 14, 15, 16, 17, 18, 19, 20, 21, 22, 23, 24, 25, 26, 27, 28, 29, 10, 30, 31, 32, 33, 34, 35, 36, 37, 38, 39, 40, 41, 42, 43, 44, 45, 46, 47, 48, 49, 50, 51, 52, 53, 54, 91, 92, 93, 94, 95, 96, 97, 98, 99, 100, 101, 102, 103, 104, 105, 106, 107, 108] (by decide +kernel) (by decide +kernel)
set_option maxRecDepth 20000 in
theorem gX4_alone_X3_prepare : GoodIn wsX4_alone (wsV RX4 118 RX3 yX3_prepare wsX3_prepare) := goodIn_app (goodIn_of _ (by decide +kernel)) ggX4_alone_X3_prepare
set_option maxRecDepth 20000 in
theorem ggX4_alone_X3_allRows : GoodIn wsX4_alone wsX3_allRows := goodIn_r _ [58, 12, 40, 14, 15, 16, 17, 18, 19, 91, 92, 93, 94, 95, 96, 97, 98, 99, 100, 101, 102, 103, 104, 105, 106, 107, 108] (by decide +kernel) (by decide +kernel)
set_option maxRecDepth 20000 in
theorem gX4_alone_X3_allRows : GoodIn wsX4_alone (wsV RX4 181 RX3 yX3_allRows wsX3_allRows) := goodIn_app (goodIn_of _ (by decide +kernel)) ggX4_alone_X3_allRows
set_option maxRecDepth 20000 in
theorem ggX4_alone_X0_storesOf : GoodIn wsX4_alone wsX0_storesOf := goodIn_r _ [62, 19, 63, 94, 95, 96, 97, 98, 99, 100, 101, 102, 103, 104, 105, 106, 107, 108] (by decide +kernel) (by decide +kernel)
set_option maxRecDepth 20000 in
theorem gX4_alone_X0_storesOf : GoodIn wsX4_alone (wsV RX4 115 RX0 yX0_storesOf wsX0_storesOf) := goodIn_app (goodIn_of _ (by decide +kernel)) ggX4_alone_X0_storesOf
set_option maxRecDepth 20000 in
theorem ggX4_alone_X3_ticksTillOne : GoodIn wsX4_alone wsX3_ticksTillOne := goodIn_r _ [67, 68, 69, 70, 71, 72, 73, 74, 75, 76, 77, 10, 78, 12, 13, 53, 14, 15, 16, 17, 18, 19, 79, 80, 81, 82, 83, 35, 40, 91, 92, 93, 94, 95, 96, 97, 98, 99, 100, 101, 102, 103, 104, 105, 106, 107, 108] (by decide +kernel) (by decide +kernel)
set_option maxRecDepth 20000 in
theorem gX4_alone_X3_ticksTillOne : GoodIn wsX4_alone (wsV RX4 152 RX3 yX3_ticksTillOne wsX3_ticksTillOne) := goodIn_app (goodIn_of _ (by decide +kernel)) ggX4_alone_X3_ticksTillOne
theorem dX4_alone_0 : decode cX4_alone 0 = .ok (.iload_n 1, 1) := by decide +kernel
theorem dX4_alone_1 : decode cX4_alone 1 = .ok (.invokestatic 79, 3) := by decide +kernel
theorem dX4_alone_4 : decode cX4_alone 4 = .ok (.ifCond .ne 5, 3) := by decide +kernel
theorem dX4_alone_7 : decode cX4_alone 7 = .ok (.iconst (-1), 1) := by decide +kernel
theorem dX4_alone_8 : decode cX4_alone 8 = .ok (.ireturn, 1) := by decide +kernel
theorem dX4_alone_9 : decode cX4_alone 9 = .ok (.aload_n 0, 1) := by decide +kernel
theorem dX4_alone_10 : decode cX4_alone 10 = .ok (.getfield 21, 3) := by decide +kernel
theorem dX4_alone_13 : decode cX4_alone 13 = .ok (.iconst 1, 1) := by decide +kernel
theorem dX4_alone_14 : decode cX4_alone 14 = .ok (.invokevirtual 118, 3) := by decide +kernel
theorem dX4_alone_17 : decode cX4_alone 17 = .ok (.aload_n 0, 1) := by decide +kernel
theorem dX4_alone_18 : decode cX4_alone 18 = .ok (.getfield 21, 3) := by decide +kernel
theorem dX4_alone_21 : decode cX4_alone 21 = .ok (.aload_n 0, 1) := by decide +kernel
theorem dX4_alone_22 : decode cX4_alone 22 = .ok (.getfield 21, 3) := by decide +kernel
theorem dX4_alone_25 : decode cX4_alone 25 = .ok (.invokevirtual 181, 3) := by decide +kernel
theorem dX4_alone_28 : decode cX4_alone 28 = .ok (.aload_n 0, 1) := by decide +kernel
theorem dX4_alone_29 : decode cX4_alone 29 = .ok (.getfield 10, 3) := by decide +kernel
theorem dX4_alone_32 : decode cX4_alone 32 = .ok (.iconst 1, 1) := by decide +kernel
theorem dX4_alone_33 : decode cX4_alone 33 = .ok (.iload_n 1, 1) := by decide +kernel
theorem dX4_alone_34 : decode cX4_alone 34 = .ok (.ishl, 1) := by decide +kernel
theorem dX4_alone_35 : decode cX4_alone 35 = .ok (.invokevirtual 115, 3) := by decide +kernel
theorem dX4_alone_38 : decode cX4_alone 38 = .ok (.invokevirtual 152, 3) := by decide +kernel
theorem dX4_alone_41 : decode cX4_alone 41 = .ok (.ireturn, 1) := by decide +kernel
set_option maxRecDepth 20000 in
theorem ggX4_mend_X4_isTickCount : GoodIn wsX4_mend wsX4_isTickCount := goodIn_r _ [7] (by decide +kernel) (by decide +kernel)
set_option maxRecDepth 20000 in
theorem gX4_mend_X4_isTickCount : GoodIn wsX4_mend (va_wsS RX4 112 yX4_isTickCount wsX4_isTickCount) := goodIn_app (goodIn_of _ (by decide +kernel)) ggX4_mend_X4_isTickCount
set_option maxRecDepth 20000 in
theorem ggX4_mend_X3_prepare : GoodIn wsX4_mend wsX3_prepare := goodIn_r _ [12, 13, 14, 15, 16, 17, 18, 19, 20, 21, 22, 23, 24, 25, 26, 27, 28, 29, 30, 11, 31, 32, 33, 34, 35, 36, 37, 38, 39, 40, 41, 42, 43, 44, 45, 46, 47, 48, 49, 50, 51, 52, 53, 54, 55, 115, 116, 117, 100, 101, 102, 103, 104, 105, 106, 107, 108, 109, 110, 111, 112, 113, 114] (by decide +kernel) (by decide +kernel)
set_option maxRecDepth 20000 in
theorem gX4_mend_X3_prepare : GoodIn wsX4_mend (wsV RX4 118 RX3 yX3_prepare wsX3_prepare) := goodIn_app (goodIn_of _ (by decide +kernel)) ggX4_mend_X3_prepare
set_option maxRecDepth 20000 in
theorem ggX4_mend_X0_storesOf : GoodIn wsX4_mend wsX0_storesOf := goodIn_r _ [59, 20, 60, 100, 101, 102, 103, 104, 105, 106, 107, 108, 109, 110, 111, 112, 113, 114] (by decide +kernel) (by decide +kernel)
set_option maxRecDepth 20000 in
theorem gX4_mend_X0_storesOf : GoodIn wsX4_mend (wsV RX4 115 RX0 yX0_storesOf wsX0_storesOf) := goodIn_app (goodIn_of _ (by decide +kernel)) ggX4_mend_X0_storesOf
set_option maxRecDepth 20000 in
theorem ggX4_mend_X0_rowCount : GoodIn wsX4_mend wsX0_rowCount := goodIn_r _ [19, 20, 100, 101, 102, 103, 104, 105, 106, 107, 108, 109, 110, 111, 112, 113, 114] (by decide +kernel) (by decide +kernel)
set_option maxRecDepth 20000 in
theorem gX4_mend_X0_rowCount : GoodIn wsX4_mend (wsV RX4 156 RX0 yX0_rowCount wsX0_rowCount) := goodIn_app (goodIn_of _ (by decide +kernel)) ggX4_mend_X0_rowCount
set_option maxRecDepth 20000 in
theorem ggX4_mend_J6_bitCount_0f7a4 : GoodIn wsX4_mend wsJ6_bitCount_0f7a4 := goodIn_r _ [65, 66, 67, 68] (by decide +kernel) (by decide +kernel)
set_option maxRecDepth 20000 in
theorem gX4_mend_J6_bitCount_0f7a4 : GoodIn wsX4_mend (va_wsS RX4 185 yJ6_bitCount_0f7a4 wsJ6_bitCount_0f7a4) := goodIn_app (goodIn_of _ (by decide +kernel)) ggX4_mend_J6_bitCount_0f7a4
set_option maxRecDepth 20000 in
theorem ggX4_mend_X3_leavesOne : GoodIn wsX4_mend wsX3_leavesOne := goodIn_r _ [72, 73, 74, 75, 11, 76, 13, 41, 15, 16, 17, 18, 19, 20, 77, 78, 79, 80, 14, 54, 81, 82, 83, 84, 85, 36, 86, 87, 88, 89, 90, 91, 92, 115, 116, 117, 100, 101, 102, 103, 104, 105, 106, 107, 108, 109, 110, 111, 112, 113, 114] (by decide +kernel) (by decide +kernel)
set_option maxRecDepth 20000 in
theorem gX4_mend_X3_leavesOne : GoodIn wsX4_mend (wsV RX4 189 RX3 yX3_leavesOne wsX3_leavesOne) := goodIn_app (goodIn_of _ (by decide +kernel)) ggX4_mend_X3_leavesOne
theorem dX4_mend_0 : decode cX4_mend 0 = .ok (.iload_n 1, 1) := by decide +kernel
theorem dX4_mend_1 : decode cX4_mend 1 = .ok (.invokestatic 112, 3) := by decide +kernel
theorem dX4_mend_4 : decode cX4_mend 4 = .ok (.ifCond .ne 6, 3) := by decide +kernel
theorem dX4_mend_7 : decode cX4_mend 7 = .ok (.bipush (-2), 2) := by decide +kernel
theorem dX4_mend_9 : decode cX4_mend 9 = .ok (.ireturn, 1) := by decide +kernel
theorem dX4_mend_10 : decode cX4_mend 10 = .ok (.aload_n 0, 1) := by decide +kernel
theorem dX4_mend_11 : decode cX4_mend 11 = .ok (.getfield 21, 3) := by decide +kernel
theorem dX4_mend_14 : decode cX4_mend 14 = .ok (.iconst 0, 1) := by decide +kernel
theorem dX4_mend_15 : decode cX4_mend 15 = .ok (.invokevirtual 118, 3) := by decide +kernel
theorem dX4_mend_18 : decode cX4_mend 18 = .ok (.aload_n 0, 1) := by decide +kernel
theorem dX4_mend_19 : decode cX4_mend 19 = .ok (.getfield 10, 3) := by decide +kernel
theorem dX4_mend_22 : decode cX4_mend 22 = .ok (.bipush 15, 2) := by decide +kernel
theorem dX4_mend_24 : decode cX4_mend 24 = .ok (.invokevirtual 115, 3) := by decide +kernel
theorem dX4_mend_27 : decode cX4_mend 27 = .ok (.istore_n 2, 1) := by decide +kernel
theorem dX4_mend_28 : decode cX4_mend 28 = .ok (.iconst 0, 1) := by decide +kernel
theorem dX4_mend_29 : decode cX4_mend 29 = .ok (.istore_n 3, 1) := by decide +kernel
theorem dX4_mend_30 : decode cX4_mend 30 = .ok (.iload_n 3, 1) := by decide +kernel
theorem dX4_mend_31 : decode cX4_mend 31 = .ok (.aload_n 0, 1) := by decide +kernel
theorem dX4_mend_32 : decode cX4_mend 32 = .ok (.getfield 10, 3) := by decide +kernel
theorem dX4_mend_35 : decode cX4_mend 35 = .ok (.getfield 82, 3) := by decide +kernel
theorem dX4_mend_38 : decode cX4_mend 38 = .ok (.if_icmp .gt 64, 3) := by decide +kernel
theorem dX4_mend_41 : decode cX4_mend 41 = .ok (.iconst 0, 1) := by decide +kernel
theorem dX4_mend_42 : decode cX4_mend 42 = .ok (.istore 4, 2) := by decide +kernel
theorem dX4_mend_44 : decode cX4_mend 44 = .ok (.iload 4, 2) := by decide +kernel
theorem dX4_mend_46 : decode cX4_mend 46 = .ok (.aload_n 0, 1) := by decide +kernel
theorem dX4_mend_47 : decode cX4_mend 47 = .ok (.getfield 10, 3) := by decide +kernel
theorem dX4_mend_50 : decode cX4_mend 50 = .ok (.invokevirtual 156, 3) := by decide +kernel
theorem dX4_mend_53 : decode cX4_mend 53 = .ok (.if_icmp .ge 43, 3) := by decide +kernel
theorem dX4_mend_56 : decode cX4_mend 56 = .ok (.iload 4, 2) := by decide +kernel
theorem dX4_mend_58 : decode cX4_mend 58 = .ok (.iload_n 2, 1) := by decide +kernel
theorem dX4_mend_59 : decode cX4_mend 59 = .ok (.iand, 1) := by decide +kernel
theorem dX4_mend_60 : decode cX4_mend 60 = .ok (.ifCond .ne 30, 3) := by decide +kernel
theorem dX4_mend_63 : decode cX4_mend 63 = .ok (.iload 4, 2) := by decide +kernel
theorem dX4_mend_65 : decode cX4_mend 65 = .ok (.invokestatic 185, 3) := by decide +kernel
theorem dX4_mend_68 : decode cX4_mend 68 = .ok (.iload_n 3, 1) := by decide +kernel
theorem dX4_mend_69 : decode cX4_mend 69 = .ok (.if_icmp .ne 21, 3) := by decide +kernel
theorem dX4_mend_72 : decode cX4_mend 72 = .ok (.aload_n 0, 1) := by decide +kernel
theorem dX4_mend_73 : decode cX4_mend 73 = .ok (.getfield 21, 3) := by decide +kernel
theorem dX4_mend_76 : decode cX4_mend 76 = .ok (.iload_n 1, 1) := by decide +kernel
theorem dX4_mend_77 : decode cX4_mend 77 = .ok (.iload_n 2, 1) := by decide +kernel
theorem dX4_mend_78 : decode cX4_mend 78 = .ok (.iload 4, 2) := by decide +kernel
theorem dX4_mend_80 : decode cX4_mend 80 = .ok (.ior, 1) := by decide +kernel
theorem dX4_mend_81 : decode cX4_mend 81 = .ok (.invokevirtual 189, 3) := by decide +kernel
theorem dX4_mend_84 : decode cX4_mend 84 = .ok (.ifCond .eq 6, 3) := by decide +kernel
theorem dX4_mend_87 : decode cX4_mend 87 = .ok (.iload 4, 2) := by decide +kernel
theorem dX4_mend_89 : decode cX4_mend 89 = .ok (.ireturn, 1) := by decide +kernel
theorem dX4_mend_90 : decode cX4_mend 90 = .ok (.iinc 4 1, 3) := by decide +kernel
theorem dX4_mend_93 : decode cX4_mend 93 = .ok (.goto (-49), 3) := by decide +kernel
theorem dX4_mend_96 : decode cX4_mend 96 = .ok (.iinc 3 1, 3) := by decide +kernel
theorem dX4_mend_99 : decode cX4_mend 99 = .ok (.goto (-69), 3) := by decide +kernel
theorem dX4_mend_102 : decode cX4_mend 102 = .ok (.bipush (-9), 2) := by decide +kernel
theorem dX4_mend_104 : decode cX4_mend 104 = .ok (.ireturn, 1) := by decide +kernel
set_option maxRecDepth 20000 in
theorem ggX4_need_X4_isLine : GoodIn wsX4_need wsX4_isLine := goodIn_r _ [5] (by decide +kernel) (by decide +kernel)
set_option maxRecDepth 20000 in
theorem gX4_need_X4_isLine : GoodIn wsX4_need (va_wsS RX4 79 yX4_isLine wsX4_isLine) := goodIn_app (goodIn_of _ (by decide +kernel)) ggX4_need_X4_isLine
set_option maxRecDepth 20000 in
theorem ggX4_need_X1_change : GoodIn wsX4_need wsX1_change := goodIn_r _ [10, 11, 19, 20] (by decide +kernel) (by decide +kernel)
set_option maxRecDepth 20000 in
theorem gX4_need_X1_change : GoodIn wsX4_need (wsV RX4 192 RX1 yX1_change wsX1_change) := goodIn_app (goodIn_of _ (by decide +kernel)) ggX4_need_X1_change
theorem dX4_need_0 : decode cX4_need 0 = .ok (.iload_n 1, 1) := by decide +kernel
theorem dX4_need_1 : decode cX4_need 1 = .ok (.invokestatic 79, 3) := by decide +kernel
theorem dX4_need_4 : decode cX4_need 4 = .ok (.ifCond .eq 10, 3) := by decide +kernel
theorem dX4_need_7 : decode cX4_need 7 = .ok (.iload_n 2, 1) := by decide +kernel
theorem dX4_need_8 : decode cX4_need 8 = .ok (.invokestatic 79, 3) := by decide +kernel
theorem dX4_need_11 : decode cX4_need 11 = .ok (.ifCond .ne 5, 3) := by decide +kernel
theorem dX4_need_14 : decode cX4_need 14 = .ok (.iconst (-1), 1) := by decide +kernel
theorem dX4_need_15 : decode cX4_need 15 = .ok (.ireturn, 1) := by decide +kernel
theorem dX4_need_16 : decode cX4_need 16 = .ok (.iload_n 3, 1) := by decide +kernel
theorem dX4_need_17 : decode cX4_need 17 = .ok (.bipush (-9), 2) := by decide +kernel
theorem dX4_need_19 : decode cX4_need 19 = .ok (.if_icmp .eq 16, 3) := by decide +kernel
theorem dX4_need_22 : decode cX4_need 22 = .ok (.iload_n 3, 1) := by decide +kernel
theorem dX4_need_23 : decode cX4_need 23 = .ok (.ifCond .lt 9, 3) := by decide +kernel
theorem dX4_need_26 : decode cX4_need 26 = .ok (.iload_n 3, 1) := by decide +kernel
theorem dX4_need_27 : decode cX4_need 27 = .ok (.bipush 20, 2) := by decide +kernel
theorem dX4_need_29 : decode cX4_need 29 = .ok (.if_icmp .le 6, 3) := by decide +kernel
theorem dX4_need_32 : decode cX4_need 32 = .ok (.bipush (-2), 2) := by decide +kernel
theorem dX4_need_34 : decode cX4_need 34 = .ok (.ireturn, 1) := by decide +kernel
theorem dX4_need_35 : decode cX4_need 35 = .ok (.aload_n 0, 1) := by decide +kernel
theorem dX4_need_36 : decode cX4_need 36 = .ok (.getfield 35, 3) := by decide +kernel
theorem dX4_need_39 : decode cX4_need 39 = .ok (.iload_n 1, 1) := by decide +kernel
theorem dX4_need_40 : decode cX4_need 40 = .ok (.iload_n 2, 1) := by decide +kernel
theorem dX4_need_41 : decode cX4_need 41 = .ok (.iload_n 3, 1) := by decide +kernel
theorem dX4_need_42 : decode cX4_need 42 = .ok (.invokevirtual 192, 3) := by decide +kernel
theorem dX4_need_45 : decode cX4_need 45 = .ok (.ireturn, 1) := by decide +kernel
set_option maxRecDepth 20000 in
theorem ggX4_go_X4_isLine : GoodIn wsX4_go wsX4_isLine := goodIn_r _ [6] (by decide +kernel) (by decide +kernel)
set_option maxRecDepth 20000 in
theorem gX4_go_X4_isLine : GoodIn wsX4_go (va_wsS RX4 79 yX4_isLine wsX4_isLine) := goodIn_app (goodIn_of _ (by decide +kernel)) ggX4_go_X4_isLine
set_option maxRecDepth 20000 in
theorem ggX4_go_X1_reckon : GoodIn wsX4_go wsX1_reckon := goodIn_r _ [11, 12, 13, 14, 15, 10, 16, 17, 25, 26] (by decide +kernel) (by decide +kernel)
set_option maxRecDepth 20000 in
theorem gX4_go_X1_reckon : GoodIn wsX4_go (wsV RX4 196 RX1 yX1_reckon wsX1_reckon) := goodIn_app (goodIn_of _ (by decide +kernel)) ggX4_go_X1_reckon
theorem dX4_go_0 : decode cX4_go 0 = .ok (.iload_n 1, 1) := by decide +kernel
theorem dX4_go_1 : decode cX4_go 1 = .ok (.invokestatic 79, 3) := by decide +kernel
theorem dX4_go_4 : decode cX4_go 4 = .ok (.ifCond .ne 5, 3) := by decide +kernel
theorem dX4_go_7 : decode cX4_go 7 = .ok (.iconst (-1), 1) := by decide +kernel
theorem dX4_go_8 : decode cX4_go 8 = .ok (.ireturn, 1) := by decide +kernel
theorem dX4_go_9 : decode cX4_go 9 = .ok (.aload_n 0, 1) := by decide +kernel
theorem dX4_go_10 : decode cX4_go 10 = .ok (.getfield 35, 3) := by decide +kernel
theorem dX4_go_13 : decode cX4_go 13 = .ok (.invokevirtual 196, 3) := by decide +kernel
theorem dX4_go_16 : decode cX4_go 16 = .ok (.aload_n 0, 1) := by decide +kernel
theorem dX4_go_17 : decode cX4_go 17 = .ok (.getfield 35, 3) := by decide +kernel
theorem dX4_go_20 : decode cX4_go 20 = .ok (.getfield 199, 3) := by decide +kernel
theorem dX4_go_23 : decode cX4_go 23 = .ok (.iload_n 1, 1) := by decide +kernel
theorem dX4_go_24 : decode cX4_go 24 = .ok (.iaload, 1) := by decide +kernel
theorem dX4_go_25 : decode cX4_go 25 = .ok (.ireturn, 1) := by decide +kernel
set_option maxRecDepth 20000 in
theorem ggX4_gone_X1_reckon : GoodIn wsX4_gone wsX1_reckon := goodIn_r _ [7, 8, 9, 10, 11, 6, 12, 13, 21, 22] (by decide +kernel) (by decide +kernel)
set_option maxRecDepth 20000 in
theorem gX4_gone_X1_reckon : GoodIn wsX4_gone (wsV RX4 196 RX1 yX1_reckon wsX1_reckon) := goodIn_app (goodIn_of _ (by decide +kernel)) ggX4_gone_X1_reckon
theorem dX4_gone_0 : decode cX4_gone 0 = .ok (.iload_n 1, 1) := by decide +kernel
theorem dX4_gone_1 : decode cX4_gone 1 = .ok (.ifCond .ge 6, 3) := by decide +kernel
theorem dX4_gone_4 : decode cX4_gone 4 = .ok (.bipush (-2), 2) := by decide +kernel
theorem dX4_gone_6 : decode cX4_gone 6 = .ok (.ireturn, 1) := by decide +kernel
theorem dX4_gone_7 : decode cX4_gone 7 = .ok (.aload_n 0, 1) := by decide +kernel
theorem dX4_gone_8 : decode cX4_gone 8 = .ok (.getfield 35, 3) := by decide +kernel
theorem dX4_gone_11 : decode cX4_gone 11 = .ok (.invokevirtual 196, 3) := by decide +kernel
theorem dX4_gone_14 : decode cX4_gone 14 = .ok (.iconst 0, 1) := by decide +kernel
theorem dX4_gone_15 : decode cX4_gone 15 = .ok (.istore_n 2, 1) := by decide +kernel
theorem dX4_gone_16 : decode cX4_gone 16 = .ok (.iconst 0, 1) := by decide +kernel
theorem dX4_gone_17 : decode cX4_gone 17 = .ok (.istore_n 3, 1) := by decide +kernel
theorem dX4_gone_18 : decode cX4_gone 18 = .ok (.iload_n 3, 1) := by decide +kernel
theorem dX4_gone_19 : decode cX4_gone 19 = .ok (.iconst 4, 1) := by decide +kernel
theorem dX4_gone_20 : decode cX4_gone 20 = .ok (.if_icmp .ge 39, 3) := by decide +kernel
theorem dX4_gone_23 : decode cX4_gone 23 = .ok (.aload_n 0, 1) := by decide +kernel
theorem dX4_gone_24 : decode cX4_gone 24 = .ok (.getfield 35, 3) := by decide +kernel
theorem dX4_gone_27 : decode cX4_gone 27 = .ok (.getfield 199, 3) := by decide +kernel
theorem dX4_gone_30 : decode cX4_gone 30 = .ok (.iload_n 3, 1) := by decide +kernel
theorem dX4_gone_31 : decode cX4_gone 31 = .ok (.iaload, 1) := by decide +kernel
theorem dX4_gone_32 : decode cX4_gone 32 = .ok (.bipush (-9), 2) := by decide +kernel
theorem dX4_gone_34 : decode cX4_gone 34 = .ok (.if_icmp .eq 19, 3) := by decide +kernel
theorem dX4_gone_37 : decode cX4_gone 37 = .ok (.aload_n 0, 1) := by decide +kernel
theorem dX4_gone_38 : decode cX4_gone 38 = .ok (.getfield 35, 3) := by decide +kernel
theorem dX4_gone_41 : decode cX4_gone 41 = .ok (.getfield 199, 3) := by decide +kernel
theorem dX4_gone_44 : decode cX4_gone 44 = .ok (.iload_n 3, 1) := by decide +kernel
theorem dX4_gone_45 : decode cX4_gone 45 = .ok (.iaload, 1) := by decide +kernel
theorem dX4_gone_46 : decode cX4_gone 46 = .ok (.iload_n 1, 1) := by decide +kernel
theorem dX4_gone_47 : decode cX4_gone 47 = .ok (.if_icmp .gt 6, 3) := by decide +kernel
theorem dX4_gone_50 : decode cX4_gone 50 = .ok (.iinc 2 1, 3) := by decide +kernel
theorem dX4_gone_53 : decode cX4_gone 53 = .ok (.iinc 3 1, 3) := by decide +kernel
theorem dX4_gone_56 : decode cX4_gone 56 = .ok (.goto (-38), 3) := by decide +kernel
theorem dX4_gone_59 : decode cX4_gone 59 = .ok (.iload_n 2, 1) := by decide +kernel
theorem dX4_gone_60 : decode cX4_gone 60 = .ok (.ireturn, 1) := by decide +kernel
set_option maxRecDepth 20000 in
theorem ggX4_count_J6_bitCount_0f7a4 : GoodIn wsX4_count wsJ6_bitCount_0f7a4 := goodIn_r _ [11, 12, 13, 14] (by decide +kernel) (by decide +kernel)
set_option maxRecDepth 20000 in
theorem gX4_count_J6_bitCount_0f7a4 : GoodIn wsX4_count (va_wsS RX4 185 yJ6_bitCount_0f7a4 wsJ6_bitCount_0f7a4) := goodIn_app (goodIn_of _ (by decide +kernel)) ggX4_count_J6_bitCount_0f7a4
set_option maxRecDepth 20000 in
theorem ggX4_count_X1_standing : GoodIn wsX4_count wsX1_standing := goodIn_r _ [19, 20, 43, 44] (by decide +kernel) (by decide +kernel)
set_option maxRecDepth 20000 in
theorem gX4_count_X1_standing : GoodIn wsX4_count (wsV RX4 205 RX1 yX1_standing wsX1_standing) := goodIn_app (goodIn_of _ (by decide +kernel)) ggX4_count_X1_standing
theorem dX4_count_0 : decode cX4_count 0 = .ok (.iload_n 1, 1) := by decide +kernel
theorem dX4_count_1 : decode cX4_count 1 = .ok (.tableswitch 84 0 5 #[39, 47, 55, 63, 68, 76], 39) := by decide +kernel
theorem dX4_count_40 : decode cX4_count 40 = .ok (.aload_n 0, 1) := by decide +kernel
theorem dX4_count_41 : decode cX4_count 41 = .ok (.getfield 10, 3) := by decide +kernel
theorem dX4_count_44 : decode cX4_count 44 = .ok (.getfield 202, 3) := by decide +kernel
theorem dX4_count_47 : decode cX4_count 47 = .ok (.ireturn, 1) := by decide +kernel
theorem dX4_count_48 : decode cX4_count 48 = .ok (.aload_n 0, 1) := by decide +kernel
theorem dX4_count_49 : decode cX4_count 49 = .ok (.getfield 10, 3) := by decide +kernel
theorem dX4_count_52 : decode cX4_count 52 = .ok (.getfield 82, 3) := by decide +kernel
theorem dX4_count_55 : decode cX4_count 55 = .ok (.ireturn, 1) := by decide +kernel
theorem dX4_count_56 : decode cX4_count 56 = .ok (.aload_n 0, 1) := by decide +kernel
theorem dX4_count_57 : decode cX4_count 57 = .ok (.getfield 10, 3) := by decide +kernel
theorem dX4_count_60 : decode cX4_count 60 = .ok (.getfield 50, 3) := by decide +kernel
theorem dX4_count_63 : decode cX4_count 63 = .ok (.ireturn, 1) := by decide +kernel
theorem dX4_count_64 : decode cX4_count 64 = .ok (.aload_n 0, 1) := by decide +kernel
theorem dX4_count_65 : decode cX4_count 65 = .ok (.getfield 43, 3) := by decide +kernel
theorem dX4_count_68 : decode cX4_count 68 = .ok (.ireturn, 1) := by decide +kernel
theorem dX4_count_69 : decode cX4_count 69 = .ok (.aload_n 0, 1) := by decide +kernel
theorem dX4_count_70 : decode cX4_count 70 = .ok (.getfield 47, 3) := by decide +kernel
theorem dX4_count_73 : decode cX4_count 73 = .ok (.invokestatic 185, 3) := by decide +kernel
theorem dX4_count_76 : decode cX4_count 76 = .ok (.ireturn, 1) := by decide +kernel
theorem dX4_count_77 : decode cX4_count 77 = .ok (.aload_n 0, 1) := by decide +kernel
theorem dX4_count_78 : decode cX4_count 78 = .ok (.getfield 35, 3) := by decide +kernel
theorem dX4_count_81 : decode cX4_count 81 = .ok (.invokevirtual 205, 3) := by decide +kernel
theorem dX4_count_84 : decode cX4_count 84 = .ok (.ireturn, 1) := by decide +kernel
theorem dX4_count_85 : decode cX4_count 85 = .ok (.bipush (-2), 2) := by decide +kernel
theorem dX4_count_87 : decode cX4_count 87 = .ok (.ireturn, 1) := by decide +kernel
set_option maxRecDepth 20000 in
theorem ggX4_beginAgain_X3_allRows : GoodIn wsX4_beginAgain wsX3_allRows := goodIn_r _ [9, 10, 11, 12, 13, 14, 15, 16, 17, 31, 32, 33, 34, 35, 36, 37, 38, 39, 40, 41, 42, 43, 44, 45, 46, 47, 48] (by decide +kernel) (by decide +kernel)
set_option maxRecDepth 20000 in
theorem gX4_beginAgain_X3_allRows : GoodIn wsX4_beginAgain (wsV RX4 181 RX3 yX3_allRows wsX3_allRows) := goodIn_app (goodIn_of _ (by decide +kernel)) ggX4_beginAgain_X3_allRows
set_option maxRecDepth 20000 in
theorem ggX4_beginAgain_X2_forget : GoodIn wsX4_beginAgain wsX2_forget := goodIn_r _ [22, 23, 49, 50, 51] (by decide +kernel) (by decide +kernel)
set_option maxRecDepth 20000 in
theorem gX4_beginAgain_X2_forget : GoodIn wsX4_beginAgain (wsV RX4 208 RX2 yX2_forget wsX2_forget) := goodIn_app (goodIn_of _ (by decide +kernel)) ggX4_beginAgain_X2_forget
theorem dX4_beginAgain_0 : decode cX4_beginAgain 0 = .ok (.aload_n 0, 1) := by decide +kernel
theorem dX4_beginAgain_1 : decode cX4_beginAgain 1 = .ok (.aload_n 0, 1) := by decide +kernel
theorem dX4_beginAgain_2 : decode cX4_beginAgain 2 = .ok (.getfield 21, 3) := by decide +kernel
theorem dX4_beginAgain_5 : decode cX4_beginAgain 5 = .ok (.invokevirtual 181, 3) := by decide +kernel
theorem dX4_beginAgain_8 : decode cX4_beginAgain 8 = .ok (.putfield 39, 3) := by decide +kernel
theorem dX4_beginAgain_11 : decode cX4_beginAgain 11 = .ok (.aload_n 0, 1) := by decide +kernel
theorem dX4_beginAgain_12 : decode cX4_beginAgain 12 = .ok (.iconst 0, 1) := by decide +kernel
theorem dX4_beginAgain_13 : decode cX4_beginAgain 13 = .ok (.putfield 43, 3) := by decide +kernel
theorem dX4_beginAgain_16 : decode cX4_beginAgain 16 = .ok (.aload_n 0, 1) := by decide +kernel
theorem dX4_beginAgain_17 : decode cX4_beginAgain 17 = .ok (.getfield 28, 3) := by decide +kernel
theorem dX4_beginAgain_20 : decode cX4_beginAgain 20 = .ok (.invokevirtual 208, 3) := by decide +kernel
theorem dX4_beginAgain_23 : decode cX4_beginAgain 23 = .ok (.return_, 1) := by decide +kernel
theorem dX4_isBit_0 : decode cX4_isBit 0 = .ok (.iload_n 0, 1) := by decide +kernel
theorem dX4_isBit_1 : decode cX4_isBit 1 = .ok (.ifCond .eq 8, 3) := by decide +kernel
theorem dX4_isBit_4 : decode cX4_isBit 4 = .ok (.iload_n 0, 1) := by decide +kernel
theorem dX4_isBit_5 : decode cX4_isBit 5 = .ok (.iconst 1, 1) := by decide +kernel
theorem dX4_isBit_6 : decode cX4_isBit 6 = .ok (.if_icmp .ne 7, 3) := by decide +kernel
theorem dX4_isBit_9 : decode cX4_isBit 9 = .ok (.iconst 1, 1) := by decide +kernel
theorem dX4_isBit_10 : decode cX4_isBit 10 = .ok (.goto 4, 3) := by decide +kernel
theorem dX4_isBit_13 : decode cX4_isBit 13 = .ok (.iconst 0, 1) := by decide +kernel
theorem dX4_isBit_14 : decode cX4_isBit 14 = .ok (.ireturn, 1) := by decide +kernel
theorem dX4_isLine_0 : decode cX4_isLine 0 = .ok (.iload_n 0, 1) := by decide +kernel
theorem dX4_isLine_1 : decode cX4_isLine 1 = .ok (.ifCond .lt 12, 3) := by decide +kernel
theorem dX4_isLine_4 : decode cX4_isLine 4 = .ok (.iload_n 0, 1) := by decide +kernel
theorem dX4_isLine_5 : decode cX4_isLine 5 = .ok (.iconst 4, 1) := by decide +kernel
theorem dX4_isLine_6 : decode cX4_isLine 6 = .ok (.if_icmp .ge 7, 3) := by decide +kernel
theorem dX4_isLine_9 : decode cX4_isLine 9 = .ok (.iconst 1, 1) := by decide +kernel
theorem dX4_isLine_10 : decode cX4_isLine 10 = .ok (.goto 4, 3) := by decide +kernel
theorem dX4_isLine_13 : decode cX4_isLine 13 = .ok (.iconst 0, 1) := by decide +kernel
theorem dX4_isLine_14 : decode cX4_isLine 14 = .ok (.ireturn, 1) := by decide +kernel
theorem dX4_isTickCount_0 : decode cX4_isTickCount 0 = .ok (.iload_n 0, 1) := by decide +kernel
theorem dX4_isTickCount_1 : decode cX4_isTickCount 1 = .ok (.iconst 1, 1) := by decide +kernel
theorem dX4_isTickCount_2 : decode cX4_isTickCount 2 = .ok (.if_icmp .lt 13, 3) := by decide +kernel
theorem dX4_isTickCount_5 : decode cX4_isTickCount 5 = .ok (.iload_n 0, 1) := by decide +kernel
theorem dX4_isTickCount_6 : decode cX4_isTickCount 6 = .ok (.bipush 64, 2) := by decide +kernel
theorem dX4_isTickCount_8 : decode cX4_isTickCount 8 = .ok (.if_icmp .gt 7, 3) := by decide +kernel
theorem dX4_isTickCount_11 : decode cX4_isTickCount 11 = .ok (.iconst 1, 1) := by decide +kernel
theorem dX4_isTickCount_12 : decode cX4_isTickCount 12 = .ok (.goto 4, 3) := by decide +kernel
theorem dX4_isTickCount_15 : decode cX4_isTickCount 15 = .ok (.iconst 0, 1) := by decide +kernel
theorem dX4_isTickCount_16 : decode cX4_isTickCount 16 = .ok (.ireturn, 1) := by decide +kernel
