abbrev cC_clear : ByteArray := prog_1_method_2_code
abbrev yC_clear : MethodName := ⟨"CoverTrees", "clear", "()V"⟩
abbrev kC_clear : Cond := .code yC_clear cC_clear 1 none
abbrev wsC_clear : List Cond := kC_clear :: wB
theorem dC_clear_0 : decode cC_clear 0 = .ok (.aload_n 0, 1) := by decide +kernel
theorem dC_clear_1 : decode cC_clear 1 = .ok (.getfield 21, 3) := by decide +kernel
theorem dC_clear_4 : decode cC_clear 4 = .ok (.iconst 0, 1) := by decide +kernel
theorem dC_clear_5 : decode cC_clear 5 = .ok (.putfield 25, 3) := by decide +kernel
theorem dC_clear_8 : decode cC_clear 8 = .ok (.aload_n 0, 1) := by decide +kernel
theorem dC_clear_9 : decode cC_clear 9 = .ok (.getfield 12, 3) := by decide +kernel
theorem dC_clear_12 : decode cC_clear 12 = .ok (.iconst 0, 1) := by decide +kernel
theorem dC_clear_13 : decode cC_clear 13 = .ok (.putfield 29, 3) := by decide +kernel
theorem dC_clear_16 : decode cC_clear 16 = .ok (.aload_n 0, 1) := by decide +kernel
theorem dC_clear_17 : decode cC_clear 17 = .ok (.getfield 12, 3) := by decide +kernel
theorem dC_clear_20 : decode cC_clear 20 = .ok (.iconst 0, 1) := by decide +kernel
theorem dC_clear_21 : decode cC_clear 21 = .ok (.putfield 32, 3) := by decide +kernel
theorem dC_clear_24 : decode cC_clear 24 = .ok (.return_, 1) := by decide +kernel
abbrev cC_fell : ByteArray := prog_1_method_3_code
abbrev yC_fell : MethodName := ⟨"CoverTrees", "fell", "()V"⟩
abbrev kC_fell : Cond := .code yC_fell cC_fell 1 none
abbrev wsC_fell : List Cond := kC_fell :: wB
theorem dC_fell_0 : decode cC_fell 0 = .ok (.aload_n 0, 1) := by decide +kernel
theorem dC_fell_1 : decode cC_fell 1 = .ok (.getfield 21, 3) := by decide +kernel
theorem dC_fell_4 : decode cC_fell 4 = .ok (.iconst 0, 1) := by decide +kernel
theorem dC_fell_5 : decode cC_fell 5 = .ok (.putfield 25, 3) := by decide +kernel
theorem dC_fell_8 : decode cC_fell 8 = .ok (.return_, 1) := by decide +kernel
abbrev cC_operator : ByteArray := prog_1_method_4_code
abbrev yC_operator : MethodName := ⟨"CoverTrees", "operator", "(I)I"⟩
abbrev kC_operator : Cond := .code yC_operator cC_operator 2 (some .int)
abbrev wsC_operator : List Cond := kC_operator :: wB
theorem dC_operator_0 : decode cC_operator 0 = .ok (.iload_n 1, 1) := by decide +kernel
theorem dC_operator_1 : decode cC_operator 1 = .ok (.ifCond .lt 8, 3) := by decide +kernel
theorem dC_operator_4 : decode cC_operator 4 = .ok (.iload_n 1, 1) := by decide +kernel
theorem dC_operator_5 : decode cC_operator 5 = .ok (.iconst 2, 1) := by decide +kernel
theorem dC_operator_6 : decode cC_operator 6 = .ok (.if_icmp .le 13, 3) := by decide +kernel
theorem dC_operator_9 : decode cC_operator 9 = .ok (.new 35, 3) := by decide +kernel
theorem dC_operator_12 : decode cC_operator 12 = .ok (.dup, 1) := by decide +kernel
theorem dC_operator_13 : decode cC_operator 13 = .ok (.ldc 37, 2) := by decide +kernel
theorem dC_operator_15 : decode cC_operator 15 = .ok (.invokespecial 39, 3) := by decide +kernel
theorem dC_operator_18 : decode cC_operator 18 = .ok (.athrow, 1) := by decide +kernel
theorem dC_operator_19 : decode cC_operator 19 = .ok (.aload_n 0, 1) := by decide +kernel
theorem dC_operator_20 : decode cC_operator 20 = .ok (.getfield 12, 3) := by decide +kernel
theorem dC_operator_23 : decode cC_operator 23 = .ok (.getfield 32, 3) := by decide +kernel
theorem dC_operator_26 : decode cC_operator 26 = .ok (.bipush 10, 2) := by decide +kernel
theorem dC_operator_28 : decode cC_operator 28 = .ok (.if_icmp .lt 13, 3) := by decide +kernel
theorem dC_operator_31 : decode cC_operator 31 = .ok (.new 42, 3) := by decide +kernel
theorem dC_operator_34 : decode cC_operator 34 = .ok (.dup, 1) := by decide +kernel
theorem dC_operator_35 : decode cC_operator 35 = .ok (.ldc 44, 2) := by decide +kernel
theorem dC_operator_37 : decode cC_operator 37 = .ok (.invokespecial 46, 3) := by decide +kernel
theorem dC_operator_40 : decode cC_operator 40 = .ok (.athrow, 1) := by decide +kernel
theorem dC_operator_41 : decode cC_operator 41 = .ok (.aload_n 0, 1) := by decide +kernel
theorem dC_operator_42 : decode cC_operator 42 = .ok (.getfield 12, 3) := by decide +kernel
theorem dC_operator_45 : decode cC_operator 45 = .ok (.iload_n 1, 1) := by decide +kernel
theorem dC_operator_46 : decode cC_operator 46 = .ok (.invokevirtual 47, 3) := by decide +kernel
theorem dC_operator_49 : decode cC_operator 49 = .ok (.ireturn, 1) := by decide +kernel
abbrev cC_base : ByteArray := prog_1_method_5_code
abbrev yC_base : MethodName := ⟨"CoverTrees", "base", "(IIIII)I"⟩
abbrev kC_base : Cond := .code yC_base cC_base 7 (some .int)
abbrev wsC_base : List Cond := kC_base :: wB
theorem dC_base_0 : decode cC_base 0 = .ok (.iload_n 1, 1) := by decide +kernel
theorem dC_base_1 : decode cC_base 1 = .ok (.invokestatic 51, 3) := by decide +kernel
theorem dC_base_4 : decode cC_base 4 = .ok (.ifCond .eq 14, 3) := by decide +kernel
theorem dC_base_7 : decode cC_base 7 = .ok (.aload_n 0, 1) := by decide +kernel
theorem dC_base_8 : decode cC_base 8 = .ok (.getfield 12, 3) := by decide +kernel
theorem dC_base_11 : decode cC_base 11 = .ok (.iload_n 2, 1) := by decide +kernel
theorem dC_base_12 : decode cC_base 12 = .ok (.invokevirtual 55, 3) := by decide +kernel
theorem dC_base_15 : decode cC_base 15 = .ok (.ifCond .ne 13, 3) := by decide +kernel
theorem dC_base_18 : decode cC_base 18 = .ok (.new 35, 3) := by decide +kernel
theorem dC_base_21 : decode cC_base 21 = .ok (.dup, 1) := by decide +kernel
theorem dC_base_22 : decode cC_base 22 = .ok (.ldc 58, 2) := by decide +kernel
theorem dC_base_24 : decode cC_base 24 = .ok (.invokespecial 39, 3) := by decide +kernel
theorem dC_base_27 : decode cC_base 27 = .ok (.athrow, 1) := by decide +kernel
theorem dC_base_28 : decode cC_base 28 = .ok (.aload_n 0, 1) := by decide +kernel
theorem dC_base_29 : decode cC_base 29 = .ok (.getfield 12, 3) := by decide +kernel
theorem dC_base_32 : decode cC_base 32 = .ok (.getfield 60, 3) := by decide +kernel
theorem dC_base_35 : decode cC_base 35 = .ok (.iload_n 2, 1) := by decide +kernel
theorem dC_base_36 : decode cC_base 36 = .ok (.iaload, 1) := by decide +kernel
theorem dC_base_37 : decode cC_base 37 = .ok (.istore 6, 2) := by decide +kernel
theorem dC_base_39 : decode cC_base 39 = .ok (.iload 6, 2) := by decide +kernel
theorem dC_base_41 : decode cC_base 41 = .ok (.iconst 1, 1) := by decide +kernel
theorem dC_base_42 : decode cC_base 42 = .ok (.if_icmp .lt 10, 3) := by decide +kernel
theorem dC_base_45 : decode cC_base 45 = .ok (.iload_n 3, 1) := by decide +kernel
theorem dC_base_46 : decode cC_base 46 = .ok (.invokestatic 51, 3) := by decide +kernel
theorem dC_base_49 : decode cC_base 49 = .ok (.ifCond .eq 17, 3) := by decide +kernel
theorem dC_base_52 : decode cC_base 52 = .ok (.iload 6, 2) := by decide +kernel
theorem dC_base_54 : decode cC_base 54 = .ok (.iconst 2, 1) := by decide +kernel
theorem dC_base_55 : decode cC_base 55 = .ok (.if_icmp .lt 21, 3) := by decide +kernel
theorem dC_base_58 : decode cC_base 58 = .ok (.iload 4, 2) := by decide +kernel
theorem dC_base_60 : decode cC_base 60 = .ok (.invokestatic 51, 3) := by decide +kernel
theorem dC_base_63 : decode cC_base 63 = .ok (.ifCond .ne 13, 3) := by decide +kernel
theorem dC_base_66 : decode cC_base 66 = .ok (.new 35, 3) := by decide +kernel
theorem dC_base_69 : decode cC_base 69 = .ok (.dup, 1) := by decide +kernel
theorem dC_base_70 : decode cC_base 70 = .ok (.ldc 64, 2) := by decide +kernel
theorem dC_base_72 : decode cC_base 72 = .ok (.invokespecial 39, 3) := by decide +kernel
theorem dC_base_75 : decode cC_base 75 = .ok (.athrow, 1) := by decide +kernel
theorem dC_base_76 : decode cC_base 76 = .ok (.iload 5, 2) := by decide +kernel
theorem dC_base_78 : decode cC_base 78 = .ok (.invokestatic 66, 3) := by decide +kernel
theorem dC_base_81 : decode cC_base 81 = .ok (.aload_n 0, 1) := by decide +kernel
theorem dC_base_82 : decode cC_base 82 = .ok (.invokevirtual 70, 3) := by decide +kernel
theorem dC_base_85 : decode cC_base 85 = .ok (.aload_n 0, 1) := by decide +kernel
theorem dC_base_86 : decode cC_base 86 = .ok (.getfield 21, 3) := by decide +kernel
theorem dC_base_89 : decode cC_base 89 = .ok (.iconst 0, 1) := by decide +kernel
theorem dC_base_90 : decode cC_base 90 = .ok (.putfield 25, 3) := by decide +kernel
theorem dC_base_93 : decode cC_base 93 = .ok (.aload_n 0, 1) := by decide +kernel
theorem dC_base_94 : decode cC_base 94 = .ok (.getfield 12, 3) := by decide +kernel
theorem dC_base_97 : decode cC_base 97 = .ok (.iload_n 1, 1) := by decide +kernel
theorem dC_base_98 : decode cC_base 98 = .ok (.iload_n 2, 1) := by decide +kernel
theorem dC_base_99 : decode cC_base 99 = .ok (.iload 6, 2) := by decide +kernel
theorem dC_base_101 : decode cC_base 101 = .ok (.iconst 1, 1) := by decide +kernel
theorem dC_base_102 : decode cC_base 102 = .ok (.if_icmp .lt 7, 3) := by decide +kernel
theorem dC_base_105 : decode cC_base 105 = .ok (.iload_n 3, 1) := by decide +kernel
theorem dC_base_106 : decode cC_base 106 = .ok (.goto 4, 3) := by decide +kernel
theorem dC_base_109 : decode cC_base 109 = .ok (.iconst 0, 1) := by decide +kernel
theorem dC_base_110 : decode cC_base 110 = .ok (.iload 6, 2) := by decide +kernel
theorem dC_base_112 : decode cC_base 112 = .ok (.iconst 2, 1) := by decide +kernel
theorem dC_base_113 : decode cC_base 113 = .ok (.if_icmp .lt 8, 3) := by decide +kernel
theorem dC_base_116 : decode cC_base 116 = .ok (.iload 4, 2) := by decide +kernel
theorem dC_base_118 : decode cC_base 118 = .ok (.goto 4, 3) := by decide +kernel
theorem dC_base_121 : decode cC_base 121 = .ok (.iconst 0, 1) := by decide +kernel
theorem dC_base_122 : decode cC_base 122 = .ok (.iload 5, 2) := by decide +kernel
theorem dC_base_124 : decode cC_base 124 = .ok (.invokevirtual 73, 3) := by decide +kernel
theorem dC_base_127 : decode cC_base 127 = .ok (.ireturn, 1) := by decide +kernel
abbrev cC_chain : ByteArray := prog_1_method_6_code
abbrev yC_chain : MethodName := ⟨"CoverTrees", "chain", "(III)I"⟩
abbrev kC_chain : Cond := .code yC_chain cC_chain 4 (some .int)
abbrev wsC_chain : List Cond := kC_chain :: wB
theorem dC_chain_0 : decode cC_chain 0 = .ok (.iload_n 1, 1) := by decide +kernel
theorem dC_chain_1 : decode cC_chain 1 = .ok (.invokestatic 51, 3) := by decide +kernel
theorem dC_chain_4 : decode cC_chain 4 = .ok (.ifCond .eq 10, 3) := by decide +kernel
theorem dC_chain_7 : decode cC_chain 7 = .ok (.iload_n 2, 1) := by decide +kernel
theorem dC_chain_8 : decode cC_chain 8 = .ok (.invokestatic 51, 3) := by decide +kernel
theorem dC_chain_11 : decode cC_chain 11 = .ok (.ifCond .ne 13, 3) := by decide +kernel
theorem dC_chain_14 : decode cC_chain 14 = .ok (.new 35, 3) := by decide +kernel
theorem dC_chain_17 : decode cC_chain 17 = .ok (.dup, 1) := by decide +kernel
theorem dC_chain_18 : decode cC_chain 18 = .ok (.ldc 77, 2) := by decide +kernel
theorem dC_chain_20 : decode cC_chain 20 = .ok (.invokespecial 39, 3) := by decide +kernel
theorem dC_chain_23 : decode cC_chain 23 = .ok (.athrow, 1) := by decide +kernel
theorem dC_chain_24 : decode cC_chain 24 = .ok (.iload_n 1, 1) := by decide +kernel
theorem dC_chain_25 : decode cC_chain 25 = .ok (.iload_n 2, 1) := by decide +kernel
theorem dC_chain_26 : decode cC_chain 26 = .ok (.if_icmp .ne 13, 3) := by decide +kernel
theorem dC_chain_29 : decode cC_chain 29 = .ok (.new 35, 3) := by decide +kernel
theorem dC_chain_32 : decode cC_chain 32 = .ok (.dup, 1) := by decide +kernel
theorem dC_chain_33 : decode cC_chain 33 = .ok (.ldc 79, 2) := by decide +kernel
theorem dC_chain_35 : decode cC_chain 35 = .ok (.invokespecial 39, 3) := by decide +kernel
theorem dC_chain_38 : decode cC_chain 38 = .ok (.athrow, 1) := by decide +kernel
theorem dC_chain_39 : decode cC_chain 39 = .ok (.iload_n 3, 1) := by decide +kernel
theorem dC_chain_40 : decode cC_chain 40 = .ok (.invokestatic 66, 3) := by decide +kernel
theorem dC_chain_43 : decode cC_chain 43 = .ok (.aload_n 0, 1) := by decide +kernel
theorem dC_chain_44 : decode cC_chain 44 = .ok (.invokevirtual 70, 3) := by decide +kernel
theorem dC_chain_47 : decode cC_chain 47 = .ok (.aload_n 0, 1) := by decide +kernel
theorem dC_chain_48 : decode cC_chain 48 = .ok (.getfield 21, 3) := by decide +kernel
theorem dC_chain_51 : decode cC_chain 51 = .ok (.iconst 0, 1) := by decide +kernel
theorem dC_chain_52 : decode cC_chain 52 = .ok (.putfield 25, 3) := by decide +kernel
theorem dC_chain_55 : decode cC_chain 55 = .ok (.aload_n 0, 1) := by decide +kernel
theorem dC_chain_56 : decode cC_chain 56 = .ok (.getfield 12, 3) := by decide +kernel
theorem dC_chain_59 : decode cC_chain 59 = .ok (.iload_n 1, 1) := by decide +kernel
theorem dC_chain_60 : decode cC_chain 60 = .ok (.iconst (-1), 1) := by decide +kernel
theorem dC_chain_61 : decode cC_chain 61 = .ok (.iload_n 2, 1) := by decide +kernel
theorem dC_chain_62 : decode cC_chain 62 = .ok (.iconst 0, 1) := by decide +kernel
theorem dC_chain_63 : decode cC_chain 63 = .ok (.iload_n 3, 1) := by decide +kernel
theorem dC_chain_64 : decode cC_chain 64 = .ok (.invokevirtual 73, 3) := by decide +kernel
theorem dC_chain_67 : decode cC_chain 67 = .ok (.ireturn, 1) := by decide +kernel
abbrev cC_node : ByteArray := prog_1_method_7_code
abbrev yC_node : MethodName := ⟨"CoverTrees", "node", "(III)I"⟩
abbrev kC_node : Cond := .code yC_node cC_node 5 (some .int)
abbrev wsC_node : List Cond := kC_node :: wB
theorem dC_node_0 : decode cC_node 0 = .ok (.aload_n 0, 1) := by decide +kernel
theorem dC_node_1 : decode cC_node 1 = .ok (.getfield 12, 3) := by decide +kernel
theorem dC_node_4 : decode cC_node 4 = .ok (.iload_n 1, 1) := by decide +kernel
theorem dC_node_5 : decode cC_node 5 = .ok (.invokevirtual 55, 3) := by decide +kernel
theorem dC_node_8 : decode cC_node 8 = .ok (.ifCond .ne 13, 3) := by decide +kernel
theorem dC_node_11 : decode cC_node 11 = .ok (.new 35, 3) := by decide +kernel
theorem dC_node_14 : decode cC_node 14 = .ok (.dup, 1) := by decide +kernel
theorem dC_node_15 : decode cC_node 15 = .ok (.ldc 81, 2) := by decide +kernel
theorem dC_node_17 : decode cC_node 17 = .ok (.invokespecial 39, 3) := by decide +kernel
theorem dC_node_20 : decode cC_node 20 = .ok (.athrow, 1) := by decide +kernel
theorem dC_node_21 : decode cC_node 21 = .ok (.aload_n 0, 1) := by decide +kernel
theorem dC_node_22 : decode cC_node 22 = .ok (.getfield 12, 3) := by decide +kernel
theorem dC_node_25 : decode cC_node 25 = .ok (.getfield 60, 3) := by decide +kernel
theorem dC_node_28 : decode cC_node 28 = .ok (.iload_n 1, 1) := by decide +kernel
theorem dC_node_29 : decode cC_node 29 = .ok (.iaload, 1) := by decide +kernel
theorem dC_node_30 : decode cC_node 30 = .ok (.istore 4, 2) := by decide +kernel
theorem dC_node_32 : decode cC_node 32 = .ok (.iload 4, 2) := by decide +kernel
theorem dC_node_34 : decode cC_node 34 = .ok (.iconst 1, 1) := by decide +kernel
theorem dC_node_35 : decode cC_node 35 = .ok (.if_icmp .lt 14, 3) := by decide +kernel
theorem dC_node_38 : decode cC_node 38 = .ok (.aload_n 0, 1) := by decide +kernel
theorem dC_node_39 : decode cC_node 39 = .ok (.getfield 21, 3) := by decide +kernel
theorem dC_node_42 : decode cC_node 42 = .ok (.iload_n 2, 1) := by decide +kernel
theorem dC_node_43 : decode cC_node 43 = .ok (.invokevirtual 83, 3) := by decide +kernel
theorem dC_node_46 : decode cC_node 46 = .ok (.ifCond .eq 20, 3) := by decide +kernel
theorem dC_node_49 : decode cC_node 49 = .ok (.iload 4, 2) := by decide +kernel
theorem dC_node_51 : decode cC_node 51 = .ok (.iconst 2, 1) := by decide +kernel
theorem dC_node_52 : decode cC_node 52 = .ok (.if_icmp .lt 24, 3) := by decide +kernel
theorem dC_node_55 : decode cC_node 55 = .ok (.aload_n 0, 1) := by decide +kernel
theorem dC_node_56 : decode cC_node 56 = .ok (.getfield 21, 3) := by decide +kernel
theorem dC_node_59 : decode cC_node 59 = .ok (.iload_n 3, 1) := by decide +kernel
theorem dC_node_60 : decode cC_node 60 = .ok (.invokevirtual 83, 3) := by decide +kernel
theorem dC_node_63 : decode cC_node 63 = .ok (.ifCond .ne 13, 3) := by decide +kernel
theorem dC_node_66 : decode cC_node 66 = .ok (.new 35, 3) := by decide +kernel
theorem dC_node_69 : decode cC_node 69 = .ok (.dup, 1) := by decide +kernel
theorem dC_node_70 : decode cC_node 70 = .ok (.ldc 86, 2) := by decide +kernel
theorem dC_node_72 : decode cC_node 72 = .ok (.invokespecial 39, 3) := by decide +kernel
theorem dC_node_75 : decode cC_node 75 = .ok (.athrow, 1) := by decide +kernel
theorem dC_node_76 : decode cC_node 76 = .ok (.aload_n 0, 1) := by decide +kernel
theorem dC_node_77 : decode cC_node 77 = .ok (.getfield 21, 3) := by decide +kernel
theorem dC_node_80 : decode cC_node 80 = .ok (.getfield 25, 3) := by decide +kernel
theorem dC_node_83 : decode cC_node 83 = .ok (.bipush 120, 2) := by decide +kernel
theorem dC_node_85 : decode cC_node 85 = .ok (.if_icmp .lt 13, 3) := by decide +kernel
theorem dC_node_88 : decode cC_node 88 = .ok (.new 42, 3) := by decide +kernel
theorem dC_node_91 : decode cC_node 91 = .ok (.dup, 1) := by decide +kernel
theorem dC_node_92 : decode cC_node 92 = .ok (.ldc 88, 2) := by decide +kernel
theorem dC_node_94 : decode cC_node 94 = .ok (.invokespecial 46, 3) := by decide +kernel
theorem dC_node_97 : decode cC_node 97 = .ok (.athrow, 1) := by decide +kernel
theorem dC_node_98 : decode cC_node 98 = .ok (.aload_n 0, 1) := by decide +kernel
theorem dC_node_99 : decode cC_node 99 = .ok (.getfield 21, 3) := by decide +kernel
theorem dC_node_102 : decode cC_node 102 = .ok (.iload_n 1, 1) := by decide +kernel
theorem dC_node_103 : decode cC_node 103 = .ok (.iload 4, 2) := by decide +kernel
theorem dC_node_105 : decode cC_node 105 = .ok (.iconst 1, 1) := by decide +kernel
theorem dC_node_106 : decode cC_node 106 = .ok (.if_icmp .lt 7, 3) := by decide +kernel
theorem dC_node_109 : decode cC_node 109 = .ok (.iload_n 2, 1) := by decide +kernel
theorem dC_node_110 : decode cC_node 110 = .ok (.goto 4, 3) := by decide +kernel
theorem dC_node_113 : decode cC_node 113 = .ok (.iconst 0, 1) := by decide +kernel
theorem dC_node_114 : decode cC_node 114 = .ok (.iload 4, 2) := by decide +kernel
theorem dC_node_116 : decode cC_node 116 = .ok (.iconst 2, 1) := by decide +kernel
theorem dC_node_117 : decode cC_node 117 = .ok (.if_icmp .lt 7, 3) := by decide +kernel
theorem dC_node_120 : decode cC_node 120 = .ok (.iload_n 3, 1) := by decide +kernel
theorem dC_node_121 : decode cC_node 121 = .ok (.goto 4, 3) := by decide +kernel
theorem dC_node_124 : decode cC_node 124 = .ok (.iconst 0, 1) := by decide +kernel
theorem dC_node_125 : decode cC_node 125 = .ok (.invokevirtual 90, 3) := by decide +kernel
theorem dC_node_128 : decode cC_node 128 = .ok (.aload_n 0, 1) := by decide +kernel
theorem dC_node_129 : decode cC_node 129 = .ok (.getfield 21, 3) := by decide +kernel
theorem dC_node_132 : decode cC_node 132 = .ok (.invokevirtual 94, 3) := by decide +kernel
theorem dC_node_135 : decode cC_node 135 = .ok (.ifCond .eq 13, 3) := by decide +kernel
theorem dC_node_138 : decode cC_node 138 = .ok (.new 42, 3) := by decide +kernel
theorem dC_node_141 : decode cC_node 141 = .ok (.dup, 1) := by decide +kernel
theorem dC_node_142 : decode cC_node 142 = .ok (.ldc 98, 2) := by decide +kernel
theorem dC_node_144 : decode cC_node 144 = .ok (.invokespecial 46, 3) := by decide +kernel
theorem dC_node_147 : decode cC_node 147 = .ok (.athrow, 1) := by decide +kernel
theorem dC_node_148 : decode cC_node 148 = .ok (.aload_n 0, 1) := by decide +kernel
theorem dC_node_149 : decode cC_node 149 = .ok (.getfield 21, 3) := by decide +kernel
theorem dC_node_152 : decode cC_node 152 = .ok (.invokevirtual 100, 3) := by decide +kernel
theorem dC_node_155 : decode cC_node 155 = .ok (.ireturn, 1) := by decide +kernel
abbrev cC_cost : ByteArray := prog_1_method_8_code
abbrev yC_cost : MethodName := ⟨"CoverTrees", "cost", "(II)I"⟩
abbrev kC_cost : Cond := .code yC_cost cC_cost 3 (some .int)
abbrev wsC_cost : List Cond := kC_cost :: wB
theorem dC_cost_0 : decode cC_cost 0 = .ok (.aload_n 0, 1) := by decide +kernel
theorem dC_cost_1 : decode cC_cost 1 = .ok (.iload_n 1, 1) := by decide +kernel
theorem dC_cost_2 : decode cC_cost 2 = .ok (.iload_n 2, 1) := by decide +kernel
theorem dC_cost_3 : decode cC_cost 3 = .ok (.invokevirtual 104, 3) := by decide +kernel
theorem dC_cost_6 : decode cC_cost 6 = .ok (.aload_n 0, 1) := by decide +kernel
theorem dC_cost_7 : decode cC_cost 7 = .ok (.getfield 21, 3) := by decide +kernel
theorem dC_cost_10 : decode cC_cost 10 = .ok (.getfield 108, 3) := by decide +kernel
theorem dC_cost_13 : decode cC_cost 13 = .ok (.iload_n 1, 1) := by decide +kernel
theorem dC_cost_14 : decode cC_cost 14 = .ok (.iload_n 2, 1) := by decide +kernel
theorem dC_cost_15 : decode cC_cost 15 = .ok (.invokestatic 111, 3) := by decide +kernel
theorem dC_cost_18 : decode cC_cost 18 = .ok (.iaload, 1) := by decide +kernel
theorem dC_cost_19 : decode cC_cost 19 = .ok (.ireturn, 1) := by decide +kernel
abbrev cC_rule : ByteArray := prog_1_method_9_code
abbrev yC_rule : MethodName := ⟨"CoverTrees", "rule", "(II)I"⟩
abbrev kC_rule : Cond := .code yC_rule cC_rule 3 (some .int)
abbrev wsC_rule : List Cond := kC_rule :: wB
theorem dC_rule_0 : decode cC_rule 0 = .ok (.aload_n 0, 1) := by decide +kernel
theorem dC_rule_1 : decode cC_rule 1 = .ok (.iload_n 1, 1) := by decide +kernel
theorem dC_rule_2 : decode cC_rule 2 = .ok (.iload_n 2, 1) := by decide +kernel
theorem dC_rule_3 : decode cC_rule 3 = .ok (.invokevirtual 104, 3) := by decide +kernel
theorem dC_rule_6 : decode cC_rule 6 = .ok (.aload_n 0, 1) := by decide +kernel
theorem dC_rule_7 : decode cC_rule 7 = .ok (.getfield 21, 3) := by decide +kernel
theorem dC_rule_10 : decode cC_rule 10 = .ok (.getfield 115, 3) := by decide +kernel
theorem dC_rule_13 : decode cC_rule 13 = .ok (.iload_n 1, 1) := by decide +kernel
theorem dC_rule_14 : decode cC_rule 14 = .ok (.iload_n 2, 1) := by decide +kernel
theorem dC_rule_15 : decode cC_rule 15 = .ok (.invokestatic 111, 3) := by decide +kernel
theorem dC_rule_18 : decode cC_rule 18 = .ok (.iaload, 1) := by decide +kernel
theorem dC_rule_19 : decode cC_rule 19 = .ok (.ireturn, 1) := by decide +kernel
abbrev cC_size : ByteArray := prog_1_method_10_code
abbrev yC_size : MethodName := ⟨"CoverTrees", "size", "(II)I"⟩
abbrev kC_size : Cond := .code yC_size cC_size 3 (some .int)
abbrev wsC_size : List Cond := kC_size :: wB
theorem dC_size_0 : decode cC_size 0 = .ok (.aload_n 0, 1) := by decide +kernel
theorem dC_size_1 : decode cC_size 1 = .ok (.iload_n 1, 1) := by decide +kernel
theorem dC_size_2 : decode cC_size 2 = .ok (.iload_n 2, 1) := by decide +kernel
theorem dC_size_3 : decode cC_size 3 = .ok (.invokevirtual 104, 3) := by decide +kernel
theorem dC_size_6 : decode cC_size 6 = .ok (.aload_n 0, 1) := by decide +kernel
theorem dC_size_7 : decode cC_size 7 = .ok (.iload_n 1, 1) := by decide +kernel
theorem dC_size_8 : decode cC_size 8 = .ok (.iload_n 2, 1) := by decide +kernel
theorem dC_size_9 : decode cC_size 9 = .ok (.invokevirtual 118, 3) := by decide +kernel
theorem dC_size_12 : decode cC_size 12 = .ok (.ireturn, 1) := by decide +kernel
abbrev cC_cover : ByteArray := prog_1_method_11_code
abbrev yC_cover : MethodName := ⟨"CoverTrees", "cover", "(IIII)I"⟩
abbrev kC_cover : Cond := .code yC_cover cC_cover 7 (some .int)
abbrev wsC_cover : List Cond := kC_cover :: wB
theorem dC_cover_0 : decode cC_cover 0 = .ok (.aload_n 0, 1) := by decide +kernel
theorem dC_cover_1 : decode cC_cover 1 = .ok (.iload_n 1, 1) := by decide +kernel
theorem dC_cover_2 : decode cC_cover 2 = .ok (.iload_n 2, 1) := by decide +kernel
theorem dC_cover_3 : decode cC_cover 3 = .ok (.invokevirtual 104, 3) := by decide +kernel
theorem dC_cover_6 : decode cC_cover 6 = .ok (.aload_n 0, 1) := by decide +kernel
theorem dC_cover_7 : decode cC_cover 7 = .ok (.iload_n 1, 1) := by decide +kernel
theorem dC_cover_8 : decode cC_cover 8 = .ok (.iload_n 2, 1) := by decide +kernel
theorem dC_cover_9 : decode cC_cover 9 = .ok (.invokevirtual 118, 3) := by decide +kernel
theorem dC_cover_12 : decode cC_cover 12 = .ok (.istore 5, 2) := by decide +kernel
theorem dC_cover_14 : decode cC_cover 14 = .ok (.iload 4, 2) := by decide +kernel
theorem dC_cover_16 : decode cC_cover 16 = .ok (.ifCond .eq 19, 3) := by decide +kernel
theorem dC_cover_19 : decode cC_cover 19 = .ok (.iload 4, 2) := by decide +kernel
theorem dC_cover_21 : decode cC_cover 21 = .ok (.iconst 1, 1) := by decide +kernel
theorem dC_cover_22 : decode cC_cover 22 = .ok (.if_icmp .eq 13, 3) := by decide +kernel
theorem dC_cover_25 : decode cC_cover 25 = .ok (.new 35, 3) := by decide +kernel
theorem dC_cover_28 : decode cC_cover 28 = .ok (.dup, 1) := by decide +kernel
theorem dC_cover_29 : decode cC_cover 29 = .ok (.ldc 121, 2) := by decide +kernel
theorem dC_cover_31 : decode cC_cover 31 = .ok (.invokespecial 39, 3) := by decide +kernel
theorem dC_cover_34 : decode cC_cover 34 = .ok (.athrow, 1) := by decide +kernel
theorem dC_cover_35 : decode cC_cover 35 = .ok (.iload_n 3, 1) := by decide +kernel
theorem dC_cover_36 : decode cC_cover 36 = .ok (.ifCond .lt 9, 3) := by decide +kernel
theorem dC_cover_39 : decode cC_cover 39 = .ok (.iload_n 3, 1) := by decide +kernel
theorem dC_cover_40 : decode cC_cover 40 = .ok (.iload 5, 2) := by decide +kernel
theorem dC_cover_42 : decode cC_cover 42 = .ok (.if_icmp .lt 13, 3) := by decide +kernel
theorem dC_cover_45 : decode cC_cover 45 = .ok (.new 123, 3) := by decide +kernel
theorem dC_cover_48 : decode cC_cover 48 = .ok (.dup, 1) := by decide +kernel
theorem dC_cover_49 : decode cC_cover 49 = .ok (.ldc 125, 2) := by decide +kernel
theorem dC_cover_51 : decode cC_cover 51 = .ok (.invokespecial 127, 3) := by decide +kernel
theorem dC_cover_54 : decode cC_cover 54 = .ok (.athrow, 1) := by decide +kernel
theorem dC_cover_55 : decode cC_cover 55 = .ok (.aload_n 0, 1) := by decide +kernel
theorem dC_cover_56 : decode cC_cover 56 = .ok (.getfield 21, 3) := by decide +kernel
theorem dC_cover_59 : decode cC_cover 59 = .ok (.iload_n 1, 1) := by decide +kernel
theorem dC_cover_60 : decode cC_cover 60 = .ok (.iload_n 2, 1) := by decide +kernel
theorem dC_cover_61 : decode cC_cover 61 = .ok (.invokestatic 111, 3) := by decide +kernel
theorem dC_cover_64 : decode cC_cover 64 = .ok (.iload_n 3, 1) := by decide +kernel
theorem dC_cover_65 : decode cC_cover 65 = .ok (.invokevirtual 128, 3) := by decide +kernel
theorem dC_cover_68 : decode cC_cover 68 = .ok (.istore 6, 2) := by decide +kernel
theorem dC_cover_70 : decode cC_cover 70 = .ok (.iload 4, 2) := by decide +kernel
theorem dC_cover_72 : decode cC_cover 72 = .ok (.ifCond .ne 16, 3) := by decide +kernel
theorem dC_cover_75 : decode cC_cover 75 = .ok (.aload_n 0, 1) := by decide +kernel
theorem dC_cover_76 : decode cC_cover 76 = .ok (.getfield 21, 3) := by decide +kernel
theorem dC_cover_79 : decode cC_cover 79 = .ok (.getfield 115, 3) := by decide +kernel
theorem dC_cover_82 : decode cC_cover 82 = .ok (.iload 6, 2) := by decide +kernel
theorem dC_cover_84 : decode cC_cover 84 = .ok (.iaload, 1) := by decide +kernel
theorem dC_cover_85 : decode cC_cover 85 = .ok (.goto 8, 3) := by decide +kernel
theorem dC_cover_88 : decode cC_cover 88 = .ok (.iload 6, 2) := by decide +kernel
theorem dC_cover_90 : decode cC_cover 90 = .ok (.bipush 8, 2) := by decide +kernel
theorem dC_cover_92 : decode cC_cover 92 = .ok (.idiv, 1) := by decide +kernel
theorem dC_cover_93 : decode cC_cover 93 = .ok (.ireturn, 1) := by decide +kernel
abbrev cC_states : ByteArray := prog_1_method_12_code
abbrev yC_states : MethodName := ⟨"CoverTrees", "states", "()I"⟩
abbrev kC_states : Cond := .code yC_states cC_states 1 (some .int)
abbrev wsC_states : List Cond := kC_states :: wB
theorem dC_states_0 : decode cC_states 0 = .ok (.aload_n 0, 1) := by decide +kernel
theorem dC_states_1 : decode cC_states 1 = .ok (.getfield 21, 3) := by decide +kernel
theorem dC_states_4 : decode cC_states 4 = .ok (.invokevirtual 131, 3) := by decide +kernel
theorem dC_states_7 : decode cC_states 7 = .ok (.ireturn, 1) := by decide +kernel
abbrev cC_like : ByteArray := prog_1_method_13_code
abbrev yC_like : MethodName := ⟨"CoverTrees", "like", "(I)I"⟩
abbrev kC_like : Cond := .code yC_like cC_like 2 (some .int)
abbrev wsC_like : List Cond := kC_like :: wB
theorem dC_like_0 : decode cC_like 0 = .ok (.aload_n 0, 1) := by decide +kernel
theorem dC_like_1 : decode cC_like 1 = .ok (.getfield 21, 3) := by decide +kernel
theorem dC_like_4 : decode cC_like 4 = .ok (.iload_n 1, 1) := by decide +kernel
theorem dC_like_5 : decode cC_like 5 = .ok (.invokevirtual 83, 3) := by decide +kernel
theorem dC_like_8 : decode cC_like 8 = .ok (.ifCond .ne 13, 3) := by decide +kernel
theorem dC_like_11 : decode cC_like 11 = .ok (.new 35, 3) := by decide +kernel
theorem dC_like_14 : decode cC_like 14 = .ok (.dup, 1) := by decide +kernel
theorem dC_like_15 : decode cC_like 15 = .ok (.ldc 86, 2) := by decide +kernel
theorem dC_like_17 : decode cC_like 17 = .ok (.invokespecial 39, 3) := by decide +kernel
theorem dC_like_20 : decode cC_like 20 = .ok (.athrow, 1) := by decide +kernel
theorem dC_like_21 : decode cC_like 21 = .ok (.aload_n 0, 1) := by decide +kernel
theorem dC_like_22 : decode cC_like 22 = .ok (.getfield 21, 3) := by decide +kernel
theorem dC_like_25 : decode cC_like 25 = .ok (.getfield 134, 3) := by decide +kernel
theorem dC_like_28 : decode cC_like 28 = .ok (.iload_n 1, 1) := by decide +kernel
theorem dC_like_29 : decode cC_like 29 = .ok (.iaload, 1) := by decide +kernel
theorem dC_like_30 : decode cC_like 30 = .ok (.ireturn, 1) := by decide +kernel
abbrev cC_isGoal : ByteArray := prog_1_method_14_code
abbrev yC_isGoal : MethodName := ⟨"CoverTrees", "isGoal", "(I)Z"⟩
abbrev kC_isGoal : Cond := .code yC_isGoal cC_isGoal 1 (some .boolean)
abbrev wsC_isGoal : List Cond := kC_isGoal :: wB
theorem dC_isGoal_0 : decode cC_isGoal 0 = .ok (.iload_n 0, 1) := by decide +kernel
theorem dC_isGoal_1 : decode cC_isGoal 1 = .ok (.ifCond .lt 13, 3) := by decide +kernel
theorem dC_isGoal_4 : decode cC_isGoal 4 = .ok (.iload_n 0, 1) := by decide +kernel
theorem dC_isGoal_5 : decode cC_isGoal 5 = .ok (.bipush 8, 2) := by decide +kernel
theorem dC_isGoal_7 : decode cC_isGoal 7 = .ok (.if_icmp .ge 7, 3) := by decide +kernel
theorem dC_isGoal_10 : decode cC_isGoal 10 = .ok (.iconst 1, 1) := by decide +kernel
theorem dC_isGoal_11 : decode cC_isGoal 11 = .ok (.goto 4, 3) := by decide +kernel
theorem dC_isGoal_14 : decode cC_isGoal 14 = .ok (.iconst 0, 1) := by decide +kernel
theorem dC_isGoal_15 : decode cC_isGoal 15 = .ok (.ireturn, 1) := by decide +kernel
abbrev cC_place : ByteArray := prog_1_method_15_code
abbrev yC_place : MethodName := ⟨"CoverTrees", "place", "(II)I"⟩
abbrev kC_place : Cond := .code yC_place cC_place 2 (some .int)
abbrev wsC_place : List Cond := kC_place :: wB
theorem dC_place_0 : decode cC_place 0 = .ok (.iload_n 0, 1) := by decide +kernel
theorem dC_place_1 : decode cC_place 1 = .ok (.bipush 8, 2) := by decide +kernel
theorem dC_place_3 : decode cC_place 3 = .ok (.imul, 1) := by decide +kernel
theorem dC_place_4 : decode cC_place 4 = .ok (.iload_n 1, 1) := by decide +kernel
theorem dC_place_5 : decode cC_place 5 = .ok (.iadd, 1) := by decide +kernel
theorem dC_place_6 : decode cC_place 6 = .ok (.ireturn, 1) := by decide +kernel
abbrev cC_checkRuleCost : ByteArray := prog_1_method_16_code
abbrev yC_checkRuleCost : MethodName := ⟨"CoverTrees", "checkRuleCost", "(I)V"⟩
abbrev kC_checkRuleCost : Cond := .code yC_checkRuleCost cC_checkRuleCost 1 none
abbrev wsC_checkRuleCost : List Cond := kC_checkRuleCost :: wB
theorem dC_checkRuleCost_0 : decode cC_checkRuleCost 0 = .ok (.iload_n 0, 1) := by decide +kernel
theorem dC_checkRuleCost_1 : decode cC_checkRuleCost 1 = .ok (.ifCond .lt 9, 3) := by decide +kernel
theorem dC_checkRuleCost_4 : decode cC_checkRuleCost 4 = .ok (.iload_n 0, 1) := by decide +kernel
theorem dC_checkRuleCost_5 : decode cC_checkRuleCost 5 = .ok (.bipush 20, 2) := by decide +kernel
theorem dC_checkRuleCost_7 : decode cC_checkRuleCost 7 = .ok (.if_icmp .le 13, 3) := by decide +kernel
theorem dC_checkRuleCost_10 : decode cC_checkRuleCost 10 = .ok (.new 35, 3) := by decide +kernel
theorem dC_checkRuleCost_13 : decode cC_checkRuleCost 13 = .ok (.dup, 1) := by decide +kernel
theorem dC_checkRuleCost_14 : decode cC_checkRuleCost 14 = .ok (.ldc 137, 2) := by decide +kernel
theorem dC_checkRuleCost_16 : decode cC_checkRuleCost 16 = .ok (.invokespecial 39, 3) := by decide +kernel
theorem dC_checkRuleCost_19 : decode cC_checkRuleCost 19 = .ok (.athrow, 1) := by decide +kernel
theorem dC_checkRuleCost_20 : decode cC_checkRuleCost 20 = .ok (.return_, 1) := by decide +kernel
abbrev cC_checkRoomForRule : ByteArray := prog_1_method_17_code
abbrev yC_checkRoomForRule : MethodName := ⟨"CoverTrees", "checkRoomForRule", "()V"⟩
abbrev kC_checkRoomForRule : Cond := .code yC_checkRoomForRule cC_checkRoomForRule 1 none
abbrev wsC_checkRoomForRule : List Cond := kC_checkRoomForRule :: wB
theorem dC_checkRoomForRule_0 : decode cC_checkRoomForRule 0 = .ok (.aload_n 0, 1) := by decide +kernel
theorem dC_checkRoomForRule_1 : decode cC_checkRoomForRule 1 = .ok (.getfield 12, 3) := by decide +kernel
theorem dC_checkRoomForRule_4 : decode cC_checkRoomForRule 4 = .ok (.getfield 29, 3) := by decide +kernel
theorem dC_checkRoomForRule_7 : decode cC_checkRoomForRule 7 = .ok (.bipush 40, 2) := by decide +kernel
theorem dC_checkRoomForRule_9 : decode cC_checkRoomForRule 9 = .ok (.if_icmp .lt 13, 3) := by decide +kernel
theorem dC_checkRoomForRule_12 : decode cC_checkRoomForRule 12 = .ok (.new 42, 3) := by decide +kernel
theorem dC_checkRoomForRule_15 : decode cC_checkRoomForRule 15 = .ok (.dup, 1) := by decide +kernel
theorem dC_checkRoomForRule_16 : decode cC_checkRoomForRule 16 = .ok (.ldc 139, 2) := by decide +kernel
theorem dC_checkRoomForRule_18 : decode cC_checkRoomForRule 18 = .ok (.invokespecial 46, 3) := by decide +kernel
theorem dC_checkRoomForRule_21 : decode cC_checkRoomForRule 21 = .ok (.athrow, 1) := by decide +kernel
theorem dC_checkRoomForRule_22 : decode cC_checkRoomForRule 22 = .ok (.return_, 1) := by decide +kernel
abbrev cC_checkPlace : ByteArray := prog_1_method_18_code
abbrev yC_checkPlace : MethodName := ⟨"CoverTrees", "checkPlace", "(II)V"⟩
abbrev kC_checkPlace : Cond := .code yC_checkPlace cC_checkPlace 3 none
abbrev wsC_checkPlace : List Cond := kC_checkPlace :: wB
theorem dC_checkPlace_0 : decode cC_checkPlace 0 = .ok (.aload_n 0, 1) := by decide +kernel
theorem dC_checkPlace_1 : decode cC_checkPlace 1 = .ok (.getfield 21, 3) := by decide +kernel
theorem dC_checkPlace_4 : decode cC_checkPlace 4 = .ok (.iload_n 1, 1) := by decide +kernel
theorem dC_checkPlace_5 : decode cC_checkPlace 5 = .ok (.invokevirtual 83, 3) := by decide +kernel
theorem dC_checkPlace_8 : decode cC_checkPlace 8 = .ok (.ifCond .eq 10, 3) := by decide +kernel
theorem dC_checkPlace_11 : decode cC_checkPlace 11 = .ok (.iload_n 2, 1) := by decide +kernel
theorem dC_checkPlace_12 : decode cC_checkPlace 12 = .ok (.invokestatic 51, 3) := by decide +kernel
theorem dC_checkPlace_15 : decode cC_checkPlace 15 = .ok (.ifCond .ne 13, 3) := by decide +kernel
theorem dC_checkPlace_18 : decode cC_checkPlace 18 = .ok (.new 35, 3) := by decide +kernel
theorem dC_checkPlace_21 : decode cC_checkPlace 21 = .ok (.dup, 1) := by decide +kernel
theorem dC_checkPlace_22 : decode cC_checkPlace 22 = .ok (.ldc 141, 2) := by decide +kernel
theorem dC_checkPlace_24 : decode cC_checkPlace 24 = .ok (.invokespecial 39, 3) := by decide +kernel
theorem dC_checkPlace_27 : decode cC_checkPlace 27 = .ok (.athrow, 1) := by decide +kernel
theorem dC_checkPlace_28 : decode cC_checkPlace 28 = .ok (.return_, 1) := by decide +kernel
abbrev cC_coverSize : ByteArray := prog_1_method_19_code
abbrev yC_coverSize : MethodName := ⟨"CoverTrees", "coverSize", "(II)I"⟩
abbrev kC_coverSize : Cond := .code yC_coverSize cC_coverSize 4 (some .int)
abbrev wsC_coverSize : List Cond := kC_coverSize :: wB
theorem dC_coverSize_0 : decode cC_coverSize 0 = .ok (.aload_n 0, 1) := by decide +kernel
theorem dC_coverSize_1 : decode cC_coverSize 1 = .ok (.getfield 21, 3) := by decide +kernel
theorem dC_coverSize_4 : decode cC_coverSize 4 = .ok (.getfield 143, 3) := by decide +kernel
theorem dC_coverSize_7 : decode cC_coverSize 7 = .ok (.iload_n 1, 1) := by decide +kernel
theorem dC_coverSize_8 : decode cC_coverSize 8 = .ok (.iload_n 2, 1) := by decide +kernel
theorem dC_coverSize_9 : decode cC_coverSize 9 = .ok (.invokestatic 111, 3) := by decide +kernel
theorem dC_coverSize_12 : decode cC_coverSize 12 = .ok (.iaload, 1) := by decide +kernel
theorem dC_coverSize_13 : decode cC_coverSize 13 = .ok (.istore_n 3, 1) := by decide +kernel
theorem dC_coverSize_14 : decode cC_coverSize 14 = .ok (.iload_n 3, 1) := by decide +kernel
theorem dC_coverSize_15 : decode cC_coverSize 15 = .ok (.sipush 2000, 3) := by decide +kernel
theorem dC_coverSize_18 : decode cC_coverSize 18 = .ok (.if_icmp .le 13, 3) := by decide +kernel
theorem dC_coverSize_21 : decode cC_coverSize 21 = .ok (.new 42, 3) := by decide +kernel
theorem dC_coverSize_24 : decode cC_coverSize 24 = .ok (.dup, 1) := by decide +kernel
theorem dC_coverSize_25 : decode cC_coverSize 25 = .ok (.ldc 146, 2) := by decide +kernel
theorem dC_coverSize_27 : decode cC_coverSize 27 = .ok (.invokespecial 46, 3) := by decide +kernel
theorem dC_coverSize_30 : decode cC_coverSize 30 = .ok (.athrow, 1) := by decide +kernel
theorem dC_coverSize_31 : decode cC_coverSize 31 = .ok (.iload_n 3, 1) := by decide +kernel
theorem dC_coverSize_32 : decode cC_coverSize 32 = .ok (.ireturn, 1) := by decide +kernel
abbrev cG_hasOperator : ByteArray := prog_3_method_2_code
abbrev yG_hasOperator : MethodName := ⟨"CoverTrees$Grammar", "hasOperator", "(I)Z"⟩
abbrev kG_hasOperator : Cond := .code yG_hasOperator cG_hasOperator 2 (some .boolean)
abbrev wsG_hasOperator : List Cond := kG_hasOperator :: wB
theorem dG_hasOperator_0 : decode cG_hasOperator 0 = .ok (.iload_n 1, 1) := by decide +kernel
theorem dG_hasOperator_1 : decode cG_hasOperator 1 = .ok (.ifCond .lt 15, 3) := by decide +kernel
theorem dG_hasOperator_4 : decode cG_hasOperator 4 = .ok (.iload_n 1, 1) := by decide +kernel
theorem dG_hasOperator_5 : decode cG_hasOperator 5 = .ok (.aload_n 0, 1) := by decide +kernel
theorem dG_hasOperator_6 : decode cG_hasOperator 6 = .ok (.getfield 30, 3) := by decide +kernel
theorem dG_hasOperator_9 : decode cG_hasOperator 9 = .ok (.if_icmp .ge 7, 3) := by decide +kernel
theorem dG_hasOperator_12 : decode cG_hasOperator 12 = .ok (.iconst 1, 1) := by decide +kernel
theorem dG_hasOperator_13 : decode cG_hasOperator 13 = .ok (.goto 4, 3) := by decide +kernel
theorem dG_hasOperator_16 : decode cG_hasOperator 16 = .ok (.iconst 0, 1) := by decide +kernel
theorem dG_hasOperator_17 : decode cG_hasOperator 17 = .ok (.ireturn, 1) := by decide +kernel
abbrev cG_addOperator : ByteArray := prog_3_method_3_code
abbrev yG_addOperator : MethodName := ⟨"CoverTrees$Grammar", "addOperator", "(I)I"⟩
abbrev kG_addOperator : Cond := .code yG_addOperator cG_addOperator 3 (some .int)
abbrev wsG_addOperator : List Cond := kG_addOperator :: wB
theorem dG_addOperator_0 : decode cG_addOperator 0 = .ok (.aload_n 0, 1) := by decide +kernel
theorem dG_addOperator_1 : decode cG_addOperator 1 = .ok (.getfield 30, 3) := by decide +kernel
theorem dG_addOperator_4 : decode cG_addOperator 4 = .ok (.istore_n 2, 1) := by decide +kernel
theorem dG_addOperator_5 : decode cG_addOperator 5 = .ok (.aload_n 0, 1) := by decide +kernel
theorem dG_addOperator_6 : decode cG_addOperator 6 = .ok (.getfield 9, 3) := by decide +kernel
theorem dG_addOperator_9 : decode cG_addOperator 9 = .ok (.iload_n 2, 1) := by decide +kernel
theorem dG_addOperator_10 : decode cG_addOperator 10 = .ok (.iload_n 1, 1) := by decide +kernel
theorem dG_addOperator_11 : decode cG_addOperator 11 = .ok (.iastore, 1) := by decide +kernel
theorem dG_addOperator_12 : decode cG_addOperator 12 = .ok (.aload_n 0, 1) := by decide +kernel
theorem dG_addOperator_13 : decode cG_addOperator 13 = .ok (.iload_n 2, 1) := by decide +kernel
theorem dG_addOperator_14 : decode cG_addOperator 14 = .ok (.iconst 1, 1) := by decide +kernel
theorem dG_addOperator_15 : decode cG_addOperator 15 = .ok (.iadd, 1) := by decide +kernel
theorem dG_addOperator_16 : decode cG_addOperator 16 = .ok (.putfield 30, 3) := by decide +kernel
theorem dG_addOperator_19 : decode cG_addOperator 19 = .ok (.iload_n 2, 1) := by decide +kernel
theorem dG_addOperator_20 : decode cG_addOperator 20 = .ok (.ireturn, 1) := by decide +kernel
abbrev cG_addRule : ByteArray := prog_3_method_4_code
abbrev yG_addRule : MethodName := ⟨"CoverTrees$Grammar", "addRule", "(IIIII)I"⟩
abbrev kG_addRule : Cond := .code yG_addRule cG_addRule 7 (some .int)
abbrev wsG_addRule : List Cond := kG_addRule :: wB
theorem dG_addRule_0 : decode cG_addRule 0 = .ok (.aload_n 0, 1) := by decide +kernel
theorem dG_addRule_1 : decode cG_addRule 1 = .ok (.getfield 34, 3) := by decide +kernel
theorem dG_addRule_4 : decode cG_addRule 4 = .ok (.istore 6, 2) := by decide +kernel
theorem dG_addRule_6 : decode cG_addRule 6 = .ok (.aload_n 0, 1) := by decide +kernel
theorem dG_addRule_7 : decode cG_addRule 7 = .ok (.getfield 15, 3) := by decide +kernel
theorem dG_addRule_10 : decode cG_addRule 10 = .ok (.iload 6, 2) := by decide +kernel
theorem dG_addRule_12 : decode cG_addRule 12 = .ok (.iload_n 1, 1) := by decide +kernel
theorem dG_addRule_13 : decode cG_addRule 13 = .ok (.iastore, 1) := by decide +kernel
theorem dG_addRule_14 : decode cG_addRule 14 = .ok (.aload_n 0, 1) := by decide +kernel
theorem dG_addRule_15 : decode cG_addRule 15 = .ok (.getfield 18, 3) := by decide +kernel
theorem dG_addRule_18 : decode cG_addRule 18 = .ok (.iload 6, 2) := by decide +kernel
theorem dG_addRule_20 : decode cG_addRule 20 = .ok (.iload_n 2, 1) := by decide +kernel
theorem dG_addRule_21 : decode cG_addRule 21 = .ok (.iastore, 1) := by decide +kernel
theorem dG_addRule_22 : decode cG_addRule 22 = .ok (.aload_n 0, 1) := by decide +kernel
theorem dG_addRule_23 : decode cG_addRule 23 = .ok (.getfield 21, 3) := by decide +kernel
theorem dG_addRule_26 : decode cG_addRule 26 = .ok (.iload 6, 2) := by decide +kernel
theorem dG_addRule_28 : decode cG_addRule 28 = .ok (.iload_n 3, 1) := by decide +kernel
theorem dG_addRule_29 : decode cG_addRule 29 = .ok (.iastore, 1) := by decide +kernel
theorem dG_addRule_30 : decode cG_addRule 30 = .ok (.aload_n 0, 1) := by decide +kernel
theorem dG_addRule_31 : decode cG_addRule 31 = .ok (.getfield 24, 3) := by decide +kernel
theorem dG_addRule_34 : decode cG_addRule 34 = .ok (.iload 6, 2) := by decide +kernel
theorem dG_addRule_36 : decode cG_addRule 36 = .ok (.iload 4, 2) := by decide +kernel
theorem dG_addRule_38 : decode cG_addRule 38 = .ok (.iastore, 1) := by decide +kernel
theorem dG_addRule_39 : decode cG_addRule 39 = .ok (.aload_n 0, 1) := by decide +kernel
theorem dG_addRule_40 : decode cG_addRule 40 = .ok (.getfield 27, 3) := by decide +kernel
theorem dG_addRule_43 : decode cG_addRule 43 = .ok (.iload 6, 2) := by decide +kernel
theorem dG_addRule_45 : decode cG_addRule 45 = .ok (.iload 5, 2) := by decide +kernel
theorem dG_addRule_47 : decode cG_addRule 47 = .ok (.iastore, 1) := by decide +kernel
theorem dG_addRule_48 : decode cG_addRule 48 = .ok (.aload_n 0, 1) := by decide +kernel
theorem dG_addRule_49 : decode cG_addRule 49 = .ok (.iload 6, 2) := by decide +kernel
theorem dG_addRule_51 : decode cG_addRule 51 = .ok (.iconst 1, 1) := by decide +kernel
theorem dG_addRule_52 : decode cG_addRule 52 = .ok (.iadd, 1) := by decide +kernel
theorem dG_addRule_53 : decode cG_addRule 53 = .ok (.putfield 34, 3) := by decide +kernel
theorem dG_addRule_56 : decode cG_addRule 56 = .ok (.iload 6, 2) := by decide +kernel
theorem dG_addRule_58 : decode cG_addRule 58 = .ok (.ireturn, 1) := by decide +kernel
abbrev cG_isChainFrom : ByteArray := prog_3_method_5_code
abbrev yG_isChainFrom : MethodName := ⟨"CoverTrees$Grammar", "isChainFrom", "(II)Z"⟩
abbrev kG_isChainFrom : Cond := .code yG_isChainFrom cG_isChainFrom 3 (some .boolean)
abbrev wsG_isChainFrom : List Cond := kG_isChainFrom :: wB
theorem dG_isChainFrom_0 : decode cG_isChainFrom 0 = .ok (.aload_n 0, 1) := by decide +kernel
theorem dG_isChainFrom_1 : decode cG_isChainFrom 1 = .ok (.getfield 18, 3) := by decide +kernel
theorem dG_isChainFrom_4 : decode cG_isChainFrom 4 = .ok (.iload_n 1, 1) := by decide +kernel
theorem dG_isChainFrom_5 : decode cG_isChainFrom 5 = .ok (.iaload, 1) := by decide +kernel
theorem dG_isChainFrom_6 : decode cG_isChainFrom 6 = .ok (.iconst (-1), 1) := by decide +kernel
theorem dG_isChainFrom_7 : decode cG_isChainFrom 7 = .ok (.if_icmp .ne 17, 3) := by decide +kernel
theorem dG_isChainFrom_10 : decode cG_isChainFrom 10 = .ok (.aload_n 0, 1) := by decide +kernel
theorem dG_isChainFrom_11 : decode cG_isChainFrom 11 = .ok (.getfield 21, 3) := by decide +kernel
theorem dG_isChainFrom_14 : decode cG_isChainFrom 14 = .ok (.iload_n 1, 1) := by decide +kernel
theorem dG_isChainFrom_15 : decode cG_isChainFrom 15 = .ok (.iaload, 1) := by decide +kernel
theorem dG_isChainFrom_16 : decode cG_isChainFrom 16 = .ok (.iload_n 2, 1) := by decide +kernel
theorem dG_isChainFrom_17 : decode cG_isChainFrom 17 = .ok (.if_icmp .ne 7, 3) := by decide +kernel
theorem dG_isChainFrom_20 : decode cG_isChainFrom 20 = .ok (.iconst 1, 1) := by decide +kernel
theorem dG_isChainFrom_21 : decode cG_isChainFrom 21 = .ok (.goto 4, 3) := by decide +kernel
theorem dG_isChainFrom_24 : decode cG_isChainFrom 24 = .ok (.iconst 0, 1) := by decide +kernel
theorem dG_isChainFrom_25 : decode cG_isChainFrom 25 = .ok (.ireturn, 1) := by decide +kernel
abbrev cF_has : ByteArray := prog_2_method_2_code
abbrev yF_has : MethodName := ⟨"CoverTrees$Forest", "has", "(I)Z"⟩
abbrev kF_has : Cond := .code yF_has cF_has 2 (some .boolean)
abbrev wsF_has : List Cond := kF_has :: wB
theorem dF_has_0 : decode cF_has 0 = .ok (.iload_n 1, 1) := by decide +kernel
theorem dF_has_1 : decode cF_has 1 = .ok (.ifCond .lt 15, 3) := by decide +kernel
theorem dF_has_4 : decode cF_has 4 = .ok (.iload_n 1, 1) := by decide +kernel
theorem dF_has_5 : decode cF_has 5 = .ok (.aload_n 0, 1) := by decide +kernel
theorem dF_has_6 : decode cF_has 6 = .ok (.getfield 44, 3) := by decide +kernel
theorem dF_has_9 : decode cF_has 9 = .ok (.if_icmp .ge 7, 3) := by decide +kernel
theorem dF_has_12 : decode cF_has 12 = .ok (.iconst 1, 1) := by decide +kernel
theorem dF_has_13 : decode cF_has 13 = .ok (.goto 4, 3) := by decide +kernel
theorem dF_has_16 : decode cF_has 16 = .ok (.iconst 0, 1) := by decide +kernel
theorem dF_has_17 : decode cF_has 17 = .ok (.ireturn, 1) := by decide +kernel
abbrev cF_draft : ByteArray := prog_2_method_3_code
abbrev yF_draft : MethodName := ⟨"CoverTrees$Forest", "draft", "(III)V"⟩
abbrev kF_draft : Cond := .code yF_draft cF_draft 4 none
abbrev wsF_draft : List Cond := kF_draft :: wB
theorem dF_draft_0 : decode cF_draft 0 = .ok (.aload_n 0, 1) := by decide +kernel
theorem dF_draft_1 : decode cF_draft 1 = .ok (.getfield 9, 3) := by decide +kernel
theorem dF_draft_4 : decode cF_draft 4 = .ok (.aload_n 0, 1) := by decide +kernel
theorem dF_draft_5 : decode cF_draft 5 = .ok (.getfield 44, 3) := by decide +kernel
theorem dF_draft_8 : decode cF_draft 8 = .ok (.iload_n 1, 1) := by decide +kernel
theorem dF_draft_9 : decode cF_draft 9 = .ok (.iastore, 1) := by decide +kernel
theorem dF_draft_10 : decode cF_draft 10 = .ok (.aload_n 0, 1) := by decide +kernel
theorem dF_draft_11 : decode cF_draft 11 = .ok (.getfield 15, 3) := by decide +kernel
theorem dF_draft_14 : decode cF_draft 14 = .ok (.aload_n 0, 1) := by decide +kernel
theorem dF_draft_15 : decode cF_draft 15 = .ok (.getfield 44, 3) := by decide +kernel
theorem dF_draft_18 : decode cF_draft 18 = .ok (.iload_n 2, 1) := by decide +kernel
theorem dF_draft_19 : decode cF_draft 19 = .ok (.iastore, 1) := by decide +kernel
theorem dF_draft_20 : decode cF_draft 20 = .ok (.aload_n 0, 1) := by decide +kernel
theorem dF_draft_21 : decode cF_draft 21 = .ok (.getfield 18, 3) := by decide +kernel
theorem dF_draft_24 : decode cF_draft 24 = .ok (.aload_n 0, 1) := by decide +kernel
theorem dF_draft_25 : decode cF_draft 25 = .ok (.getfield 44, 3) := by decide +kernel
theorem dF_draft_28 : decode cF_draft 28 = .ok (.iload_n 3, 1) := by decide +kernel
theorem dF_draft_29 : decode cF_draft 29 = .ok (.iastore, 1) := by decide +kernel
theorem dF_draft_30 : decode cF_draft 30 = .ok (.aload_n 0, 1) := by decide +kernel
theorem dF_draft_31 : decode cF_draft 31 = .ok (.invokevirtual 48, 3) := by decide +kernel
theorem dF_draft_34 : decode cF_draft 34 = .ok (.aload_n 0, 1) := by decide +kernel
theorem dF_draft_35 : decode cF_draft 35 = .ok (.invokevirtual 51, 3) := by decide +kernel
theorem dF_draft_38 : decode cF_draft 38 = .ok (.aload_n 0, 1) := by decide +kernel
theorem dF_draft_39 : decode cF_draft 39 = .ok (.invokevirtual 54, 3) := by decide +kernel
theorem dF_draft_42 : decode cF_draft 42 = .ok (.return_, 1) := by decide +kernel
abbrev cF_draftIsTooDear : ByteArray := prog_2_method_4_code
abbrev yF_draftIsTooDear : MethodName := ⟨"CoverTrees$Forest", "draftIsTooDear", "()Z"⟩
abbrev kF_draftIsTooDear : Cond := .code yF_draftIsTooDear cF_draftIsTooDear 2 (some .boolean)
abbrev wsF_draftIsTooDear : List Cond := kF_draftIsTooDear :: wB
theorem dF_draftIsTooDear_0 : decode cF_draftIsTooDear 0 = .ok (.iconst 0, 1) := by decide +kernel
theorem dF_draftIsTooDear_1 : decode cF_draftIsTooDear 1 = .ok (.istore_n 1, 1) := by decide +kernel
theorem dF_draftIsTooDear_2 : decode cF_draftIsTooDear 2 = .ok (.iload_n 1, 1) := by decide +kernel
theorem dF_draftIsTooDear_3 : decode cF_draftIsTooDear 3 = .ok (.bipush 8, 2) := by decide +kernel
theorem dF_draftIsTooDear_5 : decode cF_draftIsTooDear 5 = .ok (.if_icmp .ge 29, 3) := by decide +kernel
theorem dF_draftIsTooDear_8 : decode cF_draftIsTooDear 8 = .ok (.aload_n 0, 1) := by decide +kernel
theorem dF_draftIsTooDear_9 : decode cF_draftIsTooDear 9 = .ok (.getfield 27, 3) := by decide +kernel
theorem dF_draftIsTooDear_12 : decode cF_draftIsTooDear 12 = .ok (.aload_n 0, 1) := by decide +kernel
theorem dF_draftIsTooDear_13 : decode cF_draftIsTooDear 13 = .ok (.getfield 44, 3) := by decide +kernel
theorem dF_draftIsTooDear_16 : decode cF_draftIsTooDear 16 = .ok (.iload_n 1, 1) := by decide +kernel
theorem dF_draftIsTooDear_17 : decode cF_draftIsTooDear 17 = .ok (.invokestatic 57, 3) := by decide +kernel
theorem dF_draftIsTooDear_20 : decode cF_draftIsTooDear 20 = .ok (.iaload, 1) := by decide +kernel
theorem dF_draftIsTooDear_21 : decode cF_draftIsTooDear 21 = .ok (.ldc 61, 2) := by decide +kernel
theorem dF_draftIsTooDear_23 : decode cF_draftIsTooDear 23 = .ok (.if_icmp .le 5, 3) := by decide +kernel
theorem dF_draftIsTooDear_26 : decode cF_draftIsTooDear 26 = .ok (.iconst 1, 1) := by decide +kernel
theorem dF_draftIsTooDear_27 : decode cF_draftIsTooDear 27 = .ok (.ireturn, 1) := by decide +kernel
theorem dF_draftIsTooDear_28 : decode cF_draftIsTooDear 28 = .ok (.iinc 1 1, 3) := by decide +kernel
theorem dF_draftIsTooDear_31 : decode cF_draftIsTooDear 31 = .ok (.goto (-29), 3) := by decide +kernel
theorem dF_draftIsTooDear_34 : decode cF_draftIsTooDear 34 = .ok (.iconst 0, 1) := by decide +kernel
theorem dF_draftIsTooDear_35 : decode cF_draftIsTooDear 35 = .ok (.ireturn, 1) := by decide +kernel
abbrev cF_keepDraft : ByteArray := prog_2_method_5_code
abbrev yF_keepDraft : MethodName := ⟨"CoverTrees$Forest", "keepDraft", "()I"⟩
abbrev kF_keepDraft : Cond := .code yF_keepDraft cF_keepDraft 2 (some .int)
abbrev wsF_keepDraft : List Cond := kF_keepDraft :: wB
theorem dF_keepDraft_0 : decode cF_keepDraft 0 = .ok (.aload_n 0, 1) := by decide +kernel
theorem dF_keepDraft_1 : decode cF_keepDraft 1 = .ok (.getfield 44, 3) := by decide +kernel
theorem dF_keepDraft_4 : decode cF_keepDraft 4 = .ok (.istore_n 1, 1) := by decide +kernel
theorem dF_keepDraft_5 : decode cF_keepDraft 5 = .ok (.aload_n 0, 1) := by decide +kernel
theorem dF_keepDraft_6 : decode cF_keepDraft 6 = .ok (.getfield 24, 3) := by decide +kernel
theorem dF_keepDraft_9 : decode cF_keepDraft 9 = .ok (.iload_n 1, 1) := by decide +kernel
theorem dF_keepDraft_10 : decode cF_keepDraft 10 = .ok (.aload_n 0, 1) := by decide +kernel
theorem dF_keepDraft_11 : decode cF_keepDraft 11 = .ok (.iload_n 1, 1) := by decide +kernel
theorem dF_keepDraft_12 : decode cF_keepDraft 12 = .ok (.invokevirtual 62, 3) := by decide +kernel
theorem dF_keepDraft_15 : decode cF_keepDraft 15 = .ok (.iastore, 1) := by decide +kernel
theorem dF_keepDraft_16 : decode cF_keepDraft 16 = .ok (.aload_n 0, 1) := by decide +kernel
theorem dF_keepDraft_17 : decode cF_keepDraft 17 = .ok (.iload_n 1, 1) := by decide +kernel
theorem dF_keepDraft_18 : decode cF_keepDraft 18 = .ok (.iconst 1, 1) := by decide +kernel
theorem dF_keepDraft_19 : decode cF_keepDraft 19 = .ok (.iadd, 1) := by decide +kernel
theorem dF_keepDraft_20 : decode cF_keepDraft 20 = .ok (.putfield 44, 3) := by decide +kernel
theorem dF_keepDraft_23 : decode cF_keepDraft 23 = .ok (.iload_n 1, 1) := by decide +kernel
theorem dF_keepDraft_24 : decode cF_keepDraft 24 = .ok (.ireturn, 1) := by decide +kernel
abbrev cF_blankDraft : ByteArray := prog_2_method_6_code
abbrev yF_blankDraft : MethodName := ⟨"CoverTrees$Forest", "blankDraft", "()V"⟩
abbrev kF_blankDraft : Cond := .code yF_blankDraft cF_blankDraft 3 none
abbrev wsF_blankDraft : List Cond := kF_blankDraft :: wB
theorem dF_blankDraft_0 : decode cF_blankDraft 0 = .ok (.aload_n 0, 1) := by decide +kernel
theorem dF_blankDraft_1 : decode cF_blankDraft 1 = .ok (.getfield 21, 3) := by decide +kernel
theorem dF_blankDraft_4 : decode cF_blankDraft 4 = .ok (.aload_n 0, 1) := by decide +kernel
theorem dF_blankDraft_5 : decode cF_blankDraft 5 = .ok (.getfield 44, 3) := by decide +kernel
theorem dF_blankDraft_8 : decode cF_blankDraft 8 = .ok (.iconst (-1), 1) := by decide +kernel
theorem dF_blankDraft_9 : decode cF_blankDraft 9 = .ok (.iastore, 1) := by decide +kernel
theorem dF_blankDraft_10 : decode cF_blankDraft 10 = .ok (.iconst 0, 1) := by decide +kernel
theorem dF_blankDraft_11 : decode cF_blankDraft 11 = .ok (.istore_n 1, 1) := by decide +kernel
theorem dF_blankDraft_12 : decode cF_blankDraft 12 = .ok (.iload_n 1, 1) := by decide +kernel
theorem dF_blankDraft_13 : decode cF_blankDraft 13 = .ok (.bipush 8, 2) := by decide +kernel
theorem dF_blankDraft_15 : decode cF_blankDraft 15 = .ok (.if_icmp .ge 46, 3) := by decide +kernel
theorem dF_blankDraft_18 : decode cF_blankDraft 18 = .ok (.aload_n 0, 1) := by decide +kernel
theorem dF_blankDraft_19 : decode cF_blankDraft 19 = .ok (.getfield 44, 3) := by decide +kernel
theorem dF_blankDraft_22 : decode cF_blankDraft 22 = .ok (.iload_n 1, 1) := by decide +kernel
theorem dF_blankDraft_23 : decode cF_blankDraft 23 = .ok (.invokestatic 57, 3) := by decide +kernel
theorem dF_blankDraft_26 : decode cF_blankDraft 26 = .ok (.istore_n 2, 1) := by decide +kernel
theorem dF_blankDraft_27 : decode cF_blankDraft 27 = .ok (.aload_n 0, 1) := by decide +kernel
theorem dF_blankDraft_28 : decode cF_blankDraft 28 = .ok (.getfield 27, 3) := by decide +kernel
theorem dF_blankDraft_31 : decode cF_blankDraft 31 = .ok (.iload_n 2, 1) := by decide +kernel
theorem dF_blankDraft_32 : decode cF_blankDraft 32 = .ok (.iconst (-1), 1) := by decide +kernel
theorem dF_blankDraft_33 : decode cF_blankDraft 33 = .ok (.iastore, 1) := by decide +kernel
theorem dF_blankDraft_34 : decode cF_blankDraft 34 = .ok (.aload_n 0, 1) := by decide +kernel
theorem dF_blankDraft_35 : decode cF_blankDraft 35 = .ok (.getfield 30, 3) := by decide +kernel
theorem dF_blankDraft_38 : decode cF_blankDraft 38 = .ok (.iload_n 2, 1) := by decide +kernel
theorem dF_blankDraft_39 : decode cF_blankDraft 39 = .ok (.iconst (-1), 1) := by decide +kernel
theorem dF_blankDraft_40 : decode cF_blankDraft 40 = .ok (.iastore, 1) := by decide +kernel
theorem dF_blankDraft_41 : decode cF_blankDraft 41 = .ok (.aload_n 0, 1) := by decide +kernel
theorem dF_blankDraft_42 : decode cF_blankDraft 42 = .ok (.getfield 33, 3) := by decide +kernel
theorem dF_blankDraft_45 : decode cF_blankDraft 45 = .ok (.iload_n 2, 1) := by decide +kernel
theorem dF_blankDraft_46 : decode cF_blankDraft 46 = .ok (.iconst (-1), 1) := by decide +kernel
theorem dF_blankDraft_47 : decode cF_blankDraft 47 = .ok (.iastore, 1) := by decide +kernel
theorem dF_blankDraft_48 : decode cF_blankDraft 48 = .ok (.aload_n 0, 1) := by decide +kernel
theorem dF_blankDraft_49 : decode cF_blankDraft 49 = .ok (.getfield 36, 3) := by decide +kernel
theorem dF_blankDraft_52 : decode cF_blankDraft 52 = .ok (.iload_n 1, 1) := by decide +kernel
theorem dF_blankDraft_53 : decode cF_blankDraft 53 = .ok (.iconst 0, 1) := by decide +kernel
theorem dF_blankDraft_54 : decode cF_blankDraft 54 = .ok (.bastore, 1) := by decide +kernel
theorem dF_blankDraft_55 : decode cF_blankDraft 55 = .ok (.iinc 1 1, 3) := by decide +kernel
theorem dF_blankDraft_58 : decode cF_blankDraft 58 = .ok (.goto (-46), 3) := by decide +kernel
theorem dF_blankDraft_61 : decode cF_blankDraft 61 = .ok (.return_, 1) := by decide +kernel
abbrev cF_applyBaseRules : ByteArray := prog_2_method_7_code
abbrev yF_applyBaseRules : MethodName := ⟨"CoverTrees$Forest", "applyBaseRules", "()V"⟩
abbrev kF_applyBaseRules : Cond := .code yF_applyBaseRules cF_applyBaseRules 2 none
abbrev wsF_applyBaseRules : List Cond := kF_applyBaseRules :: wB
theorem dF_applyBaseRules_0 : decode cF_applyBaseRules 0 = .ok (.iconst 0, 1) := by decide +kernel
theorem dF_applyBaseRules_1 : decode cF_applyBaseRules 1 = .ok (.istore_n 1, 1) := by decide +kernel
theorem dF_applyBaseRules_2 : decode cF_applyBaseRules 2 = .ok (.iload_n 1, 1) := by decide +kernel
theorem dF_applyBaseRules_3 : decode cF_applyBaseRules 3 = .ok (.aload_n 0, 1) := by decide +kernel
theorem dF_applyBaseRules_4 : decode cF_applyBaseRules 4 = .ok (.getfield 40, 3) := by decide +kernel
theorem dF_applyBaseRules_7 : decode cF_applyBaseRules 7 = .ok (.getfield 66, 3) := by decide +kernel
theorem dF_applyBaseRules_10 : decode cF_applyBaseRules 10 = .ok (.if_icmp .ge 40, 3) := by decide +kernel
theorem dF_applyBaseRules_13 : decode cF_applyBaseRules 13 = .ok (.aload_n 0, 1) := by decide +kernel
theorem dF_applyBaseRules_14 : decode cF_applyBaseRules 14 = .ok (.getfield 40, 3) := by decide +kernel
theorem dF_applyBaseRules_17 : decode cF_applyBaseRules 17 = .ok (.getfield 71, 3) := by decide +kernel
theorem dF_applyBaseRules_20 : decode cF_applyBaseRules 20 = .ok (.iload_n 1, 1) := by decide +kernel
theorem dF_applyBaseRules_21 : decode cF_applyBaseRules 21 = .ok (.iaload, 1) := by decide +kernel
theorem dF_applyBaseRules_22 : decode cF_applyBaseRules 22 = .ok (.aload_n 0, 1) := by decide +kernel
theorem dF_applyBaseRules_23 : decode cF_applyBaseRules 23 = .ok (.getfield 9, 3) := by decide +kernel
theorem dF_applyBaseRules_26 : decode cF_applyBaseRules 26 = .ok (.aload_n 0, 1) := by decide +kernel
theorem dF_applyBaseRules_27 : decode cF_applyBaseRules 27 = .ok (.getfield 44, 3) := by decide +kernel
theorem dF_applyBaseRules_30 : decode cF_applyBaseRules 30 = .ok (.iaload, 1) := by decide +kernel
theorem dF_applyBaseRules_31 : decode cF_applyBaseRules 31 = .ok (.if_icmp .ne 13, 3) := by decide +kernel
theorem dF_applyBaseRules_34 : decode cF_applyBaseRules 34 = .ok (.aload_n 0, 1) := by decide +kernel
theorem dF_applyBaseRules_35 : decode cF_applyBaseRules 35 = .ok (.iload_n 1, 1) := by decide +kernel
theorem dF_applyBaseRules_36 : decode cF_applyBaseRules 36 = .ok (.aload_n 0, 1) := by decide +kernel
theorem dF_applyBaseRules_37 : decode cF_applyBaseRules 37 = .ok (.iload_n 1, 1) := by decide +kernel
theorem dF_applyBaseRules_38 : decode cF_applyBaseRules 38 = .ok (.invokevirtual 72, 3) := by decide +kernel
theorem dF_applyBaseRules_41 : decode cF_applyBaseRules 41 = .ok (.invokevirtual 75, 3) := by decide +kernel
theorem dF_applyBaseRules_44 : decode cF_applyBaseRules 44 = .ok (.iinc 1 1, 3) := by decide +kernel
theorem dF_applyBaseRules_47 : decode cF_applyBaseRules 47 = .ok (.goto (-45), 3) := by decide +kernel
theorem dF_applyBaseRules_50 : decode cF_applyBaseRules 50 = .ok (.return_, 1) := by decide +kernel
abbrev cF_baseCost : ByteArray := prog_2_method_8_code
abbrev yF_baseCost : MethodName := ⟨"CoverTrees$Forest", "baseCost", "(I)I"⟩
abbrev kF_baseCost : Cond := .code yF_baseCost cF_baseCost 5 (some .int)
abbrev wsF_baseCost : List Cond := kF_baseCost :: wB
theorem dF_baseCost_0 : decode cF_baseCost 0 = .ok (.aload_n 0, 1) := by decide +kernel
theorem dF_baseCost_1 : decode cF_baseCost 1 = .ok (.getfield 40, 3) := by decide +kernel
theorem dF_baseCost_4 : decode cF_baseCost 4 = .ok (.getfield 79, 3) := by decide +kernel
theorem dF_baseCost_7 : decode cF_baseCost 7 = .ok (.aload_n 0, 1) := by decide +kernel
theorem dF_baseCost_8 : decode cF_baseCost 8 = .ok (.getfield 9, 3) := by decide +kernel
theorem dF_baseCost_11 : decode cF_baseCost 11 = .ok (.aload_n 0, 1) := by decide +kernel
theorem dF_baseCost_12 : decode cF_baseCost 12 = .ok (.getfield 44, 3) := by decide +kernel
theorem dF_baseCost_15 : decode cF_baseCost 15 = .ok (.iaload, 1) := by decide +kernel
theorem dF_baseCost_16 : decode cF_baseCost 16 = .ok (.iaload, 1) := by decide +kernel
theorem dF_baseCost_17 : decode cF_baseCost 17 = .ok (.istore_n 2, 1) := by decide +kernel
theorem dF_baseCost_18 : decode cF_baseCost 18 = .ok (.aload_n 0, 1) := by decide +kernel
theorem dF_baseCost_19 : decode cF_baseCost 19 = .ok (.getfield 40, 3) := by decide +kernel
theorem dF_baseCost_22 : decode cF_baseCost 22 = .ok (.getfield 82, 3) := by decide +kernel
theorem dF_baseCost_25 : decode cF_baseCost 25 = .ok (.iload_n 1, 1) := by decide +kernel
theorem dF_baseCost_26 : decode cF_baseCost 26 = .ok (.iaload, 1) := by decide +kernel
theorem dF_baseCost_27 : decode cF_baseCost 27 = .ok (.istore_n 3, 1) := by decide +kernel
theorem dF_baseCost_28 : decode cF_baseCost 28 = .ok (.iload_n 2, 1) := by decide +kernel
theorem dF_baseCost_29 : decode cF_baseCost 29 = .ok (.iconst 1, 1) := by decide +kernel
theorem dF_baseCost_30 : decode cF_baseCost 30 = .ok (.if_icmp .lt 44, 3) := by decide +kernel
theorem dF_baseCost_33 : decode cF_baseCost 33 = .ok (.aload_n 0, 1) := by decide +kernel
theorem dF_baseCost_34 : decode cF_baseCost 34 = .ok (.getfield 27, 3) := by decide +kernel
theorem dF_baseCost_37 : decode cF_baseCost 37 = .ok (.aload_n 0, 1) := by decide +kernel
theorem dF_baseCost_38 : decode cF_baseCost 38 = .ok (.getfield 15, 3) := by decide +kernel
theorem dF_baseCost_41 : decode cF_baseCost 41 = .ok (.aload_n 0, 1) := by decide +kernel
theorem dF_baseCost_42 : decode cF_baseCost 42 = .ok (.getfield 44, 3) := by decide +kernel
theorem dF_baseCost_45 : decode cF_baseCost 45 = .ok (.iaload, 1) := by decide +kernel
theorem dF_baseCost_46 : decode cF_baseCost 46 = .ok (.aload_n 0, 1) := by decide +kernel
theorem dF_baseCost_47 : decode cF_baseCost 47 = .ok (.getfield 40, 3) := by decide +kernel
theorem dF_baseCost_50 : decode cF_baseCost 50 = .ok (.getfield 83, 3) := by decide +kernel
theorem dF_baseCost_53 : decode cF_baseCost 53 = .ok (.iload_n 1, 1) := by decide +kernel
theorem dF_baseCost_54 : decode cF_baseCost 54 = .ok (.iaload, 1) := by decide +kernel
theorem dF_baseCost_55 : decode cF_baseCost 55 = .ok (.invokestatic 57, 3) := by decide +kernel
theorem dF_baseCost_58 : decode cF_baseCost 58 = .ok (.iaload, 1) := by decide +kernel
theorem dF_baseCost_59 : decode cF_baseCost 59 = .ok (.istore 4, 2) := by decide +kernel
theorem dF_baseCost_61 : decode cF_baseCost 61 = .ok (.iload 4, 2) := by decide +kernel
theorem dF_baseCost_63 : decode cF_baseCost 63 = .ok (.iconst (-1), 1) := by decide +kernel
theorem dF_baseCost_64 : decode cF_baseCost 64 = .ok (.if_icmp .ne 5, 3) := by decide +kernel
theorem dF_baseCost_67 : decode cF_baseCost 67 = .ok (.iconst (-1), 1) := by decide +kernel
theorem dF_baseCost_68 : decode cF_baseCost 68 = .ok (.ireturn, 1) := by decide +kernel
theorem dF_baseCost_69 : decode cF_baseCost 69 = .ok (.iload_n 3, 1) := by decide +kernel
theorem dF_baseCost_70 : decode cF_baseCost 70 = .ok (.iload 4, 2) := by decide +kernel
theorem dF_baseCost_72 : decode cF_baseCost 72 = .ok (.iadd, 1) := by decide +kernel
theorem dF_baseCost_73 : decode cF_baseCost 73 = .ok (.istore_n 3, 1) := by decide +kernel
theorem dF_baseCost_74 : decode cF_baseCost 74 = .ok (.iload_n 2, 1) := by decide +kernel
theorem dF_baseCost_75 : decode cF_baseCost 75 = .ok (.iconst 2, 1) := by decide +kernel
theorem dF_baseCost_76 : decode cF_baseCost 76 = .ok (.if_icmp .lt 44, 3) := by decide +kernel
theorem dF_baseCost_79 : decode cF_baseCost 79 = .ok (.aload_n 0, 1) := by decide +kernel
theorem dF_baseCost_80 : decode cF_baseCost 80 = .ok (.getfield 27, 3) := by decide +kernel
theorem dF_baseCost_83 : decode cF_baseCost 83 = .ok (.aload_n 0, 1) := by decide +kernel
theorem dF_baseCost_84 : decode cF_baseCost 84 = .ok (.getfield 18, 3) := by decide +kernel
theorem dF_baseCost_87 : decode cF_baseCost 87 = .ok (.aload_n 0, 1) := by decide +kernel
theorem dF_baseCost_88 : decode cF_baseCost 88 = .ok (.getfield 44, 3) := by decide +kernel
theorem dF_baseCost_91 : decode cF_baseCost 91 = .ok (.iaload, 1) := by decide +kernel
theorem dF_baseCost_92 : decode cF_baseCost 92 = .ok (.aload_n 0, 1) := by decide +kernel
theorem dF_baseCost_93 : decode cF_baseCost 93 = .ok (.getfield 40, 3) := by decide +kernel
theorem dF_baseCost_96 : decode cF_baseCost 96 = .ok (.getfield 84, 3) := by decide +kernel
theorem dF_baseCost_99 : decode cF_baseCost 99 = .ok (.iload_n 1, 1) := by decide +kernel
theorem dF_baseCost_100 : decode cF_baseCost 100 = .ok (.iaload, 1) := by decide +kernel
theorem dF_baseCost_101 : decode cF_baseCost 101 = .ok (.invokestatic 57, 3) := by decide +kernel
theorem dF_baseCost_104 : decode cF_baseCost 104 = .ok (.iaload, 1) := by decide +kernel
theorem dF_baseCost_105 : decode cF_baseCost 105 = .ok (.istore 4, 2) := by decide +kernel
theorem dF_baseCost_107 : decode cF_baseCost 107 = .ok (.iload 4, 2) := by decide +kernel
theorem dF_baseCost_109 : decode cF_baseCost 109 = .ok (.iconst (-1), 1) := by decide +kernel
theorem dF_baseCost_110 : decode cF_baseCost 110 = .ok (.if_icmp .ne 5, 3) := by decide +kernel
theorem dF_baseCost_113 : decode cF_baseCost 113 = .ok (.iconst (-1), 1) := by decide +kernel
theorem dF_baseCost_114 : decode cF_baseCost 114 = .ok (.ireturn, 1) := by decide +kernel
theorem dF_baseCost_115 : decode cF_baseCost 115 = .ok (.iload_n 3, 1) := by decide +kernel
theorem dF_baseCost_116 : decode cF_baseCost 116 = .ok (.iload 4, 2) := by decide +kernel
theorem dF_baseCost_118 : decode cF_baseCost 118 = .ok (.iadd, 1) := by decide +kernel
theorem dF_baseCost_119 : decode cF_baseCost 119 = .ok (.istore_n 3, 1) := by decide +kernel
theorem dF_baseCost_120 : decode cF_baseCost 120 = .ok (.iload_n 3, 1) := by decide +kernel
theorem dF_baseCost_121 : decode cF_baseCost 121 = .ok (.ireturn, 1) := by decide +kernel
abbrev cF_offer : ByteArray := prog_2_method_9_code
abbrev yF_offer : MethodName := ⟨"CoverTrees$Forest", "offer", "(II)V"⟩
abbrev kF_offer : Cond := .code yF_offer cF_offer 4 none
abbrev wsF_offer : List Cond := kF_offer :: wB
theorem dF_offer_0 : decode cF_offer 0 = .ok (.aload_n 0, 1) := by decide +kernel
theorem dF_offer_1 : decode cF_offer 1 = .ok (.getfield 44, 3) := by decide +kernel
theorem dF_offer_4 : decode cF_offer 4 = .ok (.aload_n 0, 1) := by decide +kernel
theorem dF_offer_5 : decode cF_offer 5 = .ok (.getfield 40, 3) := by decide +kernel
theorem dF_offer_8 : decode cF_offer 8 = .ok (.getfield 85, 3) := by decide +kernel
theorem dF_offer_11 : decode cF_offer 11 = .ok (.iload_n 1, 1) := by decide +kernel
theorem dF_offer_12 : decode cF_offer 12 = .ok (.iaload, 1) := by decide +kernel
theorem dF_offer_13 : decode cF_offer 13 = .ok (.invokestatic 57, 3) := by decide +kernel
theorem dF_offer_16 : decode cF_offer 16 = .ok (.istore_n 3, 1) := by decide +kernel
theorem dF_offer_17 : decode cF_offer 17 = .ok (.iload_n 2, 1) := by decide +kernel
theorem dF_offer_18 : decode cF_offer 18 = .ok (.iconst (-1), 1) := by decide +kernel
theorem dF_offer_19 : decode cF_offer 19 = .ok (.if_icmp .eq 37, 3) := by decide +kernel
theorem dF_offer_22 : decode cF_offer 22 = .ok (.aload_n 0, 1) := by decide +kernel
theorem dF_offer_23 : decode cF_offer 23 = .ok (.getfield 27, 3) := by decide +kernel
theorem dF_offer_26 : decode cF_offer 26 = .ok (.iload_n 3, 1) := by decide +kernel
theorem dF_offer_27 : decode cF_offer 27 = .ok (.iaload, 1) := by decide +kernel
theorem dF_offer_28 : decode cF_offer 28 = .ok (.iconst (-1), 1) := by decide +kernel
theorem dF_offer_29 : decode cF_offer 29 = .ok (.if_icmp .eq 13, 3) := by decide +kernel
theorem dF_offer_32 : decode cF_offer 32 = .ok (.iload_n 2, 1) := by decide +kernel
theorem dF_offer_33 : decode cF_offer 33 = .ok (.aload_n 0, 1) := by decide +kernel
theorem dF_offer_34 : decode cF_offer 34 = .ok (.getfield 27, 3) := by decide +kernel
theorem dF_offer_37 : decode cF_offer 37 = .ok (.iload_n 3, 1) := by decide +kernel
theorem dF_offer_38 : decode cF_offer 38 = .ok (.iaload, 1) := by decide +kernel
theorem dF_offer_39 : decode cF_offer 39 = .ok (.if_icmp .ge 17, 3) := by decide +kernel
theorem dF_offer_42 : decode cF_offer 42 = .ok (.aload_n 0, 1) := by decide +kernel
theorem dF_offer_43 : decode cF_offer 43 = .ok (.getfield 27, 3) := by decide +kernel
theorem dF_offer_46 : decode cF_offer 46 = .ok (.iload_n 3, 1) := by decide +kernel
theorem dF_offer_47 : decode cF_offer 47 = .ok (.iload_n 2, 1) := by decide +kernel
theorem dF_offer_48 : decode cF_offer 48 = .ok (.iastore, 1) := by decide +kernel
theorem dF_offer_49 : decode cF_offer 49 = .ok (.aload_n 0, 1) := by decide +kernel
theorem dF_offer_50 : decode cF_offer 50 = .ok (.getfield 30, 3) := by decide +kernel
theorem dF_offer_53 : decode cF_offer 53 = .ok (.iload_n 3, 1) := by decide +kernel
theorem dF_offer_54 : decode cF_offer 54 = .ok (.iload_n 1, 1) := by decide +kernel
theorem dF_offer_55 : decode cF_offer 55 = .ok (.iastore, 1) := by decide +kernel
theorem dF_offer_56 : decode cF_offer 56 = .ok (.return_, 1) := by decide +kernel
abbrev cF_settleGoals : ByteArray := prog_2_method_10_code
abbrev yF_settleGoals : MethodName := ⟨"CoverTrees$Forest", "settleGoals", "()V"⟩
abbrev kF_settleGoals : Cond := .code yF_settleGoals cF_settleGoals 3 none
abbrev wsF_settleGoals : List Cond := kF_settleGoals :: wB
theorem dF_settleGoals_0 : decode cF_settleGoals 0 = .ok (.iconst 0, 1) := by decide +kernel
theorem dF_settleGoals_1 : decode cF_settleGoals 1 = .ok (.istore_n 1, 1) := by decide +kernel
theorem dF_settleGoals_2 : decode cF_settleGoals 2 = .ok (.iload_n 1, 1) := by decide +kernel
theorem dF_settleGoals_3 : decode cF_settleGoals 3 = .ok (.bipush 8, 2) := by decide +kernel
theorem dF_settleGoals_5 : decode cF_settleGoals 5 = .ok (.if_icmp .ge 76, 3) := by decide +kernel
theorem dF_settleGoals_8 : decode cF_settleGoals 8 = .ok (.aload_n 0, 1) := by decide +kernel
theorem dF_settleGoals_9 : decode cF_settleGoals 9 = .ok (.invokevirtual 88, 3) := by decide +kernel
theorem dF_settleGoals_12 : decode cF_settleGoals 12 = .ok (.istore_n 2, 1) := by decide +kernel
theorem dF_settleGoals_13 : decode cF_settleGoals 13 = .ok (.iload_n 2, 1) := by decide +kernel
theorem dF_settleGoals_14 : decode cF_settleGoals 14 = .ok (.iconst (-1), 1) := by decide +kernel
theorem dF_settleGoals_15 : decode cF_settleGoals 15 = .ok (.if_icmp .ne 4, 3) := by decide +kernel
theorem dF_settleGoals_18 : decode cF_settleGoals 18 = .ok (.return_, 1) := by decide +kernel
theorem dF_settleGoals_19 : decode cF_settleGoals 19 = .ok (.aload_n 0, 1) := by decide +kernel
theorem dF_settleGoals_20 : decode cF_settleGoals 20 = .ok (.getfield 36, 3) := by decide +kernel
theorem dF_settleGoals_23 : decode cF_settleGoals 23 = .ok (.iload_n 2, 1) := by decide +kernel
theorem dF_settleGoals_24 : decode cF_settleGoals 24 = .ok (.iconst 1, 1) := by decide +kernel
theorem dF_settleGoals_25 : decode cF_settleGoals 25 = .ok (.bastore, 1) := by decide +kernel
theorem dF_settleGoals_26 : decode cF_settleGoals 26 = .ok (.iload_n 1, 1) := by decide +kernel
theorem dF_settleGoals_27 : decode cF_settleGoals 27 = .ok (.ifCond .ne 25, 3) := by decide +kernel
theorem dF_settleGoals_30 : decode cF_settleGoals 30 = .ok (.aload_n 0, 1) := by decide +kernel
theorem dF_settleGoals_31 : decode cF_settleGoals 31 = .ok (.getfield 21, 3) := by decide +kernel
theorem dF_settleGoals_34 : decode cF_settleGoals 34 = .ok (.aload_n 0, 1) := by decide +kernel
theorem dF_settleGoals_35 : decode cF_settleGoals 35 = .ok (.getfield 44, 3) := by decide +kernel
theorem dF_settleGoals_38 : decode cF_settleGoals 38 = .ok (.aload_n 0, 1) := by decide +kernel
theorem dF_settleGoals_39 : decode cF_settleGoals 39 = .ok (.getfield 27, 3) := by decide +kernel
theorem dF_settleGoals_42 : decode cF_settleGoals 42 = .ok (.aload_n 0, 1) := by decide +kernel
theorem dF_settleGoals_43 : decode cF_settleGoals 43 = .ok (.getfield 44, 3) := by decide +kernel
theorem dF_settleGoals_46 : decode cF_settleGoals 46 = .ok (.iload_n 2, 1) := by decide +kernel
theorem dF_settleGoals_47 : decode cF_settleGoals 47 = .ok (.invokestatic 57, 3) := by decide +kernel
theorem dF_settleGoals_50 : decode cF_settleGoals 50 = .ok (.iaload, 1) := by decide +kernel
theorem dF_settleGoals_51 : decode cF_settleGoals 51 = .ok (.iastore, 1) := by decide +kernel
theorem dF_settleGoals_52 : decode cF_settleGoals 52 = .ok (.aload_n 0, 1) := by decide +kernel
theorem dF_settleGoals_53 : decode cF_settleGoals 53 = .ok (.getfield 33, 3) := by decide +kernel
theorem dF_settleGoals_56 : decode cF_settleGoals 56 = .ok (.aload_n 0, 1) := by decide +kernel
theorem dF_settleGoals_57 : decode cF_settleGoals 57 = .ok (.getfield 44, 3) := by decide +kernel
theorem dF_settleGoals_60 : decode cF_settleGoals 60 = .ok (.iload_n 2, 1) := by decide +kernel
theorem dF_settleGoals_61 : decode cF_settleGoals 61 = .ok (.invokestatic 57, 3) := by decide +kernel
theorem dF_settleGoals_64 : decode cF_settleGoals 64 = .ok (.aload_n 0, 1) := by decide +kernel
theorem dF_settleGoals_65 : decode cF_settleGoals 65 = .ok (.iload_n 2, 1) := by decide +kernel
theorem dF_settleGoals_66 : decode cF_settleGoals 66 = .ok (.invokevirtual 92, 3) := by decide +kernel
theorem dF_settleGoals_69 : decode cF_settleGoals 69 = .ok (.iastore, 1) := by decide +kernel
theorem dF_settleGoals_70 : decode cF_settleGoals 70 = .ok (.aload_n 0, 1) := by decide +kernel
theorem dF_settleGoals_71 : decode cF_settleGoals 71 = .ok (.iload_n 2, 1) := by decide +kernel
theorem dF_settleGoals_72 : decode cF_settleGoals 72 = .ok (.invokevirtual 95, 3) := by decide +kernel
theorem dF_settleGoals_75 : decode cF_settleGoals 75 = .ok (.iinc 1 1, 3) := by decide +kernel
theorem dF_settleGoals_78 : decode cF_settleGoals 78 = .ok (.goto (-76), 3) := by decide +kernel
theorem dF_settleGoals_81 : decode cF_settleGoals 81 = .ok (.return_, 1) := by decide +kernel
abbrev cF_cheapestUnsettled : ByteArray := prog_2_method_11_code
abbrev yF_cheapestUnsettled : MethodName := ⟨"CoverTrees$Forest", "cheapestUnsettled", "()I"⟩
abbrev kF_cheapestUnsettled : Cond := .code yF_cheapestUnsettled cF_cheapestUnsettled 4 (some .int)
abbrev wsF_cheapestUnsettled : List Cond := kF_cheapestUnsettled :: wB
theorem dF_cheapestUnsettled_0 : decode cF_cheapestUnsettled 0 = .ok (.iconst (-1), 1) := by decide +kernel
theorem dF_cheapestUnsettled_1 : decode cF_cheapestUnsettled 1 = .ok (.istore_n 1, 1) := by decide +kernel
theorem dF_cheapestUnsettled_2 : decode cF_cheapestUnsettled 2 = .ok (.iconst 0, 1) := by decide +kernel
theorem dF_cheapestUnsettled_3 : decode cF_cheapestUnsettled 3 = .ok (.istore_n 2, 1) := by decide +kernel
theorem dF_cheapestUnsettled_4 : decode cF_cheapestUnsettled 4 = .ok (.iload_n 2, 1) := by decide +kernel
theorem dF_cheapestUnsettled_5 : decode cF_cheapestUnsettled 5 = .ok (.bipush 8, 2) := by decide +kernel
theorem dF_cheapestUnsettled_7 : decode cF_cheapestUnsettled 7 = .ok (.if_icmp .ge 61, 3) := by decide +kernel
theorem dF_cheapestUnsettled_10 : decode cF_cheapestUnsettled 10 = .ok (.aload_n 0, 1) := by decide +kernel
theorem dF_cheapestUnsettled_11 : decode cF_cheapestUnsettled 11 = .ok (.getfield 27, 3) := by decide +kernel
theorem dF_cheapestUnsettled_14 : decode cF_cheapestUnsettled 14 = .ok (.aload_n 0, 1) := by decide +kernel
theorem dF_cheapestUnsettled_15 : decode cF_cheapestUnsettled 15 = .ok (.getfield 44, 3) := by decide +kernel
theorem dF_cheapestUnsettled_18 : decode cF_cheapestUnsettled 18 = .ok (.iload_n 2, 1) := by decide +kernel
theorem dF_cheapestUnsettled_19 : decode cF_cheapestUnsettled 19 = .ok (.invokestatic 57, 3) := by decide +kernel
theorem dF_cheapestUnsettled_22 : decode cF_cheapestUnsettled 22 = .ok (.iaload, 1) := by decide +kernel
theorem dF_cheapestUnsettled_23 : decode cF_cheapestUnsettled 23 = .ok (.istore_n 3, 1) := by decide +kernel
theorem dF_cheapestUnsettled_24 : decode cF_cheapestUnsettled 24 = .ok (.aload_n 0, 1) := by decide +kernel
theorem dF_cheapestUnsettled_25 : decode cF_cheapestUnsettled 25 = .ok (.getfield 36, 3) := by decide +kernel
theorem dF_cheapestUnsettled_28 : decode cF_cheapestUnsettled 28 = .ok (.iload_n 2, 1) := by decide +kernel
theorem dF_cheapestUnsettled_29 : decode cF_cheapestUnsettled 29 = .ok (.baload, 1) := by decide +kernel
theorem dF_cheapestUnsettled_30 : decode cF_cheapestUnsettled 30 = .ok (.ifCond .ne 32, 3) := by decide +kernel
theorem dF_cheapestUnsettled_33 : decode cF_cheapestUnsettled 33 = .ok (.iload_n 3, 1) := by decide +kernel
theorem dF_cheapestUnsettled_34 : decode cF_cheapestUnsettled 34 = .ok (.iconst (-1), 1) := by decide +kernel
theorem dF_cheapestUnsettled_35 : decode cF_cheapestUnsettled 35 = .ok (.if_icmp .eq 27, 3) := by decide +kernel
theorem dF_cheapestUnsettled_38 : decode cF_cheapestUnsettled 38 = .ok (.iload_n 1, 1) := by decide +kernel
theorem dF_cheapestUnsettled_39 : decode cF_cheapestUnsettled 39 = .ok (.iconst (-1), 1) := by decide +kernel
theorem dF_cheapestUnsettled_40 : decode cF_cheapestUnsettled 40 = .ok (.if_icmp .eq 20, 3) := by decide +kernel
theorem dF_cheapestUnsettled_43 : decode cF_cheapestUnsettled 43 = .ok (.iload_n 3, 1) := by decide +kernel
theorem dF_cheapestUnsettled_44 : decode cF_cheapestUnsettled 44 = .ok (.aload_n 0, 1) := by decide +kernel
theorem dF_cheapestUnsettled_45 : decode cF_cheapestUnsettled 45 = .ok (.getfield 27, 3) := by decide +kernel
theorem dF_cheapestUnsettled_48 : decode cF_cheapestUnsettled 48 = .ok (.aload_n 0, 1) := by decide +kernel
theorem dF_cheapestUnsettled_49 : decode cF_cheapestUnsettled 49 = .ok (.getfield 44, 3) := by decide +kernel
theorem dF_cheapestUnsettled_52 : decode cF_cheapestUnsettled 52 = .ok (.iload_n 1, 1) := by decide +kernel
theorem dF_cheapestUnsettled_53 : decode cF_cheapestUnsettled 53 = .ok (.invokestatic 57, 3) := by decide +kernel
theorem dF_cheapestUnsettled_56 : decode cF_cheapestUnsettled 56 = .ok (.iaload, 1) := by decide +kernel
theorem dF_cheapestUnsettled_57 : decode cF_cheapestUnsettled 57 = .ok (.if_icmp .ge 5, 3) := by decide +kernel
theorem dF_cheapestUnsettled_60 : decode cF_cheapestUnsettled 60 = .ok (.iload_n 2, 1) := by decide +kernel
theorem dF_cheapestUnsettled_61 : decode cF_cheapestUnsettled 61 = .ok (.istore_n 1, 1) := by decide +kernel
theorem dF_cheapestUnsettled_62 : decode cF_cheapestUnsettled 62 = .ok (.iinc 2 1, 3) := by decide +kernel
theorem dF_cheapestUnsettled_65 : decode cF_cheapestUnsettled 65 = .ok (.goto (-61), 3) := by decide +kernel
theorem dF_cheapestUnsettled_68 : decode cF_cheapestUnsettled 68 = .ok (.iload_n 1, 1) := by decide +kernel
theorem dF_cheapestUnsettled_69 : decode cF_cheapestUnsettled 69 = .ok (.ireturn, 1) := by decide +kernel
abbrev cF_applyChainRulesFrom : ByteArray := prog_2_method_12_code
abbrev yF_applyChainRulesFrom : MethodName := ⟨"CoverTrees$Forest", "applyChainRulesFrom", "(I)V"⟩
abbrev kF_applyChainRulesFrom : Cond := .code yF_applyChainRulesFrom cF_applyChainRulesFrom 4 none
abbrev wsF_applyChainRulesFrom : List Cond := kF_applyChainRulesFrom :: wB
theorem dF_applyChainRulesFrom_0 : decode cF_applyChainRulesFrom 0 = .ok (.aload_n 0, 1) := by decide +kernel
theorem dF_applyChainRulesFrom_1 : decode cF_applyChainRulesFrom 1 = .ok (.getfield 27, 3) := by decide +kernel
theorem dF_applyChainRulesFrom_4 : decode cF_applyChainRulesFrom 4 = .ok (.aload_n 0, 1) := by decide +kernel
theorem dF_applyChainRulesFrom_5 : decode cF_applyChainRulesFrom 5 = .ok (.getfield 44, 3) := by decide +kernel
theorem dF_applyChainRulesFrom_8 : decode cF_applyChainRulesFrom 8 = .ok (.iload_n 1, 1) := by decide +kernel
theorem dF_applyChainRulesFrom_9 : decode cF_applyChainRulesFrom 9 = .ok (.invokestatic 57, 3) := by decide +kernel
theorem dF_applyChainRulesFrom_12 : decode cF_applyChainRulesFrom 12 = .ok (.iaload, 1) := by decide +kernel
theorem dF_applyChainRulesFrom_13 : decode cF_applyChainRulesFrom 13 = .ok (.istore_n 2, 1) := by decide +kernel
theorem dF_applyChainRulesFrom_14 : decode cF_applyChainRulesFrom 14 = .ok (.iconst 0, 1) := by decide +kernel
theorem dF_applyChainRulesFrom_15 : decode cF_applyChainRulesFrom 15 = .ok (.istore_n 3, 1) := by decide +kernel
theorem dF_applyChainRulesFrom_16 : decode cF_applyChainRulesFrom 16 = .ok (.iload_n 3, 1) := by decide +kernel
theorem dF_applyChainRulesFrom_17 : decode cF_applyChainRulesFrom 17 = .ok (.aload_n 0, 1) := by decide +kernel
theorem dF_applyChainRulesFrom_18 : decode cF_applyChainRulesFrom 18 = .ok (.getfield 40, 3) := by decide +kernel
theorem dF_applyChainRulesFrom_21 : decode cF_applyChainRulesFrom 21 = .ok (.getfield 66, 3) := by decide +kernel
theorem dF_applyChainRulesFrom_24 : decode cF_applyChainRulesFrom 24 = .ok (.if_icmp .ge 37, 3) := by decide +kernel
theorem dF_applyChainRulesFrom_27 : decode cF_applyChainRulesFrom 27 = .ok (.aload_n 0, 1) := by decide +kernel
theorem dF_applyChainRulesFrom_28 : decode cF_applyChainRulesFrom 28 = .ok (.getfield 40, 3) := by decide +kernel
theorem dF_applyChainRulesFrom_31 : decode cF_applyChainRulesFrom 31 = .ok (.iload_n 3, 1) := by decide +kernel
theorem dF_applyChainRulesFrom_32 : decode cF_applyChainRulesFrom 32 = .ok (.iload_n 1, 1) := by decide +kernel
theorem dF_applyChainRulesFrom_33 : decode cF_applyChainRulesFrom 33 = .ok (.invokevirtual 99, 3) := by decide +kernel
theorem dF_applyChainRulesFrom_36 : decode cF_applyChainRulesFrom 36 = .ok (.ifCond .eq 19, 3) := by decide +kernel
theorem dF_applyChainRulesFrom_39 : decode cF_applyChainRulesFrom 39 = .ok (.aload_n 0, 1) := by decide +kernel
theorem dF_applyChainRulesFrom_40 : decode cF_applyChainRulesFrom 40 = .ok (.iload_n 3, 1) := by decide +kernel
theorem dF_applyChainRulesFrom_41 : decode cF_applyChainRulesFrom 41 = .ok (.iload_n 2, 1) := by decide +kernel
theorem dF_applyChainRulesFrom_42 : decode cF_applyChainRulesFrom 42 = .ok (.aload_n 0, 1) := by decide +kernel
theorem dF_applyChainRulesFrom_43 : decode cF_applyChainRulesFrom 43 = .ok (.getfield 40, 3) := by decide +kernel
theorem dF_applyChainRulesFrom_46 : decode cF_applyChainRulesFrom 46 = .ok (.getfield 82, 3) := by decide +kernel
theorem dF_applyChainRulesFrom_49 : decode cF_applyChainRulesFrom 49 = .ok (.iload_n 3, 1) := by decide +kernel
theorem dF_applyChainRulesFrom_50 : decode cF_applyChainRulesFrom 50 = .ok (.iaload, 1) := by decide +kernel
theorem dF_applyChainRulesFrom_51 : decode cF_applyChainRulesFrom 51 = .ok (.iadd, 1) := by decide +kernel
theorem dF_applyChainRulesFrom_52 : decode cF_applyChainRulesFrom 52 = .ok (.invokevirtual 75, 3) := by decide +kernel
theorem dF_applyChainRulesFrom_55 : decode cF_applyChainRulesFrom 55 = .ok (.iinc 3 1, 3) := by decide +kernel
theorem dF_applyChainRulesFrom_58 : decode cF_applyChainRulesFrom 58 = .ok (.goto (-42), 3) := by decide +kernel
theorem dF_applyChainRulesFrom_61 : decode cF_applyChainRulesFrom 61 = .ok (.return_, 1) := by decide +kernel
abbrev cF_sizeByRule : ByteArray := prog_2_method_13_code
abbrev yF_sizeByRule : MethodName := ⟨"CoverTrees$Forest", "sizeByRule", "(I)I"⟩
abbrev kF_sizeByRule : Cond := .code yF_sizeByRule cF_sizeByRule 5 (some .int)
abbrev wsF_sizeByRule : List Cond := kF_sizeByRule :: wB
theorem dF_sizeByRule_0 : decode cF_sizeByRule 0 = .ok (.aload_n 0, 1) := by decide +kernel
theorem dF_sizeByRule_1 : decode cF_sizeByRule 1 = .ok (.getfield 30, 3) := by decide +kernel
theorem dF_sizeByRule_4 : decode cF_sizeByRule 4 = .ok (.aload_n 0, 1) := by decide +kernel
theorem dF_sizeByRule_5 : decode cF_sizeByRule 5 = .ok (.getfield 44, 3) := by decide +kernel
theorem dF_sizeByRule_8 : decode cF_sizeByRule 8 = .ok (.iload_n 1, 1) := by decide +kernel
theorem dF_sizeByRule_9 : decode cF_sizeByRule 9 = .ok (.invokestatic 57, 3) := by decide +kernel
theorem dF_sizeByRule_12 : decode cF_sizeByRule 12 = .ok (.iaload, 1) := by decide +kernel
theorem dF_sizeByRule_13 : decode cF_sizeByRule 13 = .ok (.istore_n 2, 1) := by decide +kernel
theorem dF_sizeByRule_14 : decode cF_sizeByRule 14 = .ok (.iconst 1, 1) := by decide +kernel
theorem dF_sizeByRule_15 : decode cF_sizeByRule 15 = .ok (.istore_n 3, 1) := by decide +kernel
theorem dF_sizeByRule_16 : decode cF_sizeByRule 16 = .ok (.aload_n 0, 1) := by decide +kernel
theorem dF_sizeByRule_17 : decode cF_sizeByRule 17 = .ok (.getfield 40, 3) := by decide +kernel
theorem dF_sizeByRule_20 : decode cF_sizeByRule 20 = .ok (.getfield 71, 3) := by decide +kernel
theorem dF_sizeByRule_23 : decode cF_sizeByRule 23 = .ok (.iload_n 2, 1) := by decide +kernel
theorem dF_sizeByRule_24 : decode cF_sizeByRule 24 = .ok (.iaload, 1) := by decide +kernel
theorem dF_sizeByRule_25 : decode cF_sizeByRule 25 = .ok (.iconst (-1), 1) := by decide +kernel
theorem dF_sizeByRule_26 : decode cF_sizeByRule 26 = .ok (.if_icmp .ne 30, 3) := by decide +kernel
theorem dF_sizeByRule_29 : decode cF_sizeByRule 29 = .ok (.iload_n 3, 1) := by decide +kernel
theorem dF_sizeByRule_30 : decode cF_sizeByRule 30 = .ok (.aload_n 0, 1) := by decide +kernel
theorem dF_sizeByRule_31 : decode cF_sizeByRule 31 = .ok (.getfield 33, 3) := by decide +kernel
theorem dF_sizeByRule_34 : decode cF_sizeByRule 34 = .ok (.aload_n 0, 1) := by decide +kernel
theorem dF_sizeByRule_35 : decode cF_sizeByRule 35 = .ok (.getfield 44, 3) := by decide +kernel
theorem dF_sizeByRule_38 : decode cF_sizeByRule 38 = .ok (.aload_n 0, 1) := by decide +kernel
theorem dF_sizeByRule_39 : decode cF_sizeByRule 39 = .ok (.getfield 40, 3) := by decide +kernel
theorem dF_sizeByRule_42 : decode cF_sizeByRule 42 = .ok (.getfield 83, 3) := by decide +kernel
theorem dF_sizeByRule_45 : decode cF_sizeByRule 45 = .ok (.iload_n 2, 1) := by decide +kernel
theorem dF_sizeByRule_46 : decode cF_sizeByRule 46 = .ok (.iaload, 1) := by decide +kernel
theorem dF_sizeByRule_47 : decode cF_sizeByRule 47 = .ok (.invokestatic 57, 3) := by decide +kernel
theorem dF_sizeByRule_50 : decode cF_sizeByRule 50 = .ok (.iaload, 1) := by decide +kernel
theorem dF_sizeByRule_51 : decode cF_sizeByRule 51 = .ok (.iadd, 1) := by decide +kernel
theorem dF_sizeByRule_52 : decode cF_sizeByRule 52 = .ok (.istore_n 3, 1) := by decide +kernel
theorem dF_sizeByRule_53 : decode cF_sizeByRule 53 = .ok (.goto 92, 3) := by decide +kernel
theorem dF_sizeByRule_56 : decode cF_sizeByRule 56 = .ok (.aload_n 0, 1) := by decide +kernel
theorem dF_sizeByRule_57 : decode cF_sizeByRule 57 = .ok (.getfield 40, 3) := by decide +kernel
theorem dF_sizeByRule_60 : decode cF_sizeByRule 60 = .ok (.getfield 79, 3) := by decide +kernel
theorem dF_sizeByRule_63 : decode cF_sizeByRule 63 = .ok (.aload_n 0, 1) := by decide +kernel
theorem dF_sizeByRule_64 : decode cF_sizeByRule 64 = .ok (.getfield 9, 3) := by decide +kernel
theorem dF_sizeByRule_67 : decode cF_sizeByRule 67 = .ok (.aload_n 0, 1) := by decide +kernel
theorem dF_sizeByRule_68 : decode cF_sizeByRule 68 = .ok (.getfield 44, 3) := by decide +kernel
theorem dF_sizeByRule_71 : decode cF_sizeByRule 71 = .ok (.iaload, 1) := by decide +kernel
theorem dF_sizeByRule_72 : decode cF_sizeByRule 72 = .ok (.iaload, 1) := by decide +kernel
theorem dF_sizeByRule_73 : decode cF_sizeByRule 73 = .ok (.istore 4, 2) := by decide +kernel
theorem dF_sizeByRule_75 : decode cF_sizeByRule 75 = .ok (.iload 4, 2) := by decide +kernel
theorem dF_sizeByRule_77 : decode cF_sizeByRule 77 = .ok (.iconst 1, 1) := by decide +kernel
theorem dF_sizeByRule_78 : decode cF_sizeByRule 78 = .ok (.if_icmp .lt 32, 3) := by decide +kernel
theorem dF_sizeByRule_81 : decode cF_sizeByRule 81 = .ok (.iload_n 3, 1) := by decide +kernel
theorem dF_sizeByRule_82 : decode cF_sizeByRule 82 = .ok (.aload_n 0, 1) := by decide +kernel
theorem dF_sizeByRule_83 : decode cF_sizeByRule 83 = .ok (.getfield 33, 3) := by decide +kernel
theorem dF_sizeByRule_86 : decode cF_sizeByRule 86 = .ok (.aload_n 0, 1) := by decide +kernel
theorem dF_sizeByRule_87 : decode cF_sizeByRule 87 = .ok (.getfield 15, 3) := by decide +kernel
theorem dF_sizeByRule_90 : decode cF_sizeByRule 90 = .ok (.aload_n 0, 1) := by decide +kernel
theorem dF_sizeByRule_91 : decode cF_sizeByRule 91 = .ok (.getfield 44, 3) := by decide +kernel
theorem dF_sizeByRule_94 : decode cF_sizeByRule 94 = .ok (.iaload, 1) := by decide +kernel
theorem dF_sizeByRule_95 : decode cF_sizeByRule 95 = .ok (.aload_n 0, 1) := by decide +kernel
theorem dF_sizeByRule_96 : decode cF_sizeByRule 96 = .ok (.getfield 40, 3) := by decide +kernel
theorem dF_sizeByRule_99 : decode cF_sizeByRule 99 = .ok (.getfield 83, 3) := by decide +kernel
theorem dF_sizeByRule_102 : decode cF_sizeByRule 102 = .ok (.iload_n 2, 1) := by decide +kernel
theorem dF_sizeByRule_103 : decode cF_sizeByRule 103 = .ok (.iaload, 1) := by decide +kernel
theorem dF_sizeByRule_104 : decode cF_sizeByRule 104 = .ok (.invokestatic 57, 3) := by decide +kernel
theorem dF_sizeByRule_107 : decode cF_sizeByRule 107 = .ok (.iaload, 1) := by decide +kernel
theorem dF_sizeByRule_108 : decode cF_sizeByRule 108 = .ok (.iadd, 1) := by decide +kernel
theorem dF_sizeByRule_109 : decode cF_sizeByRule 109 = .ok (.istore_n 3, 1) := by decide +kernel
theorem dF_sizeByRule_110 : decode cF_sizeByRule 110 = .ok (.iload 4, 2) := by decide +kernel
theorem dF_sizeByRule_112 : decode cF_sizeByRule 112 = .ok (.iconst 2, 1) := by decide +kernel
theorem dF_sizeByRule_113 : decode cF_sizeByRule 113 = .ok (.if_icmp .lt 32, 3) := by decide +kernel
theorem dF_sizeByRule_116 : decode cF_sizeByRule 116 = .ok (.iload_n 3, 1) := by decide +kernel
theorem dF_sizeByRule_117 : decode cF_sizeByRule 117 = .ok (.aload_n 0, 1) := by decide +kernel
theorem dF_sizeByRule_118 : decode cF_sizeByRule 118 = .ok (.getfield 33, 3) := by decide +kernel
theorem dF_sizeByRule_121 : decode cF_sizeByRule 121 = .ok (.aload_n 0, 1) := by decide +kernel
theorem dF_sizeByRule_122 : decode cF_sizeByRule 122 = .ok (.getfield 18, 3) := by decide +kernel
theorem dF_sizeByRule_125 : decode cF_sizeByRule 125 = .ok (.aload_n 0, 1) := by decide +kernel
theorem dF_sizeByRule_126 : decode cF_sizeByRule 126 = .ok (.getfield 44, 3) := by decide +kernel
theorem dF_sizeByRule_129 : decode cF_sizeByRule 129 = .ok (.iaload, 1) := by decide +kernel
theorem dF_sizeByRule_130 : decode cF_sizeByRule 130 = .ok (.aload_n 0, 1) := by decide +kernel
theorem dF_sizeByRule_131 : decode cF_sizeByRule 131 = .ok (.getfield 40, 3) := by decide +kernel
theorem dF_sizeByRule_134 : decode cF_sizeByRule 134 = .ok (.getfield 84, 3) := by decide +kernel
theorem dF_sizeByRule_137 : decode cF_sizeByRule 137 = .ok (.iload_n 2, 1) := by decide +kernel
theorem dF_sizeByRule_138 : decode cF_sizeByRule 138 = .ok (.iaload, 1) := by decide +kernel
theorem dF_sizeByRule_139 : decode cF_sizeByRule 139 = .ok (.invokestatic 57, 3) := by decide +kernel
theorem dF_sizeByRule_142 : decode cF_sizeByRule 142 = .ok (.iaload, 1) := by decide +kernel
theorem dF_sizeByRule_143 : decode cF_sizeByRule 143 = .ok (.iadd, 1) := by decide +kernel
theorem dF_sizeByRule_144 : decode cF_sizeByRule 144 = .ok (.istore_n 3, 1) := by decide +kernel
theorem dF_sizeByRule_145 : decode cF_sizeByRule 145 = .ok (.iload_n 3, 1) := by decide +kernel
theorem dF_sizeByRule_146 : decode cF_sizeByRule 146 = .ok (.sipush 2001, 3) := by decide +kernel
theorem dF_sizeByRule_149 : decode cF_sizeByRule 149 = .ok (.invokestatic 103, 3) := by decide +kernel
theorem dF_sizeByRule_152 : decode cF_sizeByRule 152 = .ok (.ireturn, 1) := by decide +kernel
abbrev cF_findInCover : ByteArray := prog_2_method_14_code
abbrev yF_findInCover : MethodName := ⟨"CoverTrees$Forest", "findInCover", "(II)I"⟩
abbrev kF_findInCover : Cond := .code yF_findInCover cF_findInCover 9 (some .int)
abbrev wsF_findInCover : List Cond := kF_findInCover :: wB
theorem dF_findInCover_0 : decode cF_findInCover 0 = .ok (.iload_n 1, 1) := by decide +kernel
theorem dF_findInCover_1 : decode cF_findInCover 1 = .ok (.istore_n 3, 1) := by decide +kernel
theorem dF_findInCover_2 : decode cF_findInCover 2 = .ok (.iload_n 2, 1) := by decide +kernel
theorem dF_findInCover_3 : decode cF_findInCover 3 = .ok (.istore 4, 2) := by decide +kernel
theorem dF_findInCover_5 : decode cF_findInCover 5 = .ok (.iconst 0, 1) := by decide +kernel
theorem dF_findInCover_6 : decode cF_findInCover 6 = .ok (.istore 5, 2) := by decide +kernel
theorem dF_findInCover_8 : decode cF_findInCover 8 = .ok (.iload 5, 2) := by decide +kernel
theorem dF_findInCover_10 : decode cF_findInCover 10 = .ok (.sipush 960, 3) := by decide +kernel
theorem dF_findInCover_13 : decode cF_findInCover 13 = .ok (.if_icmp .ge 142, 3) := by decide +kernel
theorem dF_findInCover_16 : decode cF_findInCover 16 = .ok (.iload 4, 2) := by decide +kernel
theorem dF_findInCover_18 : decode cF_findInCover 18 = .ok (.aload_n 0, 1) := by decide +kernel
theorem dF_findInCover_19 : decode cF_findInCover 19 = .ok (.getfield 33, 3) := by decide +kernel
theorem dF_findInCover_22 : decode cF_findInCover 22 = .ok (.iload_n 3, 1) := by decide +kernel
theorem dF_findInCover_23 : decode cF_findInCover 23 = .ok (.iaload, 1) := by decide +kernel
theorem dF_findInCover_24 : decode cF_findInCover 24 = .ok (.iconst 1, 1) := by decide +kernel
theorem dF_findInCover_25 : decode cF_findInCover 25 = .ok (.isub, 1) := by decide +kernel
theorem dF_findInCover_26 : decode cF_findInCover 26 = .ok (.if_icmp .ge 129, 3) := by decide +kernel
theorem dF_findInCover_29 : decode cF_findInCover 29 = .ok (.aload_n 0, 1) := by decide +kernel
theorem dF_findInCover_30 : decode cF_findInCover 30 = .ok (.getfield 30, 3) := by decide +kernel
theorem dF_findInCover_33 : decode cF_findInCover 33 = .ok (.iload_n 3, 1) := by decide +kernel
theorem dF_findInCover_34 : decode cF_findInCover 34 = .ok (.iaload, 1) := by decide +kernel
theorem dF_findInCover_35 : decode cF_findInCover 35 = .ok (.istore 6, 2) := by decide +kernel
theorem dF_findInCover_37 : decode cF_findInCover 37 = .ok (.iload_n 3, 1) := by decide +kernel
theorem dF_findInCover_38 : decode cF_findInCover 38 = .ok (.bipush 8, 2) := by decide +kernel
theorem dF_findInCover_40 : decode cF_findInCover 40 = .ok (.idiv, 1) := by decide +kernel
theorem dF_findInCover_41 : decode cF_findInCover 41 = .ok (.istore 7, 2) := by decide +kernel
theorem dF_findInCover_43 : decode cF_findInCover 43 = .ok (.aload_n 0, 1) := by decide +kernel
theorem dF_findInCover_44 : decode cF_findInCover 44 = .ok (.getfield 40, 3) := by decide +kernel
theorem dF_findInCover_47 : decode cF_findInCover 47 = .ok (.getfield 71, 3) := by decide +kernel
theorem dF_findInCover_50 : decode cF_findInCover 50 = .ok (.iload 6, 2) := by decide +kernel
theorem dF_findInCover_52 : decode cF_findInCover 52 = .ok (.iaload, 1) := by decide +kernel
theorem dF_findInCover_53 : decode cF_findInCover 53 = .ok (.iconst (-1), 1) := by decide +kernel
theorem dF_findInCover_54 : decode cF_findInCover 54 = .ok (.if_icmp .ne 22, 3) := by decide +kernel
theorem dF_findInCover_57 : decode cF_findInCover 57 = .ok (.iload 7, 2) := by decide +kernel
theorem dF_findInCover_59 : decode cF_findInCover 59 = .ok (.aload_n 0, 1) := by decide +kernel
theorem dF_findInCover_60 : decode cF_findInCover 60 = .ok (.getfield 40, 3) := by decide +kernel
theorem dF_findInCover_63 : decode cF_findInCover 63 = .ok (.getfield 83, 3) := by decide +kernel
theorem dF_findInCover_66 : decode cF_findInCover 66 = .ok (.iload 6, 2) := by decide +kernel
theorem dF_findInCover_68 : decode cF_findInCover 68 = .ok (.iaload, 1) := by decide +kernel
theorem dF_findInCover_69 : decode cF_findInCover 69 = .ok (.invokestatic 57, 3) := by decide +kernel
theorem dF_findInCover_72 : decode cF_findInCover 72 = .ok (.istore_n 3, 1) := by decide +kernel
theorem dF_findInCover_73 : decode cF_findInCover 73 = .ok (.goto 76, 3) := by decide +kernel
theorem dF_findInCover_76 : decode cF_findInCover 76 = .ok (.aload_n 0, 1) := by decide +kernel
theorem dF_findInCover_77 : decode cF_findInCover 77 = .ok (.getfield 15, 3) := by decide +kernel
theorem dF_findInCover_80 : decode cF_findInCover 80 = .ok (.iload 7, 2) := by decide +kernel
theorem dF_findInCover_82 : decode cF_findInCover 82 = .ok (.iaload, 1) := by decide +kernel
theorem dF_findInCover_83 : decode cF_findInCover 83 = .ok (.aload_n 0, 1) := by decide +kernel
theorem dF_findInCover_84 : decode cF_findInCover 84 = .ok (.getfield 40, 3) := by decide +kernel
theorem dF_findInCover_87 : decode cF_findInCover 87 = .ok (.getfield 83, 3) := by decide +kernel
theorem dF_findInCover_90 : decode cF_findInCover 90 = .ok (.iload 6, 2) := by decide +kernel
theorem dF_findInCover_92 : decode cF_findInCover 92 = .ok (.iaload, 1) := by decide +kernel
theorem dF_findInCover_93 : decode cF_findInCover 93 = .ok (.invokestatic 57, 3) := by decide +kernel
theorem dF_findInCover_96 : decode cF_findInCover 96 = .ok (.istore 8, 2) := by decide +kernel
theorem dF_findInCover_98 : decode cF_findInCover 98 = .ok (.iload 4, 2) := by decide +kernel
theorem dF_findInCover_100 : decode cF_findInCover 100 = .ok (.aload_n 0, 1) := by decide +kernel
theorem dF_findInCover_101 : decode cF_findInCover 101 = .ok (.getfield 33, 3) := by decide +kernel
theorem dF_findInCover_104 : decode cF_findInCover 104 = .ok (.iload 8, 2) := by decide +kernel
theorem dF_findInCover_106 : decode cF_findInCover 106 = .ok (.iaload, 1) := by decide +kernel
theorem dF_findInCover_107 : decode cF_findInCover 107 = .ok (.if_icmp .ge 9, 3) := by decide +kernel
theorem dF_findInCover_110 : decode cF_findInCover 110 = .ok (.iload 8, 2) := by decide +kernel
theorem dF_findInCover_112 : decode cF_findInCover 112 = .ok (.istore_n 3, 1) := by decide +kernel
theorem dF_findInCover_113 : decode cF_findInCover 113 = .ok (.goto 36, 3) := by decide +kernel
theorem dF_findInCover_116 : decode cF_findInCover 116 = .ok (.iload 4, 2) := by decide +kernel
theorem dF_findInCover_118 : decode cF_findInCover 118 = .ok (.aload_n 0, 1) := by decide +kernel
theorem dF_findInCover_119 : decode cF_findInCover 119 = .ok (.getfield 33, 3) := by decide +kernel
theorem dF_findInCover_122 : decode cF_findInCover 122 = .ok (.iload 8, 2) := by decide +kernel
theorem dF_findInCover_124 : decode cF_findInCover 124 = .ok (.iaload, 1) := by decide +kernel
theorem dF_findInCover_125 : decode cF_findInCover 125 = .ok (.isub, 1) := by decide +kernel
theorem dF_findInCover_126 : decode cF_findInCover 126 = .ok (.istore 4, 2) := by decide +kernel
theorem dF_findInCover_128 : decode cF_findInCover 128 = .ok (.aload_n 0, 1) := by decide +kernel
theorem dF_findInCover_129 : decode cF_findInCover 129 = .ok (.getfield 18, 3) := by decide +kernel
theorem dF_findInCover_132 : decode cF_findInCover 132 = .ok (.iload 7, 2) := by decide +kernel
theorem dF_findInCover_134 : decode cF_findInCover 134 = .ok (.iaload, 1) := by decide +kernel
theorem dF_findInCover_135 : decode cF_findInCover 135 = .ok (.aload_n 0, 1) := by decide +kernel
theorem dF_findInCover_136 : decode cF_findInCover 136 = .ok (.getfield 40, 3) := by decide +kernel
theorem dF_findInCover_139 : decode cF_findInCover 139 = .ok (.getfield 84, 3) := by decide +kernel
theorem dF_findInCover_142 : decode cF_findInCover 142 = .ok (.iload 6, 2) := by decide +kernel
theorem dF_findInCover_144 : decode cF_findInCover 144 = .ok (.iaload, 1) := by decide +kernel
theorem dF_findInCover_145 : decode cF_findInCover 145 = .ok (.invokestatic 57, 3) := by decide +kernel
theorem dF_findInCover_148 : decode cF_findInCover 148 = .ok (.istore_n 3, 1) := by decide +kernel
theorem dF_findInCover_149 : decode cF_findInCover 149 = .ok (.iinc 5 1, 3) := by decide +kernel
theorem dF_findInCover_152 : decode cF_findInCover 152 = .ok (.goto (-144), 3) := by decide +kernel
theorem dF_findInCover_155 : decode cF_findInCover 155 = .ok (.iload_n 3, 1) := by decide +kernel
theorem dF_findInCover_156 : decode cF_findInCover 156 = .ok (.ireturn, 1) := by decide +kernel
abbrev cF_firstAlike : ByteArray := prog_2_method_15_code
abbrev yF_firstAlike : MethodName := ⟨"CoverTrees$Forest", "firstAlike", "(I)I"⟩
abbrev kF_firstAlike : Cond := .code yF_firstAlike cF_firstAlike 3 (some .int)
abbrev wsF_firstAlike : List Cond := kF_firstAlike :: wB
theorem dF_firstAlike_0 : decode cF_firstAlike 0 = .ok (.iconst 0, 1) := by decide +kernel
theorem dF_firstAlike_1 : decode cF_firstAlike 1 = .ok (.istore_n 2, 1) := by decide +kernel
theorem dF_firstAlike_2 : decode cF_firstAlike 2 = .ok (.iload_n 2, 1) := by decide +kernel
theorem dF_firstAlike_3 : decode cF_firstAlike 3 = .ok (.iload_n 1, 1) := by decide +kernel
theorem dF_firstAlike_4 : decode cF_firstAlike 4 = .ok (.if_icmp .ge 30, 3) := by decide +kernel
theorem dF_firstAlike_7 : decode cF_firstAlike 7 = .ok (.aload_n 0, 1) := by decide +kernel
theorem dF_firstAlike_8 : decode cF_firstAlike 8 = .ok (.getfield 24, 3) := by decide +kernel
theorem dF_firstAlike_11 : decode cF_firstAlike 11 = .ok (.iload_n 2, 1) := by decide +kernel
theorem dF_firstAlike_12 : decode cF_firstAlike 12 = .ok (.iaload, 1) := by decide +kernel
theorem dF_firstAlike_13 : decode cF_firstAlike 13 = .ok (.iload_n 2, 1) := by decide +kernel
theorem dF_firstAlike_14 : decode cF_firstAlike 14 = .ok (.if_icmp .ne 14, 3) := by decide +kernel
theorem dF_firstAlike_17 : decode cF_firstAlike 17 = .ok (.aload_n 0, 1) := by decide +kernel
theorem dF_firstAlike_18 : decode cF_firstAlike 18 = .ok (.iload_n 2, 1) := by decide +kernel
theorem dF_firstAlike_19 : decode cF_firstAlike 19 = .ok (.iload_n 1, 1) := by decide +kernel
theorem dF_firstAlike_20 : decode cF_firstAlike 20 = .ok (.invokevirtual 108, 3) := by decide +kernel
theorem dF_firstAlike_23 : decode cF_firstAlike 23 = .ok (.ifCond .eq 5, 3) := by decide +kernel
theorem dF_firstAlike_26 : decode cF_firstAlike 26 = .ok (.iload_n 2, 1) := by decide +kernel
theorem dF_firstAlike_27 : decode cF_firstAlike 27 = .ok (.ireturn, 1) := by decide +kernel
theorem dF_firstAlike_28 : decode cF_firstAlike 28 = .ok (.iinc 2 1, 3) := by decide +kernel
theorem dF_firstAlike_31 : decode cF_firstAlike 31 = .ok (.goto (-29), 3) := by decide +kernel
theorem dF_firstAlike_34 : decode cF_firstAlike 34 = .ok (.iload_n 1, 1) := by decide +kernel
theorem dF_firstAlike_35 : decode cF_firstAlike 35 = .ok (.ireturn, 1) := by decide +kernel
abbrev cF_alike : ByteArray := prog_2_method_16_code
abbrev yF_alike : MethodName := ⟨"CoverTrees$Forest", "alike", "(II)Z"⟩
abbrev kF_alike : Cond := .code yF_alike cF_alike 6 (some .boolean)
abbrev wsF_alike : List Cond := kF_alike :: wB
theorem dF_alike_0 : decode cF_alike 0 = .ok (.iconst 0, 1) := by decide +kernel
theorem dF_alike_1 : decode cF_alike 1 = .ok (.istore_n 3, 1) := by decide +kernel
theorem dF_alike_2 : decode cF_alike 2 = .ok (.iload_n 3, 1) := by decide +kernel
theorem dF_alike_3 : decode cF_alike 3 = .ok (.bipush 8, 2) := by decide +kernel
theorem dF_alike_5 : decode cF_alike 5 = .ok (.if_icmp .ge 86, 3) := by decide +kernel
theorem dF_alike_8 : decode cF_alike 8 = .ok (.iload_n 1, 1) := by decide +kernel
theorem dF_alike_9 : decode cF_alike 9 = .ok (.iload_n 3, 1) := by decide +kernel
theorem dF_alike_10 : decode cF_alike 10 = .ok (.invokestatic 57, 3) := by decide +kernel
theorem dF_alike_13 : decode cF_alike 13 = .ok (.istore 4, 2) := by decide +kernel
theorem dF_alike_15 : decode cF_alike 15 = .ok (.iload_n 2, 1) := by decide +kernel
theorem dF_alike_16 : decode cF_alike 16 = .ok (.iload_n 3, 1) := by decide +kernel
theorem dF_alike_17 : decode cF_alike 17 = .ok (.invokestatic 57, 3) := by decide +kernel
theorem dF_alike_20 : decode cF_alike 20 = .ok (.istore 5, 2) := by decide +kernel
theorem dF_alike_22 : decode cF_alike 22 = .ok (.aload_n 0, 1) := by decide +kernel
theorem dF_alike_23 : decode cF_alike 23 = .ok (.getfield 30, 3) := by decide +kernel
theorem dF_alike_26 : decode cF_alike 26 = .ok (.iload 4, 2) := by decide +kernel
theorem dF_alike_28 : decode cF_alike 28 = .ok (.iaload, 1) := by decide +kernel
theorem dF_alike_29 : decode cF_alike 29 = .ok (.aload_n 0, 1) := by decide +kernel
theorem dF_alike_30 : decode cF_alike 30 = .ok (.getfield 30, 3) := by decide +kernel
theorem dF_alike_33 : decode cF_alike 33 = .ok (.iload 5, 2) := by decide +kernel
theorem dF_alike_35 : decode cF_alike 35 = .ok (.iaload, 1) := by decide +kernel
theorem dF_alike_36 : decode cF_alike 36 = .ok (.if_icmp .eq 5, 3) := by decide +kernel
theorem dF_alike_39 : decode cF_alike 39 = .ok (.iconst 0, 1) := by decide +kernel
theorem dF_alike_40 : decode cF_alike 40 = .ok (.ireturn, 1) := by decide +kernel
theorem dF_alike_41 : decode cF_alike 41 = .ok (.aload_n 0, 1) := by decide +kernel
theorem dF_alike_42 : decode cF_alike 42 = .ok (.getfield 30, 3) := by decide +kernel
theorem dF_alike_45 : decode cF_alike 45 = .ok (.iload 4, 2) := by decide +kernel
theorem dF_alike_47 : decode cF_alike 47 = .ok (.iaload, 1) := by decide +kernel
theorem dF_alike_48 : decode cF_alike 48 = .ok (.iconst (-1), 1) := by decide +kernel
theorem dF_alike_49 : decode cF_alike 49 = .ok (.if_icmp .eq 36, 3) := by decide +kernel
theorem dF_alike_52 : decode cF_alike 52 = .ok (.aload_n 0, 1) := by decide +kernel
theorem dF_alike_53 : decode cF_alike 53 = .ok (.getfield 27, 3) := by decide +kernel
theorem dF_alike_56 : decode cF_alike 56 = .ok (.iload 4, 2) := by decide +kernel
theorem dF_alike_58 : decode cF_alike 58 = .ok (.iaload, 1) := by decide +kernel
theorem dF_alike_59 : decode cF_alike 59 = .ok (.aload_n 0, 1) := by decide +kernel
theorem dF_alike_60 : decode cF_alike 60 = .ok (.getfield 21, 3) := by decide +kernel
theorem dF_alike_63 : decode cF_alike 63 = .ok (.iload_n 1, 1) := by decide +kernel
theorem dF_alike_64 : decode cF_alike 64 = .ok (.iaload, 1) := by decide +kernel
theorem dF_alike_65 : decode cF_alike 65 = .ok (.isub, 1) := by decide +kernel
theorem dF_alike_66 : decode cF_alike 66 = .ok (.aload_n 0, 1) := by decide +kernel
theorem dF_alike_67 : decode cF_alike 67 = .ok (.getfield 27, 3) := by decide +kernel
theorem dF_alike_70 : decode cF_alike 70 = .ok (.iload 5, 2) := by decide +kernel
theorem dF_alike_72 : decode cF_alike 72 = .ok (.iaload, 1) := by decide +kernel
theorem dF_alike_73 : decode cF_alike 73 = .ok (.aload_n 0, 1) := by decide +kernel
theorem dF_alike_74 : decode cF_alike 74 = .ok (.getfield 21, 3) := by decide +kernel
theorem dF_alike_77 : decode cF_alike 77 = .ok (.iload_n 2, 1) := by decide +kernel
theorem dF_alike_78 : decode cF_alike 78 = .ok (.iaload, 1) := by decide +kernel
theorem dF_alike_79 : decode cF_alike 79 = .ok (.isub, 1) := by decide +kernel
theorem dF_alike_80 : decode cF_alike 80 = .ok (.if_icmp .eq 5, 3) := by decide +kernel
theorem dF_alike_83 : decode cF_alike 83 = .ok (.iconst 0, 1) := by decide +kernel
theorem dF_alike_84 : decode cF_alike 84 = .ok (.ireturn, 1) := by decide +kernel
theorem dF_alike_85 : decode cF_alike 85 = .ok (.iinc 3 1, 3) := by decide +kernel
theorem dF_alike_88 : decode cF_alike 88 = .ok (.goto (-86), 3) := by decide +kernel
theorem dF_alike_91 : decode cF_alike 91 = .ok (.iconst 1, 1) := by decide +kernel
theorem dF_alike_92 : decode cF_alike 92 = .ok (.ireturn, 1) := by decide +kernel
abbrev cF_countStates : ByteArray := prog_2_method_17_code
abbrev yF_countStates : MethodName := ⟨"CoverTrees$Forest", "countStates", "()I"⟩
abbrev kF_countStates : Cond := .code yF_countStates cF_countStates 3 (some .int)
abbrev wsF_countStates : List Cond := kF_countStates :: wB
theorem dF_countStates_0 : decode cF_countStates 0 = .ok (.iconst 0, 1) := by decide +kernel
theorem dF_countStates_1 : decode cF_countStates 1 = .ok (.istore_n 1, 1) := by decide +kernel
theorem dF_countStates_2 : decode cF_countStates 2 = .ok (.iconst 0, 1) := by decide +kernel
theorem dF_countStates_3 : decode cF_countStates 3 = .ok (.istore_n 2, 1) := by decide +kernel
theorem dF_countStates_4 : decode cF_countStates 4 = .ok (.iload_n 2, 1) := by decide +kernel
theorem dF_countStates_5 : decode cF_countStates 5 = .ok (.aload_n 0, 1) := by decide +kernel
theorem dF_countStates_6 : decode cF_countStates 6 = .ok (.getfield 44, 3) := by decide +kernel
theorem dF_countStates_9 : decode cF_countStates 9 = .ok (.if_icmp .ge 22, 3) := by decide +kernel
theorem dF_countStates_12 : decode cF_countStates 12 = .ok (.aload_n 0, 1) := by decide +kernel
theorem dF_countStates_13 : decode cF_countStates 13 = .ok (.getfield 24, 3) := by decide +kernel
theorem dF_countStates_16 : decode cF_countStates 16 = .ok (.iload_n 2, 1) := by decide +kernel
theorem dF_countStates_17 : decode cF_countStates 17 = .ok (.iaload, 1) := by decide +kernel
theorem dF_countStates_18 : decode cF_countStates 18 = .ok (.iload_n 2, 1) := by decide +kernel
theorem dF_countStates_19 : decode cF_countStates 19 = .ok (.if_icmp .ne 6, 3) := by decide +kernel
theorem dF_countStates_22 : decode cF_countStates 22 = .ok (.iinc 1 1, 3) := by decide +kernel
theorem dF_countStates_25 : decode cF_countStates 25 = .ok (.iinc 2 1, 3) := by decide +kernel
theorem dF_countStates_28 : decode cF_countStates 28 = .ok (.goto (-24), 3) := by decide +kernel
theorem dF_countStates_31 : decode cF_countStates 31 = .ok (.iload_n 1, 1) := by decide +kernel
theorem dF_countStates_32 : decode cF_countStates 32 = .ok (.ireturn, 1) := by decide +kernel
