abbrev cC_init : ByteArray := prog_1_method_1_code
abbrev yC_init : MethodName := ⟨"CoverTrees", "<init>", "()V"⟩
abbrev kC_init : Cond := .code yC_init cC_init 1 none
abbrev wsC_init : List Cond := kC_init :: wB
theorem dC_init_0 : decode cC_init 0 = .ok (.aload_n 0, 1) := by decide +kernel
theorem dC_init_1 : decode cC_init 1 = .ok (.invokespecial 3, 3) := by decide +kernel
theorem dC_init_4 : decode cC_init 4 = .ok (.aload_n 0, 1) := by decide +kernel
theorem dC_init_5 : decode cC_init 5 = .ok (.new 9, 3) := by decide +kernel
theorem dC_init_8 : decode cC_init 8 = .ok (.dup, 1) := by decide +kernel
theorem dC_init_9 : decode cC_init 9 = .ok (.invokespecial 11, 3) := by decide +kernel
theorem dC_init_12 : decode cC_init 12 = .ok (.putfield 12, 3) := by decide +kernel
theorem dC_init_15 : decode cC_init 15 = .ok (.aload_n 0, 1) := by decide +kernel
theorem dC_init_16 : decode cC_init 16 = .ok (.new 16, 3) := by decide +kernel
theorem dC_init_19 : decode cC_init 19 = .ok (.dup, 1) := by decide +kernel
theorem dC_init_20 : decode cC_init 20 = .ok (.aload_n 0, 1) := by decide +kernel
theorem dC_init_21 : decode cC_init 21 = .ok (.getfield 12, 3) := by decide +kernel
theorem dC_init_24 : decode cC_init 24 = .ok (.invokespecial 18, 3) := by decide +kernel
theorem dC_init_27 : decode cC_init 27 = .ok (.putfield 21, 3) := by decide +kernel
theorem dC_init_30 : decode cC_init 30 = .ok (.return_, 1) := by decide +kernel
abbrev cC_clear : ByteArray := prog_1_method_2_code
abbrev yC_clear : MethodName := ⟨"CoverTrees", "clear", "()V"⟩
abbrev kC_clear : Cond := .code yC_clear cC_clear 1 none
abbrev wsC_clear : List Cond := kC_clear :: wB
theorem dC_clear_0 : decode cC_clear 0 = .ok (.aload_n 0, 1) := by decide +kernel
theorem dC_clear_1 : decode cC_clear 1 = .ok (.getfield 21, 3) := by decide +kernel
theorem dC_clear_4 : decode cC_clear 4 = .ok (.iconst 0, 1) := by decide +kernel
theorem dC_clear_5 : decode cC_clear 5 = .ok (.putfield 25, 3) := by decide +kernel
theorem dC_clear_8 : decode cC_clear 8 = .ok (.aload_n 0, 1) := by decide +kernel
theorem dC_clear_9 : decode cC_clear 9 = .ok (.getfield 12, 3) := by decide +kernel
theorem dC_clear_12 : decode cC_clear 12 = .ok (.iconst 0, 1) := by decide +kernel
theorem dC_clear_13 : decode cC_clear 13 = .ok (.putfield 29, 3) := by decide +kernel
theorem dC_clear_16 : decode cC_clear 16 = .ok (.aload_n 0, 1) := by decide +kernel
theorem dC_clear_17 : decode cC_clear 17 = .ok (.getfield 12, 3) := by decide +kernel
theorem dC_clear_20 : decode cC_clear 20 = .ok (.iconst 0, 1) := by decide +kernel
theorem dC_clear_21 : decode cC_clear 21 = .ok (.putfield 32, 3) := by decide +kernel
theorem dC_clear_24 : decode cC_clear 24 = .ok (.return_, 1) := by decide +kernel
abbrev cC_fell : ByteArray := prog_1_method_3_code
abbrev yC_fell : MethodName := ⟨"CoverTrees", "fell", "()V"⟩
abbrev kC_fell : Cond := .code yC_fell cC_fell 1 none
abbrev wsC_fell : List Cond := kC_fell :: wB
theorem dC_fell_0 : decode cC_fell 0 = .ok (.aload_n 0, 1) := by decide +kernel
theorem dC_fell_1 : decode cC_fell 1 = .ok (.getfield 21, 3) := by decide +kernel
theorem dC_fell_4 : decode cC_fell 4 = .ok (.iconst 0, 1) := by decide +kernel
theorem dC_fell_5 : decode cC_fell 5 = .ok (.putfield 25, 3) := by decide +kernel
theorem dC_fell_8 : decode cC_fell 8 = .ok (.return_, 1) := by decide +kernel
abbrev cC_operator : ByteArray := prog_1_method_4_code
abbrev yC_operator : MethodName := ⟨"CoverTrees", "operator", "(I)I"⟩
abbrev kC_operator : Cond := .code yC_operator cC_operator 2 (some .int)
abbrev wsC_operator : List Cond := kC_operator :: wB
theorem dC_operator_0 : decode cC_operator 0 = .ok (.iload_n 1, 1) := by decide +kernel
theorem dC_operator_1 : decode cC_operator 1 = .ok (.ifCond .lt 8, 3) := by decide +kernel
theorem dC_operator_4 : decode cC_operator 4 = .ok (.iload_n 1, 1) := by decide +kernel
theorem dC_operator_5 : decode cC_operator 5 = .ok (.iconst 2, 1) := by decide +kernel
theorem dC_operator_6 : decode cC_operator 6 = .ok (.if_icmp .le 13, 3) := by decide +kernel
theorem dC_operator_9 : decode cC_operator 9 = .ok (.new 35, 3) := by decide +kernel
theorem dC_operator_12 : decode cC_operator 12 = .ok (.dup, 1) := by decide +kernel
theorem dC_operator_13 : decode cC_operator 13 = .ok (.ldc 37, 2) := by decide +kernel
theorem dC_operator_15 : decode cC_operator 15 = .ok (.invokespecial 39, 3) := by decide +kernel
theorem dC_operator_18 : decode cC_operator 18 = .ok (.athrow, 1) := by decide +kernel
theorem dC_operator_19 : decode cC_operator 19 = .ok (.aload_n 0, 1) := by decide +kernel
theorem dC_operator_20 : decode cC_operator 20 = .ok (.getfield 12, 3) := by decide +kernel
theorem dC_operator_23 : decode cC_operator 23 = .ok (.getfield 32, 3) := by decide +kernel
theorem dC_operator_26 : decode cC_operator 26 = .ok (.bipush 10, 2) := by decide +kernel
theorem dC_operator_28 : decode cC_operator 28 = .ok (.if_icmp .lt 13, 3) := by decide +kernel
theorem dC_operator_31 : decode cC_operator 31 = .ok (.new 42, 3) := by decide +kernel
theorem dC_operator_34 : decode cC_operator 34 = .ok (.dup, 1) := by decide +kernel
theorem dC_operator_35 : decode cC_operator 35 = .ok (.ldc 44, 2) := by decide +kernel
theorem dC_operator_37 : decode cC_operator 37 = .ok (.invokespecial 46, 3) := by decide +kernel
theorem dC_operator_40 : decode cC_operator 40 = .ok (.athrow, 1) := by decide +kernel
theorem dC_operator_41 : decode cC_operator 41 = .ok (.aload_n 0, 1) := by decide +kernel
theorem dC_operator_42 : decode cC_operator 42 = .ok (.getfield 12, 3) := by decide +kernel
theorem dC_operator_45 : decode cC_operator 45 = .ok (.iload_n 1, 1) := by decide +kernel
theorem dC_operator_46 : decode cC_operator 46 = .ok (.invokevirtual 47, 3) := by decide +kernel
theorem dC_operator_49 : decode cC_operator 49 = .ok (.ireturn, 1) := by decide +kernel
abbrev cC_base : ByteArray := prog_1_method_5_code
abbrev yC_base : MethodName := ⟨"CoverTrees", "base", "(IIIII)I"⟩
abbrev kC_base : Cond := .code yC_base cC_base 7 (some .int)
abbrev wsC_base : List Cond := kC_base :: wB
theorem dC_base_0 : decode cC_base 0 = .ok (.iload_n 1, 1) := by decide +kernel
theorem dC_base_1 : decode cC_base 1 = .ok (.invokestatic 51, 3) := by decide +kernel
theorem dC_base_4 : decode cC_base 4 = .ok (.ifCond .eq 14, 3) := by decide +kernel
theorem dC_base_7 : decode cC_base 7 = .ok (.aload_n 0, 1) := by decide +kernel
theorem dC_base_8 : decode cC_base 8 = .ok (.getfield 12, 3) := by decide +kernel
theorem dC_base_11 : decode cC_base 11 = .ok (.iload_n 2, 1) := by decide +kernel
theorem dC_base_12 : decode cC_base 12 = .ok (.invokevirtual 55, 3) := by decide +kernel
theorem dC_base_15 : decode cC_base 15 = .ok (.ifCond .ne 13, 3) := by decide +kernel
theorem dC_base_18 : decode cC_base 18 = .ok (.new 35, 3) := by decide +kernel
theorem dC_base_21 : decode cC_base 21 = .ok (.dup, 1) := by decide +kernel
theorem dC_base_22 : decode cC_base 22 = .ok (.ldc 58, 2) := by decide +kernel
theorem dC_base_24 : decode cC_base 24 = .ok (.invokespecial 39, 3) := by decide +kernel
theorem dC_base_27 : decode cC_base 27 = .ok (.athrow, 1) := by decide +kernel
theorem dC_base_28 : decode cC_base 28 = .ok (.aload_n 0, 1) := by decide +kernel
theorem dC_base_29 : decode cC_base 29 = .ok (.getfield 12, 3) := by decide +kernel
theorem dC_base_32 : decode cC_base 32 = .ok (.getfield 60, 3) := by decide +kernel
theorem dC_base_35 : decode cC_base 35 = .ok (.iload_n 2, 1) := by decide +kernel
theorem dC_base_36 : decode cC_base 36 = .ok (.iaload, 1) := by decide +kernel
theorem dC_base_37 : decode cC_base 37 = .ok (.istore 6, 2) := by decide +kernel
theorem dC_base_39 : decode cC_base 39 = .ok (.iload 6, 2) := by decide +kernel
theorem dC_base_41 : decode cC_base 41 = .ok (.iconst 1, 1) := by decide +kernel
theorem dC_base_42 : decode cC_base 42 = .ok (.if_icmp .lt 10, 3) := by decide +kernel
theorem dC_base_45 : decode cC_base 45 = .ok (.iload_n 3, 1) := by decide +kernel
theorem dC_base_46 : decode cC_base 46 = .ok (.invokestatic 51, 3) := by decide +kernel
theorem dC_base_49 : decode cC_base 49 = .ok (.ifCond .eq 17, 3) := by decide +kernel
theorem dC_base_52 : decode cC_base 52 = .ok (.iload 6, 2) := by decide +kernel
theorem dC_base_54 : decode cC_base 54 = .ok (.iconst 2, 1) := by decide +kernel
theorem dC_base_55 : decode cC_base 55 = .ok (.if_icmp .lt 21, 3) := by decide +kernel
theorem dC_base_58 : decode cC_base 58 = .ok (.iload 4, 2) := by decide +kernel
theorem dC_base_60 : decode cC_base 60 = .ok (.invokestatic 51, 3) := by decide +kernel
theorem dC_base_63 : decode cC_base 63 = .ok (.ifCond .ne 13, 3) := by decide +kernel
theorem dC_base_66 : decode cC_base 66 = .ok (.new 35, 3) := by decide +kernel
theorem dC_base_69 : decode cC_base 69 = .ok (.dup, 1) := by decide +kernel
theorem dC_base_70 : decode cC_base 70 = .ok (.ldc 64, 2) := by decide +kernel
theorem dC_base_72 : decode cC_base 72 = .ok (.invokespecial 39, 3) := by decide +kernel
theorem dC_base_75 : decode cC_base 75 = .ok (.athrow, 1) := by decide +kernel
theorem dC_base_76 : decode cC_base 76 = .ok (.iload 5, 2) := by decide +kernel
theorem dC_base_78 : decode cC_base 78 = .ok (.invokestatic 66, 3) := by decide +kernel
theorem dC_base_81 : decode cC_base 81 = .ok (.aload_n 0, 1) := by decide +kernel
theorem dC_base_82 : decode cC_base 82 = .ok (.invokevirtual 70, 3) := by decide +kernel
theorem dC_base_85 : decode cC_base 85 = .ok (.aload_n 0, 1) := by decide +kernel
theorem dC_base_86 : decode cC_base 86 = .ok (.getfield 21, 3) := by decide +kernel
theorem dC_base_89 : decode cC_base 89 = .ok (.iconst 0, 1) := by decide +kernel
theorem dC_base_90 : decode cC_base 90 = .ok (.putfield 25, 3) := by decide +kernel
theorem dC_base_93 : decode cC_base 93 = .ok (.aload_n 0, 1) := by decide +kernel
theorem dC_base_94 : decode cC_base 94 = .ok (.getfield 12, 3) := by decide +kernel
theorem dC_base_97 : decode cC_base 97 = .ok (.iload_n 1, 1) := by decide +kernel
theorem dC_base_98 : decode cC_base 98 = .ok (.iload_n 2, 1) := by decide +kernel
theorem dC_base_99 : decode cC_base 99 = .ok (.iload 6, 2) := by decide +kernel
theorem dC_base_101 : decode cC_base 101 = .ok (.iconst 1, 1) := by decide +kernel
theorem dC_base_102 : decode cC_base 102 = .ok (.if_icmp .lt 7, 3) := by decide +kernel
theorem dC_base_105 : decode cC_base 105 = .ok (.iload_n 3, 1) := by decide +kernel
theorem dC_base_106 : decode cC_base 106 = .ok (.goto 4, 3) := by decide +kernel
theorem dC_base_109 : decode cC_base 109 = .ok (.iconst 0, 1) := by decide +kernel
theorem dC_base_110 : decode cC_base 110 = .ok (.iload 6, 2) := by decide +kernel
theorem dC_base_112 : decode cC_base 112 = .ok (.iconst 2, 1) := by decide +kernel
theorem dC_base_113 : decode cC_base 113 = .ok (.if_icmp .lt 8, 3) := by decide +kernel
theorem dC_base_116 : decode cC_base 116 = .ok (.iload 4, 2) := by decide +kernel
theorem dC_base_118 : decode cC_base 118 = .ok (.goto 4, 3) := by decide +kernel
theorem dC_base_121 : decode cC_base 121 = .ok (.iconst 0, 1) := by decide +kernel
theorem dC_base_122 : decode cC_base 122 = .ok (.iload 5, 2) := by decide +kernel
theorem dC_base_124 : decode cC_base 124 = .ok (.invokevirtual 73, 3) := by decide +kernel
theorem dC_base_127 : decode cC_base 127 = .ok (.ireturn, 1) := by decide +kernel
abbrev cC_chain : ByteArray := prog_1_method_6_code
abbrev yC_chain : MethodName := ⟨"CoverTrees", "chain", "(III)I"⟩
abbrev kC_chain : Cond := .code yC_chain cC_chain 4 (some .int)
abbrev wsC_chain : List Cond := kC_chain :: wB
theorem dC_chain_0 : decode cC_chain 0 = .ok (.iload_n 1, 1) := by decide +kernel
theorem dC_chain_1 : decode cC_chain 1 = .ok (.invokestatic 51, 3) := by decide +kernel
theorem dC_chain_4 : decode cC_chain 4 = .ok (.ifCond .eq 10, 3) := by decide +kernel
theorem dC_chain_7 : decode cC_chain 7 = .ok (.iload_n 2, 1) := by decide +kernel
theorem dC_chain_8 : decode cC_chain 8 = .ok (.invokestatic 51, 3) := by decide +kernel
theorem dC_chain_11 : decode cC_chain 11 = .ok (.ifCond .ne 13, 3) := by decide +kernel
theorem dC_chain_14 : decode cC_chain 14 = .ok (.new 35, 3) := by decide +kernel
theorem dC_chain_17 : decode cC_chain 17 = .ok (.dup, 1) := by decide +kernel
theorem dC_chain_18 : decode cC_chain 18 = .ok (.ldc 77, 2) := by decide +kernel
theorem dC_chain_20 : decode cC_chain 20 = .ok (.invokespecial 39, 3) := by decide +kernel
theorem dC_chain_23 : decode cC_chain 23 = .ok (.athrow, 1) := by decide +kernel
theorem dC_chain_24 : decode cC_chain 24 = .ok (.iload_n 1, 1) := by decide +kernel
theorem dC_chain_25 : decode cC_chain 25 = .ok (.iload_n 2, 1) := by decide +kernel
theorem dC_chain_26 : decode cC_chain 26 = .ok (.if_icmp .ne 13, 3) := by decide +kernel
theorem dC_chain_29 : decode cC_chain 29 = .ok (.new 35, 3) := by decide +kernel
theorem dC_chain_32 : decode cC_chain 32 = .ok (.dup, 1) := by decide +kernel
theorem dC_chain_33 : decode cC_chain 33 = .ok (.ldc 79, 2) := by decide +kernel
theorem dC_chain_35 : decode cC_chain 35 = .ok (.invokespecial 39, 3) := by decide +kernel
theorem dC_chain_38 : decode cC_chain 38 = .ok (.athrow, 1) := by decide +kernel
theorem dC_chain_39 : decode cC_chain 39 = .ok (.iload_n 3, 1) := by decide +kernel
theorem dC_chain_40 : decode cC_chain 40 = .ok (.invokestatic 66, 3) := by decide +kernel
theorem dC_chain_43 : decode cC_chain 43 = .ok (.aload_n 0, 1) := by decide +kernel
theorem dC_chain_44 : decode cC_chain 44 = .ok (.invokevirtual 70, 3) := by decide +kernel
theorem dC_chain_47 : decode cC_chain 47 = .ok (.aload_n 0, 1) := by decide +kernel
theorem dC_chain_48 : decode cC_chain 48 = .ok (.getfield 21, 3) := by decide +kernel
theorem dC_chain_51 : decode cC_chain 51 = .ok (.iconst 0, 1) := by decide +kernel
theorem dC_chain_52 : decode cC_chain 52 = .ok (.putfield 25, 3) := by decide +kernel
theorem dC_chain_55 : decode cC_chain 55 = .ok (.aload_n 0, 1) := by decide +kernel
theorem dC_chain_56 : decode cC_chain 56 = .ok (.getfield 12, 3) := by decide +kernel
theorem dC_chain_59 : decode cC_chain 59 = .ok (.iload_n 1, 1) := by decide +kernel
theorem dC_chain_60 : decode cC_chain 60 = .ok (.iconst (-1), 1) := by decide +kernel
theorem dC_chain_61 : decode cC_chain 61 = .ok (.iload_n 2, 1) := by decide +kernel
theorem dC_chain_62 : decode cC_chain 62 = .ok (.iconst 0, 1) := by decide +kernel
theorem dC_chain_63 : decode cC_chain 63 = .ok (.iload_n 3, 1) := by decide +kernel
theorem dC_chain_64 : decode cC_chain 64 = .ok (.invokevirtual 73, 3) := by decide +kernel
theorem dC_chain_67 : decode cC_chain 67 = .ok (.ireturn, 1) := by decide +kernel
abbrev cC_node : ByteArray := prog_1_method_7_code
abbrev yC_node : MethodName := ⟨"CoverTrees", "node", "(III)I"⟩
abbrev kC_node : Cond := .code yC_node cC_node 5 (some .int)
abbrev wsC_node : List Cond := kC_node :: wB
theorem dC_node_0 : decode cC_node 0 = .ok (.aload_n 0, 1) := by decide +kernel
theorem dC_node_1 : decode cC_node 1 = .ok (.getfield 12, 3) := by decide +kernel
theorem dC_node_4 : decode cC_node 4 = .ok (.iload_n 1, 1) := by decide +kernel
theorem dC_node_5 : decode cC_node 5 = .ok (.invokevirtual 55, 3) := by decide +kernel
theorem dC_node_8 : decode cC_node 8 = .ok (.ifCond .ne 13, 3) := by decide +kernel
theorem dC_node_11 : decode cC_node 11 = .ok (.new 35, 3) := by decide +kernel
theorem dC_node_14 : decode cC_node 14 = .ok (.dup, 1) := by decide +kernel
theorem dC_node_15 : decode cC_node 15 = .ok (.ldc 81, 2) := by decide +kernel
theorem dC_node_17 : decode cC_node 17 = .ok (.invokespecial 39, 3) := by decide +kernel
theorem dC_node_20 : decode cC_node 20 = .ok (.athrow, 1) := by decide +kernel
theorem dC_node_21 : decode cC_node 21 = .ok (.aload_n 0, 1) := by decide +kernel
theorem dC_node_22 : decode cC_node 22 = .ok (.getfield 12, 3) := by decide +kernel
theorem dC_node_25 : decode cC_node 25 = .ok (.getfield 60, 3) := by decide +kernel
theorem dC_node_28 : decode cC_node 28 = .ok (.iload_n 1, 1) := by decide +kernel
theorem dC_node_29 : decode cC_node 29 = .ok (.iaload, 1) := by decide +kernel
theorem dC_node_30 : decode cC_node 30 = .ok (.istore 4, 2) := by decide +kernel
theorem dC_node_32 : decode cC_node 32 = .ok (.iload 4, 2) := by decide +kernel
theorem dC_node_34 : decode cC_node 34 = .ok (.iconst 1, 1) := by decide +kernel
theorem dC_node_35 : decode cC_node 35 = .ok (.if_icmp .lt 14, 3) := by decide +kernel
theorem dC_node_38 : decode cC_node 38 = .ok (.aload_n 0, 1) := by decide +kernel
theorem dC_node_39 : decode cC_node 39 = .ok (.getfield 21, 3) := by decide +kernel
theorem dC_node_42 : decode cC_node 42 = .ok (.iload_n 2, 1) := by decide +kernel
theorem dC_node_43 : decode cC_node 43 = .ok (.invokevirtual 83, 3) := by decide +kernel
theorem dC_node_46 : decode cC_node 46 = .ok (.ifCond .eq 20, 3) := by decide +kernel
theorem dC_node_49 : decode cC_node 49 = .ok (.iload 4, 2) := by decide +kernel
theorem dC_node_51 : decode cC_node 51 = .ok (.iconst 2, 1) := by decide +kernel
theorem dC_node_52 : decode cC_node 52 = .ok (.if_icmp .lt 24, 3) := by decide +kernel
theorem dC_node_55 : decode cC_node 55 = .ok (.aload_n 0, 1) := by decide +kernel
theorem dC_node_56 : decode cC_node 56 = .ok (.getfield 21, 3) := by decide +kernel
theorem dC_node_59 : decode cC_node 59 = .ok (.iload_n 3, 1) := by decide +kernel
theorem dC_node_60 : decode cC_node 60 = .ok (.invokevirtual 83, 3) := by decide +kernel
theorem dC_node_63 : decode cC_node 63 = .ok (.ifCond .ne 13, 3) := by decide +kernel
theorem dC_node_66 : decode cC_node 66 = .ok (.new 35, 3) := by decide +kernel
theorem dC_node_69 : decode cC_node 69 = .ok (.dup, 1) := by decide +kernel
theorem dC_node_70 : decode cC_node 70 = .ok (.ldc 86, 2) := by decide +kernel
theorem dC_node_72 : decode cC_node 72 = .ok (.invokespecial 39, 3) := by decide +kernel
theorem dC_node_75 : decode cC_node 75 = .ok (.athrow, 1) := by decide +kernel
theorem dC_node_76 : decode cC_node 76 = .ok (.aload_n 0, 1) := by decide +kernel
theorem dC_node_77 : decode cC_node 77 = .ok (.getfield 21, 3) := by decide +kernel
theorem dC_node_80 : decode cC_node 80 = .ok (.getfield 25, 3) := by decide +kernel
theorem dC_node_83 : decode cC_node 83 = .ok (.bipush 120, 2) := by decide +kernel
theorem dC_node_85 : decode cC_node 85 = .ok (.if_icmp .lt 13, 3) := by decide +kernel
theorem dC_node_88 : decode cC_node 88 = .ok (.new 42, 3) := by decide +kernel
theorem dC_node_91 : decode cC_node 91 = .ok (.dup, 1) := by decide +kernel
theorem dC_node_92 : decode cC_node 92 = .ok (.ldc 88, 2) := by decide +kernel
theorem dC_node_94 : decode cC_node 94 = .ok (.invokespecial 46, 3) := by decide +kernel
theorem dC_node_97 : decode cC_node 97 = .ok (.athrow, 1) := by decide +kernel
theorem dC_node_98 : decode cC_node 98 = .ok (.aload_n 0, 1) := by decide +kernel
theorem dC_node_99 : decode cC_node 99 = .ok (.getfield 21, 3) := by decide +kernel
theorem dC_node_102 : decode cC_node 102 = .ok (.iload_n 1, 1) := by decide +kernel
theorem dC_node_103 : decode cC_node 103 = .ok (.iload 4, 2) := by decide +kernel
theorem dC_node_105 : decode cC_node 105 = .ok (.iconst 1, 1) := by decide +kernel
theorem dC_node_106 : decode cC_node 106 = .ok (.if_icmp .lt 7, 3) := by decide +kernel
theorem dC_node_109 : decode cC_node 109 = .ok (.iload_n 2, 1) := by decide +kernel
theorem dC_node_110 : decode cC_node 110 = .ok (.goto 4, 3) := by decide +kernel
theorem dC_node_113 : decode cC_node 113 = .ok (.iconst 0, 1) := by decide +kernel
theorem dC_node_114 : decode cC_node 114 = .ok (.iload 4, 2) := by decide +kernel
theorem dC_node_116 : decode cC_node 116 = .ok (.iconst 2, 1) := by decide +kernel
theorem dC_node_117 : decode cC_node 117 = .ok (.if_icmp .lt 7, 3) := by decide +kernel
theorem dC_node_120 : decode cC_node 120 = .ok (.iload_n 3, 1) := by decide +kernel
theorem dC_node_121 : decode cC_node 121 = .ok (.goto 4, 3) := by decide +kernel
theorem dC_node_124 : decode cC_node 124 = .ok (.iconst 0, 1) := by decide +kernel
theorem dC_node_125 : decode cC_node 125 = .ok (.invokevirtual 90, 3) := by decide +kernel
theorem dC_node_128 : decode cC_node 128 = .ok (.aload_n 0, 1) := by decide +kernel
theorem dC_node_129 : decode cC_node 129 = .ok (.getfield 21, 3) := by decide +kernel
theorem dC_node_132 : decode cC_node 132 = .ok (.invokevirtual 94, 3) := by decide +kernel
theorem dC_node_135 : decode cC_node 135 = .ok (.ifCond .eq 13, 3) := by decide +kernel
theorem dC_node_138 : decode cC_node 138 = .ok (.new 42, 3) := by decide +kernel
theorem dC_node_141 : decode cC_node 141 = .ok (.dup, 1) := by decide +kernel
theorem dC_node_142 : decode cC_node 142 = .ok (.ldc 98, 2) := by decide +kernel
theorem dC_node_144 : decode cC_node 144 = .ok (.invokespecial 46, 3) := by decide +kernel
theorem dC_node_147 : decode cC_node 147 = .ok (.athrow, 1) := by decide +kernel
theorem dC_node_148 : decode cC_node 148 = .ok (.aload_n 0, 1) := by decide +kernel
theorem dC_node_149 : decode cC_node 149 = .ok (.getfield 21, 3) := by decide +kernel
theorem dC_node_152 : decode cC_node 152 = .ok (.invokevirtual 100, 3) := by decide +kernel
theorem dC_node_155 : decode cC_node 155 = .ok (.ireturn, 1) := by decide +kernel
abbrev cC_cost : ByteArray := prog_1_method_8_code
abbrev yC_cost : MethodName := ⟨"CoverTrees", "cost", "(II)I"⟩
abbrev kC_cost : Cond := .code yC_cost cC_cost 3 (some .int)
abbrev wsC_cost : List Cond := kC_cost :: wB
theorem dC_cost_0 : decode cC_cost 0 = .ok (.aload_n 0, 1) := by decide +kernel
theorem dC_cost_1 : decode cC_cost 1 = .ok (.iload_n 1, 1) := by decide +kernel
theorem dC_cost_2 : decode cC_cost 2 = .ok (.iload_n 2, 1) := by decide +kernel
theorem dC_cost_3 : decode cC_cost 3 = .ok (.invokevirtual 104, 3) := by decide +kernel
theorem dC_cost_6 : decode cC_cost 6 = .ok (.aload_n 0, 1) := by decide +kernel
theorem dC_cost_7 : decode cC_cost 7 = .ok (.getfield 21, 3) := by decide +kernel
theorem dC_cost_10 : decode cC_cost 10 = .ok (.getfield 108, 3) := by decide +kernel
theorem dC_cost_13 : decode cC_cost 13 = .ok (.iload_n 1, 1) := by decide +kernel
theorem dC_cost_14 : decode cC_cost 14 = .ok (.iload_n 2, 1) := by decide +kernel
theorem dC_cost_15 : decode cC_cost 15 = .ok (.invokestatic 111, 3) := by decide +kernel
theorem dC_cost_18 : decode cC_cost 18 = .ok (.iaload, 1) := by decide +kernel
theorem dC_cost_19 : decode cC_cost 19 = .ok (.ireturn, 1) := by decide +kernel
abbrev cC_rule : ByteArray := prog_1_method_9_code
abbrev yC_rule : MethodName := ⟨"CoverTrees", "rule", "(II)I"⟩
abbrev kC_rule : Cond := .code yC_rule cC_rule 3 (some .int)
abbrev wsC_rule : List Cond := kC_rule :: wB
theorem dC_rule_0 : decode cC_rule 0 = .ok (.aload_n 0, 1) := by decide +kernel
theorem dC_rule_1 : decode cC_rule 1 = .ok (.iload_n 1, 1) := by decide +kernel
theorem dC_rule_2 : decode cC_rule 2 = .ok (.iload_n 2, 1) := by decide +kernel
theorem dC_rule_3 : decode cC_rule 3 = .ok (.invokevirtual 104, 3) := by decide +kernel
theorem dC_rule_6 : decode cC_rule 6 = .ok (.aload_n 0, 1) := by decide +kernel
theorem dC_rule_7 : decode cC_rule 7 = .ok (.getfield 21, 3) := by decide +kernel
theorem dC_rule_10 : decode cC_rule 10 = .ok (.getfield 115, 3) := by decide +kernel
theorem dC_rule_13 : decode cC_rule 13 = .ok (.iload_n 1, 1) := by decide +kernel
theorem dC_rule_14 : decode cC_rule 14 = .ok (.iload_n 2, 1) := by decide +kernel
theorem dC_rule_15 : decode cC_rule 15 = .ok (.invokestatic 111, 3) := by decide +kernel
theorem dC_rule_18 : decode cC_rule 18 = .ok (.iaload, 1) := by decide +kernel
theorem dC_rule_19 : decode cC_rule 19 = .ok (.ireturn, 1) := by decide +kernel
abbrev cC_size : ByteArray := prog_1_method_10_code
abbrev yC_size : MethodName := ⟨"CoverTrees", "size", "(II)I"⟩
abbrev kC_size : Cond := .code yC_size cC_size 3 (some .int)
abbrev wsC_size : List Cond := kC_size :: wB
theorem dC_size_0 : decode cC_size 0 = .ok (.aload_n 0, 1) := by decide +kernel
theorem dC_size_1 : decode cC_size 1 = .ok (.iload_n 1, 1) := by decide +kernel
theorem dC_size_2 : decode cC_size 2 = .ok (.iload_n 2, 1) := by decide +kernel
theorem dC_size_3 : decode cC_size 3 = .ok (.invokevirtual 104, 3) := by decide +kernel
theorem dC_size_6 : decode cC_size 6 = .ok (.aload_n 0, 1) := by decide +kernel
theorem dC_size_7 : decode cC_size 7 = .ok (.iload_n 1, 1) := by decide +kernel
theorem dC_size_8 : decode cC_size 8 = .ok (.iload_n 2, 1) := by decide +kernel
theorem dC_size_9 : decode cC_size 9 = .ok (.invokevirtual 118, 3) := by decide +kernel
theorem dC_size_12 : decode cC_size 12 = .ok (.ireturn, 1) := by decide +kernel
abbrev cC_cover : ByteArray := prog_1_method_11_code
abbrev yC_cover : MethodName := ⟨"CoverTrees", "cover", "(IIII)I"⟩
abbrev kC_cover : Cond := .code yC_cover cC_cover 7 (some .int)
abbrev wsC_cover : List Cond := kC_cover :: wB
theorem dC_cover_0 : decode cC_cover 0 = .ok (.aload_n 0, 1) := by decide +kernel
theorem dC_cover_1 : decode cC_cover 1 = .ok (.iload_n 1, 1) := by decide +kernel
theorem dC_cover_2 : decode cC_cover 2 = .ok (.iload_n 2, 1) := by decide +kernel
theorem dC_cover_3 : decode cC_cover 3 = .ok (.invokevirtual 104, 3) := by decide +kernel
theorem dC_cover_6 : decode cC_cover 6 = .ok (.aload_n 0, 1) := by decide +kernel
theorem dC_cover_7 : decode cC_cover 7 = .ok (.iload_n 1, 1) := by decide +kernel
theorem dC_cover_8 : decode cC_cover 8 = .ok (.iload_n 2, 1) := by decide +kernel
theorem dC_cover_9 : decode cC_cover 9 = .ok (.invokevirtual 118, 3) := by decide +kernel
theorem dC_cover_12 : decode cC_cover 12 = .ok (.istore 5, 2) := by decide +kernel
theorem dC_cover_14 : decode cC_cover 14 = .ok (.iload 4, 2) := by decide +kernel
theorem dC_cover_16 : decode cC_cover 16 = .ok (.ifCond .eq 19, 3) := by decide +kernel
theorem dC_cover_19 : decode cC_cover 19 = .ok (.iload 4, 2) := by decide +kernel
theorem dC_cover_21 : decode cC_cover 21 = .ok (.iconst 1, 1) := by decide +kernel
theorem dC_cover_22 : decode cC_cover 22 = .ok (.if_icmp .eq 13, 3) := by decide +kernel
theorem dC_cover_25 : decode cC_cover 25 = .ok (.new 35, 3) := by decide +kernel
theorem dC_cover_28 : decode cC_cover 28 = .ok (.dup, 1) := by decide +kernel
theorem dC_cover_29 : decode cC_cover 29 = .ok (.ldc 121, 2) := by decide +kernel
theorem dC_cover_31 : decode cC_cover 31 = .ok (.invokespecial 39, 3) := by decide +kernel
theorem dC_cover_34 : decode cC_cover 34 = .ok (.athrow, 1) := by decide +kernel
theorem dC_cover_35 : decode cC_cover 35 = .ok (.iload_n 3, 1) := by decide +kernel
theorem dC_cover_36 : decode cC_cover 36 = .ok (.ifCond .lt 9, 3) := by decide +kernel
theorem dC_cover_39 : decode cC_cover 39 = .ok (.iload_n 3, 1) := by decide +kernel
theorem dC_cover_40 : decode cC_cover 40 = .ok (.iload 5, 2) := by decide +kernel
theorem dC_cover_42 : decode cC_cover 42 = .ok (.if_icmp .lt 13, 3) := by decide +kernel
theorem dC_cover_45 : decode cC_cover 45 = .ok (.new 123, 3) := by decide +kernel
theorem dC_cover_48 : decode cC_cover 48 = .ok (.dup, 1) := by decide +kernel
theorem dC_cover_49 : decode cC_cover 49 = .ok (.ldc 125, 2) := by decide +kernel
theorem dC_cover_51 : decode cC_cover 51 = .ok (.invokespecial 127, 3) := by decide +kernel
theorem dC_cover_54 : decode cC_cover 54 = .ok (.athrow, 1) := by decide +kernel
theorem dC_cover_55 : decode cC_cover 55 = .ok (.aload_n 0, 1) := by decide +kernel
theorem dC_cover_56 : decode cC_cover 56 = .ok (.getfield 21, 3) := by decide +kernel
theorem dC_cover_59 : decode cC_cover 59 = .ok (.iload_n 1, 1) := by decide +kernel
theorem dC_cover_60 : decode cC_cover 60 = .ok (.iload_n 2, 1) := by decide +kernel
theorem dC_cover_61 : decode cC_cover 61 = .ok (.invokestatic 111, 3) := by decide +kernel
theorem dC_cover_64 : decode cC_cover 64 = .ok (.iload_n 3, 1) := by decide +kernel
theorem dC_cover_65 : decode cC_cover 65 = .ok (.invokevirtual 128, 3) := by decide +kernel
theorem dC_cover_68 : decode cC_cover 68 = .ok (.istore 6, 2) := by decide +kernel
theorem dC_cover_70 : decode cC_cover 70 = .ok (.iload 4, 2) := by decide +kernel
theorem dC_cover_72 : decode cC_cover 72 = .ok (.ifCond .ne 16, 3) := by decide +kernel
theorem dC_cover_75 : decode cC_cover 75 = .ok (.aload_n 0, 1) := by decide +kernel
theorem dC_cover_76 : decode cC_cover 76 = .ok (.getfield 21, 3) := by decide +kernel
theorem dC_cover_79 : decode cC_cover 79 = .ok (.getfield 115, 3) := by decide +kernel
theorem dC_cover_82 : decode cC_cover 82 = .ok (.iload 6, 2) := by decide +kernel
theorem dC_cover_84 : decode cC_cover 84 = .ok (.iaload, 1) := by decide +kernel
theorem dC_cover_85 : decode cC_cover 85 = .ok (.goto 8, 3) := by decide +kernel
theorem dC_cover_88 : decode cC_cover 88 = .ok (.iload 6, 2) := by decide +kernel
theorem dC_cover_90 : decode cC_cover 90 = .ok (.bipush 8, 2) := by decide +kernel
theorem dC_cover_92 : decode cC_cover 92 = .ok (.idiv, 1) := by decide +kernel
theorem dC_cover_93 : decode cC_cover 93 = .ok (.ireturn, 1) := by decide +kernel
abbrev cC_states : ByteArray := prog_1_method_12_code
abbrev yC_states : MethodName := ⟨"CoverTrees", "states", "()I"⟩
abbrev kC_states : Cond := .code yC_states cC_states 1 (some .int)
abbrev wsC_states : List Cond := kC_states :: wB
theorem dC_states_0 : decode cC_states 0 = .ok (.aload_n 0, 1) := by decide +kernel
theorem dC_states_1 : decode cC_states 1 = .ok (.getfield 21, 3) := by decide +kernel
theorem dC_states_4 : decode cC_states 4 = .ok (.invokevirtual 131, 3) := by decide +kernel
theorem dC_states_7 : decode cC_states 7 = .ok (.ireturn, 1) := by decide +kernel
abbrev cC_like : ByteArray := prog_1_method_13_code
abbrev yC_like : MethodName := ⟨"CoverTrees", "like", "(I)I"⟩
abbrev kC_like : Cond := .code yC_like cC_like 2 (some .int)
abbrev wsC_like : List Cond := kC_like :: wB
theorem dC_like_0 : decode cC_like 0 = .ok (.aload_n 0, 1) := by decide +kernel
theorem dC_like_1 : decode cC_like 1 = .ok (.getfield 21, 3) := by decide +kernel
theorem dC_like_4 : decode cC_like 4 = .ok (.iload_n 1, 1) := by decide +kernel
theorem dC_like_5 : decode cC_like 5 = .ok (.invokevirtual 83, 3) := by decide +kernel
theorem dC_like_8 : decode cC_like 8 = .ok (.ifCond .ne 13, 3) := by decide +kernel
theorem dC_like_11 : decode cC_like 11 = .ok (.new 35, 3) := by decide +kernel
theorem dC_like_14 : decode cC_like 14 = .ok (.dup, 1) := by decide +kernel
theorem dC_like_15 : decode cC_like 15 = .ok (.ldc 86, 2) := by decide +kernel
theorem dC_like_17 : decode cC_like 17 = .ok (.invokespecial 39, 3) := by decide +kernel
theorem dC_like_20 : decode cC_like 20 = .ok (.athrow, 1) := by decide +kernel
theorem dC_like_21 : decode cC_like 21 = .ok (.aload_n 0, 1) := by decide +kernel
theorem dC_like_22 : decode cC_like 22 = .ok (.getfield 21, 3) := by decide +kernel
theorem dC_like_25 : decode cC_like 25 = .ok (.getfield 134, 3) := by decide +kernel
theorem dC_like_28 : decode cC_like 28 = .ok (.iload_n 1, 1) := by decide +kernel
theorem dC_like_29 : decode cC_like 29 = .ok (.iaload, 1) := by decide +kernel
theorem dC_like_30 : decode cC_like 30 = .ok (.ireturn, 1) := by decide +kernel
abbrev cC_isGoal : ByteArray := prog_1_method_14_code
abbrev yC_isGoal : MethodName := ⟨"CoverTrees", "isGoal", "(I)Z"⟩
abbrev kC_isGoal : Cond := .code yC_isGoal cC_isGoal 1 (some .boolean)
abbrev wsC_isGoal : List Cond := kC_isGoal :: wB
theorem dC_isGoal_0 : decode cC_isGoal 0 = .ok (.iload_n 0, 1) := by decide +kernel
theorem dC_isGoal_1 : decode cC_isGoal 1 = .ok (.ifCond .lt 13, 3) := by decide +kernel
theorem dC_isGoal_4 : decode cC_isGoal 4 = .ok (.iload_n 0, 1) := by decide +kernel
theorem dC_isGoal_5 : decode cC_isGoal 5 = .ok (.bipush 8, 2) := by decide +kernel
theorem dC_isGoal_7 : decode cC_isGoal 7 = .ok (.if_icmp .ge 7, 3) := by decide +kernel
theorem dC_isGoal_10 : decode cC_isGoal 10 = .ok (.iconst 1, 1) := by decide +kernel
theorem dC_isGoal_11 : decode cC_isGoal 11 = .ok (.goto 4, 3) := by decide +kernel
theorem dC_isGoal_14 : decode cC_isGoal 14 = .ok (.iconst 0, 1) := by decide +kernel
theorem dC_isGoal_15 : decode cC_isGoal 15 = .ok (.ireturn, 1) := by decide +kernel
abbrev cC_place : ByteArray := prog_1_method_15_code
abbrev yC_place : MethodName := ⟨"CoverTrees", "place", "(II)I"⟩
abbrev kC_place : Cond := .code yC_place cC_place 2 (some .int)
abbrev wsC_place : List Cond := kC_place :: wB
theorem dC_place_0 : decode cC_place 0 = .ok (.iload_n 0, 1) := by decide +kernel
theorem dC_place_1 : decode cC_place 1 = .ok (.bipush 8, 2) := by decide +kernel
theorem dC_place_3 : decode cC_place 3 = .ok (.imul, 1) := by decide +kernel
theorem dC_place_4 : decode cC_place 4 = .ok (.iload_n 1, 1) := by decide +kernel
theorem dC_place_5 : decode cC_place 5 = .ok (.iadd, 1) := by decide +kernel
theorem dC_place_6 : decode cC_place 6 = .ok (.ireturn, 1) := by decide +kernel
abbrev cC_checkRuleCost : ByteArray := prog_1_method_16_code
abbrev yC_checkRuleCost : MethodName := ⟨"CoverTrees", "checkRuleCost", "(I)V"⟩
abbrev kC_checkRuleCost : Cond := .code yC_checkRuleCost cC_checkRuleCost 1 none
abbrev wsC_checkRuleCost : List Cond := kC_checkRuleCost :: wB
theorem dC_checkRuleCost_0 : decode cC_checkRuleCost 0 = .ok (.iload_n 0, 1) := by decide +kernel
theorem dC_checkRuleCost_1 : decode cC_checkRuleCost 1 = .ok (.ifCond .lt 9, 3) := by decide +kernel
theorem dC_checkRuleCost_4 : decode cC_checkRuleCost 4 = .ok (.iload_n 0, 1) := by decide +kernel
theorem dC_checkRuleCost_5 : decode cC_checkRuleCost 5 = .ok (.bipush 20, 2) := by decide +kernel
theorem dC_checkRuleCost_7 : decode cC_checkRuleCost 7 = .ok (.if_icmp .le 13, 3) := by decide +kernel
theorem dC_checkRuleCost_10 : decode cC_checkRuleCost 10 = .ok (.new 35, 3) := by decide +kernel
theorem dC_checkRuleCost_13 : decode cC_checkRuleCost 13 = .ok (.dup, 1) := by decide +kernel
theorem dC_checkRuleCost_14 : decode cC_checkRuleCost 14 = .ok (.ldc 137, 2) := by decide +kernel
theorem dC_checkRuleCost_16 : decode cC_checkRuleCost 16 = .ok (.invokespecial 39, 3) := by decide +kernel
theorem dC_checkRuleCost_19 : decode cC_checkRuleCost 19 = .ok (.athrow, 1) := by decide +kernel
theorem dC_checkRuleCost_20 : decode cC_checkRuleCost 20 = .ok (.return_, 1) := by decide +kernel
abbrev cC_checkRoomForRule : ByteArray := prog_1_method_17_code
abbrev yC_checkRoomForRule : MethodName := ⟨"CoverTrees", "checkRoomForRule", "()V"⟩
abbrev kC_checkRoomForRule : Cond := .code yC_checkRoomForRule cC_checkRoomForRule 1 none
abbrev wsC_checkRoomForRule : List Cond := kC_checkRoomForRule :: wB
theorem dC_checkRoomForRule_0 : decode cC_checkRoomForRule 0 = .ok (.aload_n 0, 1) := by decide +kernel
theorem dC_checkRoomForRule_1 : decode cC_checkRoomForRule 1 = .ok (.getfield 12, 3) := by decide +kernel
theorem dC_checkRoomForRule_4 : decode cC_checkRoomForRule 4 = .ok (.getfield 29, 3) := by decide +kernel
theorem dC_checkRoomForRule_7 : decode cC_checkRoomForRule 7 = .ok (.bipush 40, 2) := by decide +kernel
theorem dC_checkRoomForRule_9 : decode cC_checkRoomForRule 9 = .ok (.if_icmp .lt 13, 3) := by decide +kernel
theorem dC_checkRoomForRule_12 : decode cC_checkRoomForRule 12 = .ok (.new 42, 3) := by decide +kernel
theorem dC_checkRoomForRule_15 : decode cC_checkRoomForRule 15 = .ok (.dup, 1) := by decide +kernel
theorem dC_checkRoomForRule_16 : decode cC_checkRoomForRule 16 = .ok (.ldc 139, 2) := by decide +kernel
theorem dC_checkRoomForRule_18 : decode cC_checkRoomForRule 18 = .ok (.invokespecial 46, 3) := by decide +kernel
theorem dC_checkRoomForRule_21 : decode cC_checkRoomForRule 21 = .ok (.athrow, 1) := by decide +kernel
theorem dC_checkRoomForRule_22 : decode cC_checkRoomForRule 22 = .ok (.return_, 1) := by decide +kernel
abbrev cC_checkPlace : ByteArray := prog_1_method_18_code
abbrev yC_checkPlace : MethodName := ⟨"CoverTrees", "checkPlace", "(II)V"⟩
abbrev kC_checkPlace : Cond := .code yC_checkPlace cC_checkPlace 3 none
abbrev wsC_checkPlace : List Cond := kC_checkPlace :: wB
theorem dC_checkPlace_0 : decode cC_checkPlace 0 = .ok (.aload_n 0, 1) := by decide +kernel
theorem dC_checkPlace_1 : decode cC_checkPlace 1 = .ok (.getfield 21, 3) := by decide +kernel
theorem dC_checkPlace_4 : decode cC_checkPlace 4 = .ok (.iload_n 1, 1) := by decide +kernel
theorem dC_checkPlace_5 : decode cC_checkPlace 5 = .ok (.invokevirtual 83, 3) := by decide +kernel
theorem dC_checkPlace_8 : decode cC_checkPlace 8 = .ok (.ifCond .eq 10, 3) := by decide +kernel
theorem dC_checkPlace_11 : decode cC_checkPlace 11 = .ok (.iload_n 2, 1) := by decide +kernel
theorem dC_checkPlace_12 : decode cC_checkPlace 12 = .ok (.invokestatic 51, 3) := by decide +kernel
theorem dC_checkPlace_15 : decode cC_checkPlace 15 = .ok (.ifCond .ne 13, 3) := by decide +kernel
theorem dC_checkPlace_18 : decode cC_checkPlace 18 = .ok (.new 35, 3) := by decide +kernel
theorem dC_checkPlace_21 : decode cC_checkPlace 21 = .ok (.dup, 1) := by decide +kernel
theorem dC_checkPlace_22 : decode cC_checkPlace 22 = .ok (.ldc 141, 2) := by decide +kernel
theorem dC_checkPlace_24 : decode cC_checkPlace 24 = .ok (.invokespecial 39, 3) := by decide +kernel
theorem dC_checkPlace_27 : decode cC_checkPlace 27 = .ok (.athrow, 1) := by decide +kernel
theorem dC_checkPlace_28 : decode cC_checkPlace 28 = .ok (.return_, 1) := by decide +kernel
abbrev cC_coverSize : ByteArray := prog_1_method_19_code
abbrev yC_coverSize : MethodName := ⟨"CoverTrees", "coverSize", "(II)I"⟩
abbrev kC_coverSize : Cond := .code yC_coverSize cC_coverSize 4 (some .int)
abbrev wsC_coverSize : List Cond := kC_coverSize :: wB
theorem dC_coverSize_0 : decode cC_coverSize 0 = .ok (.aload_n 0, 1) := by decide +kernel
theorem dC_coverSize_1 : decode cC_coverSize 1 = .ok (.getfield 21, 3) := by decide +kernel
theorem dC_coverSize_4 : decode cC_coverSize 4 = .ok (.getfield 143, 3) := by decide +kernel
theorem dC_coverSize_7 : decode cC_coverSize 7 = .ok (.iload_n 1, 1) := by decide +kernel
theorem dC_coverSize_8 : decode cC_coverSize 8 = .ok (.iload_n 2, 1) := by decide +kernel
theorem dC_coverSize_9 : decode cC_coverSize 9 = .ok (.invokestatic 111, 3) := by decide +kernel
theorem dC_coverSize_12 : decode cC_coverSize 12 = .ok (.iaload, 1) := by decide +kernel
theorem dC_coverSize_13 : decode cC_coverSize 13 = .ok (.istore_n 3, 1) := by decide +kernel
theorem dC_coverSize_14 : decode cC_coverSize 14 = .ok (.iload_n 3, 1) := by decide +kernel
theorem dC_coverSize_15 : decode cC_coverSize 15 = .ok (.sipush 2000, 3) := by decide +kernel
theorem dC_coverSize_18 : decode cC_coverSize 18 = .ok (.if_icmp .le 13, 3) := by decide +kernel
theorem dC_coverSize_21 : decode cC_coverSize 21 = .ok (.new 42, 3) := by decide +kernel
theorem dC_coverSize_24 : decode cC_coverSize 24 = .ok (.dup, 1) := by decide +kernel
theorem dC_coverSize_25 : decode cC_coverSize 25 = .ok (.ldc 146, 2) := by decide +kernel
theorem dC_coverSize_27 : decode cC_coverSize 27 = .ok (.invokespecial 46, 3) := by decide +kernel
theorem dC_coverSize_30 : decode cC_coverSize 30 = .ok (.athrow, 1) := by decide +kernel
theorem dC_coverSize_31 : decode cC_coverSize 31 = .ok (.iload_n 3, 1) := by decide +kernel
theorem dC_coverSize_32 : decode cC_coverSize 32 = .ok (.ireturn, 1) := by decide +kernel
abbrev cG_init : ByteArray := prog_3_method_1_code
abbrev yG_init : MethodName := ⟨"CoverTrees$Grammar", "<init>", "()V"⟩
abbrev kG_init : Cond := .code yG_init cG_init 1 none
abbrev wsG_init : List Cond := kG_init :: wB
theorem dG_init_0 : decode cG_init 0 = .ok (.aload_n 0, 1) := by decide +kernel
theorem dG_init_1 : decode cG_init 1 = .ok (.invokespecial 3, 3) := by decide +kernel
theorem dG_init_4 : decode cG_init 4 = .ok (.aload_n 0, 1) := by decide +kernel
theorem dG_init_5 : decode cG_init 5 = .ok (.bipush 10, 2) := by decide +kernel
theorem dG_init_7 : decode cG_init 7 = .ok (.newarray .int, 2) := by decide +kernel
theorem dG_init_9 : decode cG_init 9 = .ok (.putfield 9, 3) := by decide +kernel
theorem dG_init_12 : decode cG_init 12 = .ok (.aload_n 0, 1) := by decide +kernel
theorem dG_init_13 : decode cG_init 13 = .ok (.bipush 40, 2) := by decide +kernel
theorem dG_init_15 : decode cG_init 15 = .ok (.newarray .int, 2) := by decide +kernel
theorem dG_init_17 : decode cG_init 17 = .ok (.putfield 15, 3) := by decide +kernel
theorem dG_init_20 : decode cG_init 20 = .ok (.aload_n 0, 1) := by decide +kernel
theorem dG_init_21 : decode cG_init 21 = .ok (.bipush 40, 2) := by decide +kernel
theorem dG_init_23 : decode cG_init 23 = .ok (.newarray .int, 2) := by decide +kernel
theorem dG_init_25 : decode cG_init 25 = .ok (.putfield 18, 3) := by decide +kernel
theorem dG_init_28 : decode cG_init 28 = .ok (.aload_n 0, 1) := by decide +kernel
theorem dG_init_29 : decode cG_init 29 = .ok (.bipush 40, 2) := by decide +kernel
theorem dG_init_31 : decode cG_init 31 = .ok (.newarray .int, 2) := by decide +kernel
theorem dG_init_33 : decode cG_init 33 = .ok (.putfield 21, 3) := by decide +kernel
theorem dG_init_36 : decode cG_init 36 = .ok (.aload_n 0, 1) := by decide +kernel
theorem dG_init_37 : decode cG_init 37 = .ok (.bipush 40, 2) := by decide +kernel
theorem dG_init_39 : decode cG_init 39 = .ok (.newarray .int, 2) := by decide +kernel
theorem dG_init_41 : decode cG_init 41 = .ok (.putfield 24, 3) := by decide +kernel
theorem dG_init_44 : decode cG_init 44 = .ok (.aload_n 0, 1) := by decide +kernel
theorem dG_init_45 : decode cG_init 45 = .ok (.bipush 40, 2) := by decide +kernel
theorem dG_init_47 : decode cG_init 47 = .ok (.newarray .int, 2) := by decide +kernel
theorem dG_init_49 : decode cG_init 49 = .ok (.putfield 27, 3) := by decide +kernel
theorem dG_init_52 : decode cG_init 52 = .ok (.return_, 1) := by decide +kernel
abbrev cG_hasOperator : ByteArray := prog_3_method_2_code
abbrev yG_hasOperator : MethodName := ⟨"CoverTrees$Grammar", "hasOperator", "(I)Z"⟩
abbrev kG_hasOperator : Cond := .code yG_hasOperator cG_hasOperator 2 (some .boolean)
abbrev wsG_hasOperator : List Cond := kG_hasOperator :: wB
theorem dG_hasOperator_0 : decode cG_hasOperator 0 = .ok (.iload_n 1, 1) := by decide +kernel
theorem dG_hasOperator_1 : decode cG_hasOperator 1 = .ok (.ifCond .lt 15, 3) := by decide +kernel
theorem dG_hasOperator_4 : decode cG_hasOperator 4 = .ok (.iload_n 1, 1) := by decide +kernel
theorem dG_hasOperator_5 : decode cG_hasOperator 5 = .ok (.aload_n 0, 1) := by decide +kernel
theorem dG_hasOperator_6 : decode cG_hasOperator 6 = .ok (.getfield 30, 3) := by decide +kernel
theorem dG_hasOperator_9 : decode cG_hasOperator 9 = .ok (.if_icmp .ge 7, 3) := by decide +kernel
theorem dG_hasOperator_12 : decode cG_hasOperator 12 = .ok (.iconst 1, 1) := by decide +kernel
theorem dG_hasOperator_13 : decode cG_hasOperator 13 = .ok (.goto 4, 3) := by decide +kernel
theorem dG_hasOperator_16 : decode cG_hasOperator 16 = .ok (.iconst 0, 1) := by decide +kernel
theorem dG_hasOperator_17 : decode cG_hasOperator 17 = .ok (.ireturn, 1) := by decide +kernel
abbrev cG_addOperator : ByteArray := prog_3_method_3_code
abbrev yG_addOperator : MethodName := ⟨"CoverTrees$Grammar", "addOperator", "(I)I"⟩
abbrev kG_addOperator : Cond := .code yG_addOperator cG_addOperator 3 (some .int)
abbrev wsG_addOperator : List Cond := kG_addOperator :: wB
theorem dG_addOperator_0 : decode cG_addOperator 0 = .ok (.aload_n 0, 1) := by decide +kernel
theorem dG_addOperator_1 : decode cG_addOperator 1 = .ok (.getfield 30, 3) := by decide +kernel
theorem dG_addOperator_4 : decode cG_addOperator 4 = .ok (.istore_n 2, 1) := by decide +kernel
theorem dG_addOperator_5 : decode cG_addOperator 5 = .ok (.aload_n 0, 1) := by decide +kernel
theorem dG_addOperator_6 : decode cG_addOperator 6 = .ok (.getfield 9, 3) := by decide +kernel
theorem dG_addOperator_9 : decode cG_addOperator 9 = .ok (.iload_n 2, 1) := by decide +kernel
theorem dG_addOperator_10 : decode cG_addOperator 10 = .ok (.iload_n 1, 1) := by decide +kernel
theorem dG_addOperator_11 : decode cG_addOperator 11 = .ok (.iastore, 1) := by decide +kernel
theorem dG_addOperator_12 : decode cG_addOperator 12 = .ok (.aload_n 0, 1) := by decide +kernel
theorem dG_addOperator_13 : decode cG_addOperator 13 = .ok (.iload_n 2, 1) := by decide +kernel
theorem dG_addOperator_14 : decode cG_addOperator 14 = .ok (.iconst 1, 1) := by decide +kernel
theorem dG_addOperator_15 : decode cG_addOperator 15 = .ok (.iadd, 1) := by decide +kernel
theorem dG_addOperator_16 : decode cG_addOperator 16 = .ok (.putfield 30, 3) := by decide +kernel
theorem dG_addOperator_19 : decode cG_addOperator 19 = .ok (.iload_n 2, 1) := by decide +kernel
theorem dG_addOperator_20 : decode cG_addOperator 20 = .ok (.ireturn, 1) := by decide +kernel
abbrev cG_addRule : ByteArray := prog_3_method_4_code
abbrev yG_addRule : MethodName := ⟨"CoverTrees$Grammar", "addRule", "(IIIII)I"⟩
abbrev kG_addRule : Cond := .code yG_addRule cG_addRule 7 (some .int)
abbrev wsG_addRule : List Cond := kG_addRule :: wB
theorem dG_addRule_0 : decode cG_addRule 0 = .ok (.aload_n 0, 1) := by decide +kernel
theorem dG_addRule_1 : decode cG_addRule 1 = .ok (.getfield 34, 3) := by decide +kernel
theorem dG_addRule_4 : decode cG_addRule 4 = .ok (.istore 6, 2) := by decide +kernel
theorem dG_addRule_6 : decode cG_addRule 6 = .ok (.aload_n 0, 1) := by decide +kernel
theorem dG_addRule_7 : decode cG_addRule 7 = .ok (.getfield 15, 3) := by decide +kernel
theorem dG_addRule_10 : decode cG_addRule 10 = .ok (.iload 6, 2) := by decide +kernel
theorem dG_addRule_12 : decode cG_addRule 12 = .ok (.iload_n 1, 1) := by decide +kernel
theorem dG_addRule_13 : decode cG_addRule 13 = .ok (.iastore, 1) := by decide +kernel
theorem dG_addRule_14 : decode cG_addRule 14 = .ok (.aload_n 0, 1) := by decide +kernel
theorem dG_addRule_15 : decode cG_addRule 15 = .ok (.getfield 18, 3) := by decide +kernel
theorem dG_addRule_18 : decode cG_addRule 18 = .ok (.iload 6, 2) := by decide +kernel
theorem dG_addRule_20 : decode cG_addRule 20 = .ok (.iload_n 2, 1) := by decide +kernel
theorem dG_addRule_21 : decode cG_addRule 21 = .ok (.iastore, 1) := by decide +kernel
theorem dG_addRule_22 : decode cG_addRule 22 = .ok (.aload_n 0, 1) := by decide +kernel
theorem dG_addRule_23 : decode cG_addRule 23 = .ok (.getfield 21, 3) := by decide +kernel
theorem dG_addRule_26 : decode cG_addRule 26 = .ok (.iload 6, 2) := by decide +kernel
theorem dG_addRule_28 : decode cG_addRule 28 = .ok (.iload_n 3, 1) := by decide +kernel
theorem dG_addRule_29 : decode cG_addRule 29 = .ok (.iastore, 1) := by decide +kernel
theorem dG_addRule_30 : decode cG_addRule 30 = .ok (.aload_n 0, 1) := by decide +kernel
theorem dG_addRule_31 : decode cG_addRule 31 = .ok (.getfield 24, 3) := by decide +kernel
theorem dG_addRule_34 : decode cG_addRule 34 = .ok (.iload 6, 2) := by decide +kernel
theorem dG_addRule_36 : decode cG_addRule 36 = .ok (.iload 4, 2) := by decide +kernel
theorem dG_addRule_38 : decode cG_addRule 38 = .ok (.iastore, 1) := by decide +kernel
theorem dG_addRule_39 : decode cG_addRule 39 = .ok (.aload_n 0, 1) := by decide +kernel
theorem dG_addRule_40 : decode cG_addRule 40 = .ok (.getfield 27, 3) := by decide +kernel
theorem dG_addRule_43 : decode cG_addRule 43 = .ok (.iload 6, 2) := by decide +kernel
theorem dG_addRule_45 : decode cG_addRule 45 = .ok (.iload 5, 2) := by decide +kernel
theorem dG_addRule_47 : decode cG_addRule 47 = .ok (.iastore, 1) := by decide +kernel
theorem dG_addRule_48 : decode cG_addRule 48 = .ok (.aload_n 0, 1) := by decide +kernel
theorem dG_addRule_49 : decode cG_addRule 49 = .ok (.iload 6, 2) := by decide +kernel
theorem dG_addRule_51 : decode cG_addRule 51 = .ok (.iconst 1, 1) := by decide +kernel
theorem dG_addRule_52 : decode cG_addRule 52 = .ok (.iadd, 1) := by decide +kernel
theorem dG_addRule_53 : decode cG_addRule 53 = .ok (.putfield 34, 3) := by decide +kernel
theorem dG_addRule_56 : decode cG_addRule 56 = .ok (.iload 6, 2) := by decide +kernel
theorem dG_addRule_58 : decode cG_addRule 58 = .ok (.ireturn, 1) := by decide +kernel
abbrev cG_isChainFrom : ByteArray := prog_3_method_5_code
abbrev yG_isChainFrom : MethodName := ⟨"CoverTrees$Grammar", "isChainFrom", "(II)Z"⟩
abbrev kG_isChainFrom : Cond := .code yG_isChainFrom cG_isChainFrom 3 (some .boolean)
abbrev wsG_isChainFrom : List Cond := kG_isChainFrom :: wB
theorem dG_isChainFrom_0 : decode cG_isChainFrom 0 = .ok (.aload_n 0, 1) := by decide +kernel
theorem dG_isChainFrom_1 : decode cG_isChainFrom 1 = .ok (.getfield 18, 3) := by decide +kernel
theorem dG_isChainFrom_4 : decode cG_isChainFrom 4 = .ok (.iload_n 1, 1) := by decide +kernel
theorem dG_isChainFrom_5 : decode cG_isChainFrom 5 = .ok (.iaload, 1) := by decide +kernel
theorem dG_isChainFrom_6 : decode cG_isChainFrom 6 = .ok (.iconst (-1), 1) := by decide +kernel
theorem dG_isChainFrom_7 : decode cG_isChainFrom 7 = .ok (.if_icmp .ne 17, 3) := by decide +kernel
theorem dG_isChainFrom_10 : decode cG_isChainFrom 10 = .ok (.aload_n 0, 1) := by decide +kernel
theorem dG_isChainFrom_11 : decode cG_isChainFrom 11 = .ok (.getfield 21, 3) := by decide +kernel
theorem dG_isChainFrom_14 : decode cG_isChainFrom 14 = .ok (.iload_n 1, 1) := by decide +kernel
theorem dG_isChainFrom_15 : decode cG_isChainFrom 15 = .ok (.iaload, 1) := by decide +kernel
theorem dG_isChainFrom_16 : decode cG_isChainFrom 16 = .ok (.iload_n 2, 1) := by decide +kernel
theorem dG_isChainFrom_17 : decode cG_isChainFrom 17 = .ok (.if_icmp .ne 7, 3) := by decide +kernel
theorem dG_isChainFrom_20 : decode cG_isChainFrom 20 = .ok (.iconst 1, 1) := by decide +kernel
theorem dG_isChainFrom_21 : decode cG_isChainFrom 21 = .ok (.goto 4, 3) := by decide +kernel
theorem dG_isChainFrom_24 : decode cG_isChainFrom 24 = .ok (.iconst 0, 1) := by decide +kernel
theorem dG_isChainFrom_25 : decode cG_isChainFrom 25 = .ok (.ireturn, 1) := by decide +kernel
abbrev cF_init : ByteArray := prog_2_method_1_code
abbrev yF_init : MethodName := ⟨"CoverTrees$Forest", "<init>", "(LCoverTrees$Grammar;)V"⟩
abbrev kF_init : Cond := .code yF_init cF_init 2 none
abbrev wsF_init : List Cond := kF_init :: wB
theorem dF_init_0 : decode cF_init 0 = .ok (.aload_n 0, 1) := by decide +kernel
theorem dF_init_1 : decode cF_init 1 = .ok (.invokespecial 3, 3) := by decide +kernel
theorem dF_init_4 : decode cF_init 4 = .ok (.aload_n 0, 1) := by decide +kernel
theorem dF_init_5 : decode cF_init 5 = .ok (.bipush 120, 2) := by decide +kernel
theorem dF_init_7 : decode cF_init 7 = .ok (.newarray .int, 2) := by decide +kernel
theorem dF_init_9 : decode cF_init 9 = .ok (.putfield 9, 3) := by decide +kernel
theorem dF_init_12 : decode cF_init 12 = .ok (.aload_n 0, 1) := by decide +kernel
theorem dF_init_13 : decode cF_init 13 = .ok (.bipush 120, 2) := by decide +kernel
theorem dF_init_15 : decode cF_init 15 = .ok (.newarray .int, 2) := by decide +kernel
theorem dF_init_17 : decode cF_init 17 = .ok (.putfield 15, 3) := by decide +kernel
theorem dF_init_20 : decode cF_init 20 = .ok (.aload_n 0, 1) := by decide +kernel
theorem dF_init_21 : decode cF_init 21 = .ok (.bipush 120, 2) := by decide +kernel
theorem dF_init_23 : decode cF_init 23 = .ok (.newarray .int, 2) := by decide +kernel
theorem dF_init_25 : decode cF_init 25 = .ok (.putfield 18, 3) := by decide +kernel
theorem dF_init_28 : decode cF_init 28 = .ok (.aload_n 0, 1) := by decide +kernel
theorem dF_init_29 : decode cF_init 29 = .ok (.bipush 120, 2) := by decide +kernel
theorem dF_init_31 : decode cF_init 31 = .ok (.newarray .int, 2) := by decide +kernel
theorem dF_init_33 : decode cF_init 33 = .ok (.putfield 21, 3) := by decide +kernel
theorem dF_init_36 : decode cF_init 36 = .ok (.aload_n 0, 1) := by decide +kernel
theorem dF_init_37 : decode cF_init 37 = .ok (.bipush 120, 2) := by decide +kernel
theorem dF_init_39 : decode cF_init 39 = .ok (.newarray .int, 2) := by decide +kernel
theorem dF_init_41 : decode cF_init 41 = .ok (.putfield 24, 3) := by decide +kernel
theorem dF_init_44 : decode cF_init 44 = .ok (.aload_n 0, 1) := by decide +kernel
theorem dF_init_45 : decode cF_init 45 = .ok (.sipush 960, 3) := by decide +kernel
theorem dF_init_48 : decode cF_init 48 = .ok (.newarray .int, 2) := by decide +kernel
theorem dF_init_50 : decode cF_init 50 = .ok (.putfield 27, 3) := by decide +kernel
theorem dF_init_53 : decode cF_init 53 = .ok (.aload_n 0, 1) := by decide +kernel
theorem dF_init_54 : decode cF_init 54 = .ok (.sipush 960, 3) := by decide +kernel
theorem dF_init_57 : decode cF_init 57 = .ok (.newarray .int, 2) := by decide +kernel
theorem dF_init_59 : decode cF_init 59 = .ok (.putfield 30, 3) := by decide +kernel
theorem dF_init_62 : decode cF_init 62 = .ok (.aload_n 0, 1) := by decide +kernel
theorem dF_init_63 : decode cF_init 63 = .ok (.sipush 960, 3) := by decide +kernel
theorem dF_init_66 : decode cF_init 66 = .ok (.newarray .int, 2) := by decide +kernel
theorem dF_init_68 : decode cF_init 68 = .ok (.putfield 33, 3) := by decide +kernel
theorem dF_init_71 : decode cF_init 71 = .ok (.aload_n 0, 1) := by decide +kernel
theorem dF_init_72 : decode cF_init 72 = .ok (.bipush 8, 2) := by decide +kernel
theorem dF_init_74 : decode cF_init 74 = .ok (.newarray .boolean, 2) := by decide +kernel
theorem dF_init_76 : decode cF_init 76 = .ok (.putfield 36, 3) := by decide +kernel
theorem dF_init_79 : decode cF_init 79 = .ok (.aload_n 0, 1) := by decide +kernel
theorem dF_init_80 : decode cF_init 80 = .ok (.aload_n 1, 1) := by decide +kernel
theorem dF_init_81 : decode cF_init 81 = .ok (.putfield 40, 3) := by decide +kernel
theorem dF_init_84 : decode cF_init 84 = .ok (.return_, 1) := by decide +kernel
abbrev cF_has : ByteArray := prog_2_method_2_code
abbrev yF_has : MethodName := ⟨"CoverTrees$Forest", "has", "(I)Z"⟩
abbrev kF_has : Cond := .code yF_has cF_has 2 (some .boolean)
abbrev wsF_has : List Cond := kF_has :: wB
theorem dF_has_0 : decode cF_has 0 = .ok (.iload_n 1, 1) := by decide +kernel
theorem dF_has_1 : decode cF_has 1 = .ok (.ifCond .lt 15, 3) := by decide +kernel
theorem dF_has_4 : decode cF_has 4 = .ok (.iload_n 1, 1) := by decide +kernel
theorem dF_has_5 : decode cF_has 5 = .ok (.aload_n 0, 1) := by decide +kernel
theorem dF_has_6 : decode cF_has 6 = .ok (.getfield 44, 3) := by decide +kernel
theorem dF_has_9 : decode cF_has 9 = .ok (.if_icmp .ge 7, 3) := by decide +kernel
theorem dF_has_12 : decode cF_has 12 = .ok (.iconst 1, 1) := by decide +kernel
theorem dF_has_13 : decode cF_has 13 = .ok (.goto 4, 3) := by decide +kernel
theorem dF_has_16 : decode cF_has 16 = .ok (.iconst 0, 1) := by decide +kernel
theorem dF_has_17 : decode cF_has 17 = .ok (.ireturn, 1) := by decide +kernel
abbrev cF_draft : ByteArray := prog_2_method_3_code
abbrev yF_draft : MethodName := ⟨"CoverTrees$Forest", "draft", "(III)V"⟩
abbrev kF_draft : Cond := .code yF_draft cF_draft 4 none
abbrev wsF_draft : List Cond := kF_draft :: wB
theorem dF_draft_0 : decode cF_draft 0 = .ok (.aload_n 0, 1) := by decide +kernel
theorem dF_draft_1 : decode cF_draft 1 = .ok (.getfield 9, 3) := by decide +kernel
theorem dF_draft_4 : decode cF_draft 4 = .ok (.aload_n 0, 1) := by decide +kernel
theorem dF_draft_5 : decode cF_draft 5 = .ok (.getfield 44, 3) := by decide +kernel
theorem dF_draft_8 : decode cF_draft 8 = .ok (.iload_n 1, 1) := by decide +kernel
theorem dF_draft_9 : decode cF_draft 9 = .ok (.iastore, 1) := by decide +kernel
theorem dF_draft_10 : decode cF_draft 10 = .ok (.aload_n 0, 1) := by decide +kernel
theorem dF_draft_11 : decode cF_draft 11 = .ok (.getfield 15, 3) := by decide +kernel
theorem dF_draft_14 : decode cF_draft 14 = .ok (.aload_n 0, 1) := by decide +kernel
theorem dF_draft_15 : decode cF_draft 15 = .ok (.getfield 44, 3) := by decide +kernel
theorem dF_draft_18 : decode cF_draft 18 = .ok (.iload_n 2, 1) := by decide +kernel
theorem dF_draft_19 : decode cF_draft 19 = .ok (.iastore, 1) := by decide +kernel
theorem dF_draft_20 : decode cF_draft 20 = .ok (.aload_n 0, 1) := by decide +kernel
theorem dF_draft_21 : decode cF_draft 21 = .ok (.getfield 18, 3) := by decide +kernel
theorem dF_draft_24 : decode cF_draft 24 = .ok (.aload_n 0, 1) := by decide +kernel
theorem dF_draft_25 : decode cF_draft 25 = .ok (.getfield 44, 3) := by decide +kernel
theorem dF_draft_28 : decode cF_draft 28 = .ok (.iload_n 3, 1) := by decide +kernel
theorem dF_draft_29 : decode cF_draft 29 = .ok (.iastore, 1) := by decide +kernel
theorem dF_draft_30 : decode cF_draft 30 = .ok (.aload_n 0, 1) := by decide +kernel
theorem dF_draft_31 : decode cF_draft 31 = .ok (.invokevirtual 48, 3) := by decide +kernel
theorem dF_draft_34 : decode cF_draft 34 = .ok (.aload_n 0, 1) := by decide +kernel
theorem dF_draft_35 : decode cF_draft 35 = .ok (.invokevirtual 51, 3) := by decide +kernel
theorem dF_draft_38 : decode cF_draft 38 = .ok (.aload_n 0, 1) := by decide +kernel
theorem dF_draft_39 : decode cF_draft 39 = .ok (.invokevirtual 54, 3) := by decide +kernel
theorem dF_draft_42 : decode cF_draft 42 = .ok (.return_, 1) := by decide +kernel
abbrev cF_draftIsTooDear : ByteArray := prog_2_method_4_code
abbrev yF_draftIsTooDear : MethodName := ⟨"CoverTrees$Forest", "draftIsTooDear", "()Z"⟩
abbrev kF_draftIsTooDear : Cond := .code yF_draftIsTooDear cF_draftIsTooDear 2 (some .boolean)
abbrev wsF_draftIsTooDear : List Cond := kF_draftIsTooDear :: wB
theorem dF_draftIsTooDear_0 : decode cF_draftIsTooDear 0 = .ok (.iconst 0, 1) := by decide +kernel
theorem dF_draftIsTooDear_1 : decode cF_draftIsTooDear 1 = .ok (.istore_n 1, 1) := by decide +kernel
theorem dF_draftIsTooDear_2 : decode cF_draftIsTooDear 2 = .ok (.iload_n 1, 1) := by decide +kernel
theorem dF_draftIsTooDear_3 : decode cF_draftIsTooDear 3 = .ok (.bipush 8, 2) := by decide +kernel
theorem dF_draftIsTooDear_5 : decode cF_draftIsTooDear 5 = .ok (.if_icmp .ge 29, 3) := by decide +kernel
theorem dF_draftIsTooDear_8 : decode cF_draftIsTooDear 8 = .ok (.aload_n 0, 1) := by decide +kernel
theorem dF_draftIsTooDear_9 : decode cF_draftIsTooDear 9 = .ok (.getfield 27, 3) := by decide +kernel
theorem dF_draftIsTooDear_12 : decode cF_draftIsTooDear 12 = .ok (.aload_n 0, 1) := by decide +kernel
theorem dF_draftIsTooDear_13 : decode cF_draftIsTooDear 13 = .ok (.getfield 44, 3) := by decide +kernel
theorem dF_draftIsTooDear_16 : decode cF_draftIsTooDear 16 = .ok (.iload_n 1, 1) := by decide +kernel
theorem dF_draftIsTooDear_17 : decode cF_draftIsTooDear 17 = .ok (.invokestatic 57, 3) := by decide +kernel
theorem dF_draftIsTooDear_20 : decode cF_draftIsTooDear 20 = .ok (.iaload, 1) := by decide +kernel
theorem dF_draftIsTooDear_21 : decode cF_draftIsTooDear 21 = .ok (.ldc 61, 2) := by decide +kernel
theorem dF_draftIsTooDear_23 : decode cF_draftIsTooDear 23 = .ok (.if_icmp .le 5, 3) := by decide +kernel
theorem dF_draftIsTooDear_26 : decode cF_draftIsTooDear 26 = .ok (.iconst 1, 1) := by decide +kernel
theorem dF_draftIsTooDear_27 : decode cF_draftIsTooDear 27 = .ok (.ireturn, 1) := by decide +kernel
theorem dF_draftIsTooDear_28 : decode cF_draftIsTooDear 28 = .ok (.iinc 1 1, 3) := by decide +kernel
theorem dF_draftIsTooDear_31 : decode cF_draftIsTooDear 31 = .ok (.goto (-29), 3) := by decide +kernel
theorem dF_draftIsTooDear_34 : decode cF_draftIsTooDear 34 = .ok (.iconst 0, 1) := by decide +kernel
theorem dF_draftIsTooDear_35 : decode cF_draftIsTooDear 35 = .ok (.ireturn, 1) := by decide +kernel
abbrev cF_keepDraft : ByteArray := prog_2_method_5_code
abbrev yF_keepDraft : MethodName := ⟨"CoverTrees$Forest", "keepDraft", "()I"⟩
abbrev kF_keepDraft : Cond := .code yF_keepDraft cF_keepDraft 2 (some .int)
abbrev wsF_keepDraft : List Cond := kF_keepDraft :: wB
theorem dF_keepDraft_0 : decode cF_keepDraft 0 = .ok (.aload_n 0, 1) := by decide +kernel
theorem dF_keepDraft_1 : decode cF_keepDraft 1 = .ok (.getfield 44, 3) := by decide +kernel
theorem dF_keepDraft_4 : decode cF_keepDraft 4 = .ok (.istore_n 1, 1) := by decide +kernel
theorem dF_keepDraft_5 : decode cF_keepDraft 5 = .ok (.aload_n 0, 1) := by decide +kernel
theorem dF_keepDraft_6 : decode cF_keepDraft 6 = .ok (.getfield 24, 3) := by decide +kernel
theorem dF_keepDraft_9 : decode cF_keepDraft 9 = .ok (.iload_n 1, 1) := by decide +kernel
theorem dF_keepDraft_10 : decode cF_keepDraft 10 = .ok (.aload_n 0, 1) := by decide +kernel
theorem dF_keepDraft_11 : decode cF_keepDraft 11 = .ok (.iload_n 1, 1) := by decide +kernel
theorem dF_keepDraft_12 : decode cF_keepDraft 12 = .ok (.invokevirtual 62, 3) := by decide +kernel
theorem dF_keepDraft_15 : decode cF_keepDraft 15 = .ok (.iastore, 1) := by decide +kernel
theorem dF_keepDraft_16 : decode cF_keepDraft 16 = .ok (.aload_n 0, 1) := by decide +kernel
theorem dF_keepDraft_17 : decode cF_keepDraft 17 = .ok (.iload_n 1, 1) := by decide +kernel
theorem dF_keepDraft_18 : decode cF_keepDraft 18 = .ok (.iconst 1, 1) := by decide +kernel
theorem dF_keepDraft_19 : decode cF_keepDraft 19 = .ok (.iadd, 1) := by decide +kernel
theorem dF_keepDraft_20 : decode cF_keepDraft 20 = .ok (.putfield 44, 3) := by decide +kernel
theorem dF_keepDraft_23 : decode cF_keepDraft 23 = .ok (.iload_n 1, 1) := by decide +kernel
theorem dF_keepDraft_24 : decode cF_keepDraft 24 = .ok (.ireturn, 1) := by decide +kernel
abbrev cF_blankDraft : ByteArray := prog_2_method_6_code
abbrev yF_blankDraft : MethodName := ⟨"CoverTrees$Forest", "blankDraft", "()V"⟩
abbrev kF_blankDraft : Cond := .code yF_blankDraft cF_blankDraft 3 none
abbrev wsF_blankDraft : List Cond := kF_blankDraft :: wB
theorem dF_blankDraft_0 : decode cF_blankDraft 0 = .ok (.aload_n 0, 1) := by decide +kernel
theorem dF_blankDraft_1 : decode cF_blankDraft 1 = .ok (.getfield 21, 3) := by decide +kernel
theorem dF_blankDraft_4 : decode cF_blankDraft 4 = .ok (.aload_n 0, 1) := by decide +kernel
theorem dF_blankDraft_5 : decode cF_blankDraft 5 = .ok (.getfield 44, 3) := by decide +kernel
theorem dF_blankDraft_8 : decode cF_blankDraft 8 = .ok (.iconst (-1), 1) := by decide +kernel
theorem dF_blankDraft_9 : decode cF_blankDraft 9 = .ok (.iastore, 1) := by decide +kernel
theorem dF_blankDraft_10 : decode cF_blankDraft 10 = .ok (.iconst 0, 1) := by decide +kernel
theorem dF_blankDraft_11 : decode cF_blankDraft 11 = .ok (.istore_n 1, 1) := by decide +kernel
theorem dF_blankDraft_12 : decode cF_blankDraft 12 = .ok (.iload_n 1, 1) := by decide +kernel
theorem dF_blankDraft_13 : decode cF_blankDraft 13 = .ok (.bipush 8, 2) := by decide +kernel
theorem dF_blankDraft_15 : decode cF_blankDraft 15 = .ok (.if_icmp .ge 46, 3) := by decide +kernel
theorem dF_blankDraft_18 : decode cF_blankDraft 18 = .ok (.aload_n 0, 1) := by decide +kernel
theorem dF_blankDraft_19 : decode cF_blankDraft 19 = .ok (.getfield 44, 3) := by decide +kernel
theorem dF_blankDraft_22 : decode cF_blankDraft 22 = .ok (.iload_n 1, 1) := by decide +kernel
theorem dF_blankDraft_23 : decode cF_blankDraft 23 = .ok (.invokestatic 57, 3) := by decide +kernel
theorem dF_blankDraft_26 : decode cF_blankDraft 26 = .ok (.istore_n 2, 1) := by decide +kernel
theorem dF_blankDraft_27 : decode cF_blankDraft 27 = .ok (.aload_n 0, 1) := by decide +kernel
theorem dF_blankDraft_28 : decode cF_blankDraft 28 = .ok (.getfield 27, 3) := by decide +kernel
theorem dF_blankDraft_31 : decode cF_blankDraft 31 = .ok (.iload_n 2, 1) := by decide +kernel
theorem dF_blankDraft_32 : decode cF_blankDraft 32 = .ok (.iconst (-1), 1) := by decide +kernel
theorem dF_blankDraft_33 : decode cF_blankDraft 33 = .ok (.iastore, 1) := by decide +kernel
theorem dF_blankDraft_34 : decode cF_blankDraft 34 = .ok (.aload_n 0, 1) := by decide +kernel
theorem dF_blankDraft_35 : decode cF_blankDraft 35 = .ok (.getfield 30, 3) := by decide +kernel
theorem dF_blankDraft_38 : decode cF_blankDraft 38 = .ok (.iload_n 2, 1) := by decide +kernel
theorem dF_blankDraft_39 : decode cF_blankDraft 39 = .ok (.iconst (-1), 1) := by decide +kernel
theorem dF_blankDraft_40 : decode cF_blankDraft 40 = .ok (.iastore, 1) := by decide +kernel
theorem dF_blankDraft_41 : decode cF_blankDraft 41 = .ok (.aload_n 0, 1) := by decide +kernel
theorem dF_blankDraft_42 : decode cF_blankDraft 42 = .ok (.getfield 33, 3) := by decide +kernel
theorem dF_blankDraft_45 : decode cF_blankDraft 45 = .ok (.iload_n 2, 1) := by decide +kernel
theorem dF_blankDraft_46 : decode cF_blankDraft 46 = .ok (.iconst (-1), 1) := by decide +kernel
theorem dF_blankDraft_47 : decode cF_blankDraft 47 = .ok (.iastore, 1) := by decide +kernel
theorem dF_blankDraft_48 : decode cF_blankDraft 48 = .ok (.aload_n 0, 1) := by decide +kernel
theorem dF_blankDraft_49 : decode cF_blankDraft 49 = .ok (.getfield 36, 3) := by decide +kernel
theorem dF_blankDraft_52 : decode cF_blankDraft 52 = .ok (.iload_n 1, 1) := by decide +kernel
theorem dF_blankDraft_53 : decode cF_blankDraft 53 = .ok (.iconst 0, 1) := by decide +kernel
theorem dF_blankDraft_54 : decode cF_blankDraft 54 = .ok (.bastore, 1) := by decide +kernel
theorem dF_blankDraft_55 : decode cF_blankDraft 55 = .ok (.iinc 1 1, 3) := by decide +kernel
theorem dF_blankDraft_58 : decode cF_blankDraft 58 = .ok (.goto (-46), 3) := by decide +kernel
theorem dF_blankDraft_61 : decode cF_blankDraft 61 = .ok (.return_, 1) := by decide +kernel
abbrev cF_applyBaseRules : ByteArray := prog_2_method_7_code
abbrev yF_applyBaseRules : MethodName := ⟨"CoverTrees$Forest", "applyBaseRules", "()V"⟩
abbrev kF_applyBaseRules : Cond := .code yF_applyBaseRules cF_applyBaseRules 2 none
abbrev wsF_applyBaseRules : List Cond := kF_applyBaseRules :: wB
theorem dF_applyBaseRules_0 : decode cF_applyBaseRules 0 = .ok (.iconst 0, 1) := by decide +kernel
theorem dF_applyBaseRules_1 : decode cF_applyBaseRules 1 = .ok (.istore_n 1, 1) := by decide +kernel
theorem dF_applyBaseRules_2 : decode cF_applyBaseRules 2 = .ok (.iload_n 1, 1) := by decide +kernel
theorem dF_applyBaseRules_3 : decode cF_applyBaseRules 3 = .ok (.aload_n 0, 1) := by decide +kernel
theorem dF_applyBaseRules_4 : decode cF_applyBaseRules 4 = .ok (.getfield 40, 3) := by decide +kernel
theorem dF_applyBaseRules_7 : decode cF_applyBaseRules 7 = .ok (.getfield 66, 3) := by decide +kernel
theorem dF_applyBaseRules_10 : decode cF_applyBaseRules 10 = .ok (.if_icmp .ge 40, 3) := by decide +kernel
theorem dF_applyBaseRules_13 : decode cF_applyBaseRules 13 = .ok (.aload_n 0, 1) := by decide +kernel
theorem dF_applyBaseRules_14 : decode cF_applyBaseRules 14 = .ok (.getfield 40, 3) := by decide +kernel
theorem dF_applyBaseRules_17 : decode cF_applyBaseRules 17 = .ok (.getfield 71, 3) := by decide +kernel
theorem dF_applyBaseRules_20 : decode cF_applyBaseRules 20 = .ok (.iload_n 1, 1) := by decide +kernel
theorem dF_applyBaseRules_21 : decode cF_applyBaseRules 21 = .ok (.iaload, 1) := by decide +kernel
theorem dF_applyBaseRules_22 : decode cF_applyBaseRules 22 = .ok (.aload_n 0, 1) := by decide +kernel
theorem dF_applyBaseRules_23 : decode cF_applyBaseRules 23 = .ok (.getfield 9, 3) := by decide +kernel
theorem dF_applyBaseRules_26 : decode cF_applyBaseRules 26 = .ok (.aload_n 0, 1) := by decide +kernel
theorem dF_applyBaseRules_27 : decode cF_applyBaseRules 27 = .ok (.getfield 44, 3) := by decide +kernel
theorem dF_applyBaseRules_30 : decode cF_applyBaseRules 30 = .ok (.iaload, 1) := by decide +kernel
theorem dF_applyBaseRules_31 : decode cF_applyBaseRules 31 = .ok (.if_icmp .ne 13, 3) := by decide +kernel
theorem dF_applyBaseRules_34 : decode cF_applyBaseRules 34 = .ok (.aload_n 0, 1) := by decide +kernel
theorem dF_applyBaseRules_35 : decode cF_applyBaseRules 35 = .ok (.iload_n 1, 1) := by decide +kernel
theorem dF_applyBaseRules_36 : decode cF_applyBaseRules 36 = .ok (.aload_n 0, 1) := by decide +kernel
theorem dF_applyBaseRules_37 : decode cF_applyBaseRules 37 = .ok (.iload_n 1, 1) := by decide +kernel
theorem dF_applyBaseRules_38 : decode cF_applyBaseRules 38 = .ok (.invokevirtual 72, 3) := by decide +kernel
theorem dF_applyBaseRules_41 : decode cF_applyBaseRules 41 = .ok (.invokevirtual 75, 3) := by decide +kernel
theorem dF_applyBaseRules_44 : decode cF_applyBaseRules 44 = .ok (.iinc 1 1, 3) := by decide +kernel
theorem dF_applyBaseRules_47 : decode cF_applyBaseRules 47 = .ok (.goto (-45), 3) := by decide +kernel
theorem dF_applyBaseRules_50 : decode cF_applyBaseRules 50 = .ok (.return_, 1) := by decide +kernel
abbrev cF_baseCost : ByteArray := prog_2_method_8_code
abbrev yF_baseCost : MethodName := ⟨"CoverTrees$Forest", "baseCost", "(I)I"⟩
abbrev kF_baseCost : Cond := .code yF_baseCost cF_baseCost 5 (some .int)
abbrev wsF_baseCost : List Cond := kF_baseCost :: wB
theorem dF_baseCost_0 : decode cF_baseCost 0 = .ok (.aload_n 0, 1) := by decide +kernel
theorem dF_baseCost_1 : decode cF_baseCost 1 = .ok (.getfield 40, 3) := by decide +kernel
theorem dF_baseCost_4 : decode cF_baseCost 4 = .ok (.getfield 79, 3) := by decide +kernel
theorem dF_baseCost_7 : decode cF_baseCost 7 = .ok (.aload_n 0, 1) := by decide +kernel
theorem dF_baseCost_8 : decode cF_baseCost 8 = .ok (.getfield 9, 3) := by decide +kernel
theorem dF_baseCost_11 : decode cF_baseCost 11 = .ok (.aload_n 0, 1) := by decide +kernel
theorem dF_baseCost_12 : decode cF_baseCost 12 = .ok (.getfield 44, 3) := by decide +kernel
theorem dF_baseCost_15 : decode cF_baseCost 15 = .ok (.iaload, 1) := by decide +kernel
theorem dF_baseCost_16 : decode cF_baseCost 16 = .ok (.iaload, 1) := by decide +kernel
theorem dF_baseCost_17 : decode cF_baseCost 17 = .ok (.istore_n 2, 1) := by decide +kernel
theorem dF_baseCost_18 : decode cF_baseCost 18 = .ok (.aload_n 0, 1) := by decide +kernel
theorem dF_baseCost_19 : decode cF_baseCost 19 = .ok (.getfield 40, 3) := by decide +kernel
theorem dF_baseCost_22 : decode cF_baseCost 22 = .ok (.getfield 82, 3) := by decide +kernel
theorem dF_baseCost_25 : decode cF_baseCost 25 = .ok (.iload_n 1, 1) := by decide +kernel
theorem dF_baseCost_26 : decode cF_baseCost 26 = .ok (.iaload, 1) := by decide +kernel
theorem dF_baseCost_27 : decode cF_baseCost 27 = .ok (.istore_n 3, 1) := by decide +kernel
theorem dF_baseCost_28 : decode cF_baseCost 28 = .ok (.iload_n 2, 1) := by decide +kernel
theorem dF_baseCost_29 : decode cF_baseCost 29 = .ok (.iconst 1, 1) := by decide +kernel
theorem dF_baseCost_30 : decode cF_baseCost 30 = .ok (.if_icmp .lt 44, 3) := by decide +kernel
theorem dF_baseCost_33 : decode cF_baseCost 33 = .ok (.aload_n 0, 1) := by decide +kernel
theorem dF_baseCost_34 : decode cF_baseCost 34 = .ok (.getfield 27, 3) := by decide +kernel
theorem dF_baseCost_37 : decode cF_baseCost 37 = .ok (.aload_n 0, 1) := by decide +kernel
theorem dF_baseCost_38 : decode cF_baseCost 38 = .ok (.getfield 15, 3) := by decide +kernel
theorem dF_baseCost_41 : decode cF_baseCost 41 = .ok (.aload_n 0, 1) := by decide +kernel
theorem dF_baseCost_42 : decode cF_baseCost 42 = .ok (.getfield 44, 3) := by decide +kernel
theorem dF_baseCost_45 : decode cF_baseCost 45 = .ok (.iaload, 1) := by decide +kernel
theorem dF_baseCost_46 : decode cF_baseCost 46 = .ok (.aload_n 0, 1) := by decide +kernel
theorem dF_baseCost_47 : decode cF_baseCost 47 = .ok (.getfield 40, 3) := by decide +kernel
theorem dF_baseCost_50 : decode cF_baseCost 50 = .ok (.getfield 83, 3) := by decide +kernel
theorem dF_baseCost_53 : decode cF_baseCost 53 = .ok (.iload_n 1, 1) := by decide +kernel
theorem dF_baseCost_54 : decode cF_baseCost 54 = .ok (.iaload, 1) := by decide +kernel
theorem dF_baseCost_55 : decode cF_baseCost 55 = .ok (.invokestatic 57, 3) := by decide +kernel
theorem dF_baseCost_58 : decode cF_baseCost 58 = .ok (.iaload, 1) := by decide +kernel
theorem dF_baseCost_59 : decode cF_baseCost 59 = .ok (.istore 4, 2) := by decide +kernel
theorem dF_baseCost_61 : decode cF_baseCost 61 = .ok (.iload 4, 2) := by decide +kernel
theorem dF_baseCost_63 : decode cF_baseCost 63 = .ok (.iconst (-1), 1) := by decide +kernel
theorem dF_baseCost_64 : decode cF_baseCost 64 = .ok (.if_icmp .ne 5, 3) := by decide +kernel
theorem dF_baseCost_67 : decode cF_baseCost 67 = .ok (.iconst (-1), 1) := by decide +kernel
theorem dF_baseCost_68 : decode cF_baseCost 68 = .ok (.ireturn, 1) := by decide +kernel
theorem dF_baseCost_69 : decode cF_baseCost 69 = .ok (.iload_n 3, 1) := by decide +kernel
theorem dF_baseCost_70 : decode cF_baseCost 70 = .ok (.iload 4, 2) := by decide +kernel
theorem dF_baseCost_72 : decode cF_baseCost 72 = .ok (.iadd, 1) := by decide +kernel
theorem dF_baseCost_73 : decode cF_baseCost 73 = .ok (.istore_n 3, 1) := by decide +kernel
theorem dF_baseCost_74 : decode cF_baseCost 74 = .ok (.iload_n 2, 1) := by decide +kernel
theorem dF_baseCost_75 : decode cF_baseCost 75 = .ok (.iconst 2, 1) := by decide +kernel
theorem dF_baseCost_76 : decode cF_baseCost 76 = .ok (.if_icmp .lt 44, 3) := by decide +kernel
theorem dF_baseCost_79 : decode cF_baseCost 79 = .ok (.aload_n 0, 1) := by decide +kernel
theorem dF_baseCost_80 : decode cF_baseCost 80 = .ok (.getfield 27, 3) := by decide +kernel
theorem dF_baseCost_83 : decode cF_baseCost 83 = .ok (.aload_n 0, 1) := by decide +kernel
theorem dF_baseCost_84 : decode cF_baseCost 84 = .ok (.getfield 18, 3) := by decide +kernel
theorem dF_baseCost_87 : decode cF_baseCost 87 = .ok (.aload_n 0, 1) := by decide +kernel
theorem dF_baseCost_88 : decode cF_baseCost 88 = .ok (.getfield 44, 3) := by decide +kernel
theorem dF_baseCost_91 : decode cF_baseCost 91 = .ok (.iaload, 1) := by decide +kernel
theorem dF_baseCost_92 : decode cF_baseCost 92 = .ok (.aload_n 0, 1) := by decide +kernel
theorem dF_baseCost_93 : decode cF_baseCost 93 = .ok (.getfield 40, 3) := by decide +kernel
theorem dF_baseCost_96 : decode cF_baseCost 96 = .ok (.getfield 84, 3) := by decide +kernel
theorem dF_baseCost_99 : decode cF_baseCost 99 = .ok (.iload_n 1, 1) := by decide +kernel
theorem dF_baseCost_100 : decode cF_baseCost 100 = .ok (.iaload, 1) := by decide +kernel
theorem dF_baseCost_101 : decode cF_baseCost 101 = .ok (.invokestatic 57, 3) := by decide +kernel
theorem dF_baseCost_104 : decode cF_baseCost 104 = .ok (.iaload, 1) := by decide +kernel
theorem dF_baseCost_105 : decode cF_baseCost 105 = .ok (.istore 4, 2) := by decide +kernel
theorem dF_baseCost_107 : decode cF_baseCost 107 = .ok (.iload 4, 2) := by decide +kernel
theorem dF_baseCost_109 : decode cF_baseCost 109 = .ok (.iconst (-1), 1) := by decide +kernel
theorem dF_baseCost_110 : decode cF_baseCost 110 = .ok (.if_icmp .ne 5, 3) := by decide +kernel
theorem dF_baseCost_113 : decode cF_baseCost 113 = .ok (.iconst (-1), 1) := by decide +kernel
theorem dF_baseCost_114 : decode cF_baseCost 114 = .ok (.ireturn, 1) := by decide +kernel
theorem dF_baseCost_115 : decode cF_baseCost 115 = .ok (.iload_n 3, 1) := by decide +kernel
theorem dF_baseCost_116 : decode cF_baseCost 116 = .ok (.iload 4, 2) := by decide +kernel
theorem dF_baseCost_118 : decode cF_baseCost 118 = .ok (.iadd, 1) := by decide +kernel
theorem dF_baseCost_119 : decode cF_baseCost 119 = .ok (.istore_n 3, 1) := by decide +kernel
theorem dF_baseCost_120 : decode cF_baseCost 120 = .ok (.iload_n 3, 1) := by decide +kernel
theorem dF_baseCost_121 : decode cF_baseCost 121 = .ok (.ireturn, 1) := by decide +kernel
abbrev cF_offer : ByteArray := prog_2_method_9_code
abbrev yF_offer : MethodName := ⟨"CoverTrees$Forest", "offer", "(II)V"⟩
abbrev kF_offer : Cond := .code yF_offer cF_offer 4 none
abbrev wsF_offer : List Cond := kF_offer :: wB
theorem dF_offer_0 : decode cF_offer 0 = .ok (.aload_n 0, 1) := by decide +kernel
theorem dF_offer_1 : decode cF_offer 1 = .ok (.getfield 44, 3) := by decide +kernel
theorem dF_offer_4 : decode cF_offer 4 = .ok (.aload_n 0, 1) := by decide +kernel
theorem dF_offer_5 : decode cF_offer 5 = .ok (.getfield 40, 3) := by decide +kernel
theorem dF_offer_8 : decode cF_offer 8 = .ok (.getfield 85, 3) := by decide +kernel
theorem dF_offer_11 : decode cF_offer 11 = .ok (.iload_n 1, 1) := by decide +kernel
theorem dF_offer_12 : decode cF_offer 12 = .ok (.iaload, 1) := by decide +kernel
theorem dF_offer_13 : decode cF_offer 13 = .ok (.invokestatic 57, 3) := by decide +kernel
theorem dF_offer_16 : decode cF_offer 16 = .ok (.istore_n 3, 1) := by decide +kernel
theorem dF_offer_17 : decode cF_offer 17 = .ok (.iload_n 2, 1) := by decide +kernel
theorem dF_offer_18 : decode cF_offer 18 = .ok (.iconst (-1), 1) := by decide +kernel
theorem dF_offer_19 : decode cF_offer 19 = .ok (.if_icmp .eq 37, 3) := by decide +kernel
theorem dF_offer_22 : decode cF_offer 22 = .ok (.aload_n 0, 1) := by decide +kernel
theorem dF_offer_23 : decode cF_offer 23 = .ok (.getfield 27, 3) := by decide +kernel
theorem dF_offer_26 : decode cF_offer 26 = .ok (.iload_n 3, 1) := by decide +kernel
theorem dF_offer_27 : decode cF_offer 27 = .ok (.iaload, 1) := by decide +kernel
theorem dF_offer_28 : decode cF_offer 28 = .ok (.iconst (-1), 1) := by decide +kernel
theorem dF_offer_29 : decode cF_offer 29 = .ok (.if_icmp .eq 13, 3) := by decide +kernel
theorem dF_offer_32 : decode cF_offer 32 = .ok (.iload_n 2, 1) := by decide +kernel
theorem dF_offer_33 : decode cF_offer 33 = .ok (.aload_n 0, 1) := by decide +kernel
theorem dF_offer_34 : decode cF_offer 34 = .ok (.getfield 27, 3) := by decide +kernel
theorem dF_offer_37 : decode cF_offer 37 = .ok (.iload_n 3, 1) := by decide +kernel
theorem dF_offer_38 : decode cF_offer 38 = .ok (.iaload, 1) := by decide +kernel
theorem dF_offer_39 : decode cF_offer 39 = .ok (.if_icmp .ge 17, 3) := by decide +kernel
theorem dF_offer_42 : decode cF_offer 42 = .ok (.aload_n 0, 1) := by decide +kernel
theorem dF_offer_43 : decode cF_offer 43 = .ok (.getfield 27, 3) := by decide +kernel
theorem dF_offer_46 : decode cF_offer 46 = .ok (.iload_n 3, 1) := by decide +kernel
theorem dF_offer_47 : decode cF_offer 47 = .ok (.iload_n 2, 1) := by decide +kernel
theorem dF_offer_48 : decode cF_offer 48 = .ok (.iastore, 1) := by decide +kernel
theorem dF_offer_49 : decode cF_offer 49 = .ok (.aload_n 0, 1) := by decide +kernel
theorem dF_offer_50 : decode cF_offer 50 = .ok (.getfield 30, 3) := by decide +kernel
theorem dF_offer_53 : decode cF_offer 53 = .ok (.iload_n 3, 1) := by decide +kernel
theorem dF_offer_54 : decode cF_offer 54 = .ok (.iload_n 1, 1) := by decide +kernel
theorem dF_offer_55 : decode cF_offer 55 = .ok (.iastore, 1) := by decide +kernel
theorem dF_offer_56 : decode cF_offer 56 = .ok (.return_, 1) := by decide +kernel
abbrev cF_settleGoals : ByteArray := prog_2_method_10_code
abbrev yF_settleGoals : MethodName := ⟨"CoverTrees$Forest", "settleGoals", "()V"⟩
abbrev kF_settleGoals : Cond := .code yF_settleGoals cF_settleGoals 3 none
abbrev wsF_settleGoals : List Cond := kF_settleGoals :: wB
theorem dF_settleGoals_0 : decode cF_settleGoals 0 = .ok (.iconst 0, 1) := by decide +kernel
theorem dF_settleGoals_1 : decode cF_settleGoals 1 = .ok (.istore_n 1, 1) := by decide +kernel
theorem dF_settleGoals_2 : decode cF_settleGoals 2 = .ok (.iload_n 1, 1) := by decide +kernel
theorem dF_settleGoals_3 : decode cF_settleGoals 3 = .ok (.bipush 8, 2) := by decide +kernel
theorem dF_settleGoals_5 : decode cF_settleGoals 5 = .ok (.if_icmp .ge 76, 3) := by decide +kernel
theorem dF_settleGoals_8 : decode cF_settleGoals 8 = .ok (.aload_n 0, 1) := by decide +kernel
theorem dF_settleGoals_9 : decode cF_settleGoals 9 = .ok (.invokevirtual 88, 3) := by decide +kernel
theorem dF_settleGoals_12 : decode cF_settleGoals 12 = .ok (.istore_n 2, 1) := by decide +kernel
theorem dF_settleGoals_13 : decode cF_settleGoals 13 = .ok (.iload_n 2, 1) := by decide +kernel
theorem dF_settleGoals_14 : decode cF_settleGoals 14 = .ok (.iconst (-1), 1) := by decide +kernel
theorem dF_settleGoals_15 : decode cF_settleGoals 15 = .ok (.if_icmp .ne 4, 3) := by decide +kernel
theorem dF_settleGoals_18 : decode cF_settleGoals 18 = .ok (.return_, 1) := by decide +kernel
theorem dF_settleGoals_19 : decode cF_settleGoals 19 = .ok (.aload_n 0, 1) := by decide +kernel
theorem dF_settleGoals_20 : decode cF_settleGoals 20 = .ok (.getfield 36, 3) := by decide +kernel
theorem dF_settleGoals_23 : decode cF_settleGoals 23 = .ok (.iload_n 2, 1) := by decide +kernel
theorem dF_settleGoals_24 : decode cF_settleGoals 24 = .ok (.iconst 1, 1) := by decide +kernel
theorem dF_settleGoals_25 : decode cF_settleGoals 25 = .ok (.bastore, 1) := by decide +kernel
theorem dF_settleGoals_26 : decode cF_settleGoals 26 = .ok (.iload_n 1, 1) := by decide +kernel
theorem dF_settleGoals_27 : decode cF_settleGoals 27 = .ok (.ifCond .ne 25, 3) := by decide +kernel
theorem dF_settleGoals_30 : decode cF_settleGoals 30 = .ok (.aload_n 0, 1) := by decide +kernel
theorem dF_settleGoals_31 : decode cF_settleGoals 31 = .ok (.getfield 21, 3) := by decide +kernel
theorem dF_settleGoals_34 : decode cF_settleGoals 34 = .ok (.aload_n 0, 1) := by decide +kernel
theorem dF_settleGoals_35 : decode cF_settleGoals 35 = .ok (.getfield 44, 3) := by decide +kernel
theorem dF_settleGoals_38 : decode cF_settleGoals 38 = .ok (.aload_n 0, 1) := by decide +kernel
theorem dF_settleGoals_39 : decode cF_settleGoals 39 = .ok (.getfield 27, 3) := by decide +kernel
theorem dF_settleGoals_42 : decode cF_settleGoals 42 = .ok (.aload_n 0, 1) := by decide +kernel
theorem dF_settleGoals_43 : decode cF_settleGoals 43 = .ok (.getfield 44, 3) := by decide +kernel
theorem dF_settleGoals_46 : decode cF_settleGoals 46 = .ok (.iload_n 2, 1) := by decide +kernel
theorem dF_settleGoals_47 : decode cF_settleGoals 47 = .ok (.invokestatic 57, 3) := by decide +kernel
theorem dF_settleGoals_50 : decode cF_settleGoals 50 = .ok (.iaload, 1) := by decide +kernel
theorem dF_settleGoals_51 : decode cF_settleGoals 51 = .ok (.iastore, 1) := by decide +kernel
theorem dF_settleGoals_52 : decode cF_settleGoals 52 = .ok (.aload_n 0, 1) := by decide +kernel
theorem dF_settleGoals_53 : decode cF_settleGoals 53 = .ok (.getfield 33, 3) := by decide +kernel
theorem dF_settleGoals_56 : decode cF_settleGoals 56 = .ok (.aload_n 0, 1) := by decide +kernel
theorem dF_settleGoals_57 : decode cF_settleGoals 57 = .ok (.getfield 44, 3) := by decide +kernel
theorem dF_settleGoals_60 : decode cF_settleGoals 60 = .ok (.iload_n 2, 1) := by decide +kernel
theorem dF_settleGoals_61 : decode cF_settleGoals 61 = .ok (.invokestatic 57, 3) := by decide +kernel
theorem dF_settleGoals_64 : decode cF_settleGoals 64 = .ok (.aload_n 0, 1) := by decide +kernel
theorem dF_settleGoals_65 : decode cF_settleGoals 65 = .ok (.iload_n 2, 1) := by decide +kernel
theorem dF_settleGoals_66 : decode cF_settleGoals 66 = .ok (.invokevirtual 92, 3) := by decide +kernel
theorem dF_settleGoals_69 : decode cF_settleGoals 69 = .ok (.iastore, 1) := by decide +kernel
theorem dF_settleGoals_70 : decode cF_settleGoals 70 = .ok (.aload_n 0, 1) := by decide +kernel
theorem dF_settleGoals_71 : decode cF_settleGoals 71 = .ok (.iload_n 2, 1) := by decide +kernel
theorem dF_settleGoals_72 : decode cF_settleGoals 72 = .ok (.invokevirtual 95, 3) := by decide +kernel
theorem dF_settleGoals_75 : decode cF_settleGoals 75 = .ok (.iinc 1 1, 3) := by decide +kernel
theorem dF_settleGoals_78 : decode cF_settleGoals 78 = .ok (.goto (-76), 3) := by decide +kernel
theorem dF_settleGoals_81 : decode cF_settleGoals 81 = .ok (.return_, 1) := by decide +kernel
abbrev cF_cheapestUnsettled : ByteArray := prog_2_method_11_code
abbrev yF_cheapestUnsettled : MethodName := ⟨"CoverTrees$Forest", "cheapestUnsettled", "()I"⟩
abbrev kF_cheapestUnsettled : Cond := .code yF_cheapestUnsettled cF_cheapestUnsettled 4 (some .int)
abbrev wsF_cheapestUnsettled : List Cond := kF_cheapestUnsettled :: wB
theorem dF_cheapestUnsettled_0 : decode cF_cheapestUnsettled 0 = .ok (.iconst (-1), 1) := by decide +kernel
theorem dF_cheapestUnsettled_1 : decode cF_cheapestUnsettled 1 = .ok (.istore_n 1, 1) := by decide +kernel
theorem dF_cheapestUnsettled_2 : decode cF_cheapestUnsettled 2 = .ok (.iconst 0, 1) := by decide +kernel
theorem dF_cheapestUnsettled_3 : decode cF_cheapestUnsettled 3 = .ok (.istore_n 2, 1) := by decide +kernel
theorem dF_cheapestUnsettled_4 : decode cF_cheapestUnsettled 4 = .ok (.iload_n 2, 1) := by decide +kernel
theorem dF_cheapestUnsettled_5 : decode cF_cheapestUnsettled 5 = .ok (.bipush 8, 2) := by decide +kernel
theorem dF_cheapestUnsettled_7 : decode cF_cheapestUnsettled 7 = .ok (.if_icmp .ge 61, 3) := by decide +kernel
theorem dF_cheapestUnsettled_10 : decode cF_cheapestUnsettled 10 = .ok (.aload_n 0, 1) := by decide +kernel
theorem dF_cheapestUnsettled_11 : decode cF_cheapestUnsettled 11 = .ok (.getfield 27, 3) := by decide +kernel
theorem dF_cheapestUnsettled_14 : decode cF_cheapestUnsettled 14 = .ok (.aload_n 0, 1) := by decide +kernel
theorem dF_cheapestUnsettled_15 : decode cF_cheapestUnsettled 15 = .ok (.getfield 44, 3) := by decide +kernel
theorem dF_cheapestUnsettled_18 : decode cF_cheapestUnsettled 18 = .ok (.iload_n 2, 1) := by decide +kernel
theorem dF_cheapestUnsettled_19 : decode cF_cheapestUnsettled 19 = .ok (.invokestatic 57, 3) := by decide +kernel
theorem dF_cheapestUnsettled_22 : decode cF_cheapestUnsettled 22 = .ok (.iaload, 1) := by decide +kernel
theorem dF_cheapestUnsettled_23 : decode cF_cheapestUnsettled 23 = .ok (.istore_n 3, 1) := by decide +kernel
theorem dF_cheapestUnsettled_24 : decode cF_cheapestUnsettled 24 = .ok (.aload_n 0, 1) := by decide +kernel
theorem dF_cheapestUnsettled_25 : decode cF_cheapestUnsettled 25 = .ok (.getfield 36, 3) := by decide +kernel
theorem dF_cheapestUnsettled_28 : decode cF_cheapestUnsettled 28 = .ok (.iload_n 2, 1) := by decide +kernel
theorem dF_cheapestUnsettled_29 : decode cF_cheapestUnsettled 29 = .ok (.baload, 1) := by decide +kernel
theorem dF_cheapestUnsettled_30 : decode cF_cheapestUnsettled 30 = .ok (.ifCond .ne 32, 3) := by decide +kernel
theorem dF_cheapestUnsettled_33 : decode cF_cheapestUnsettled 33 = .ok (.iload_n 3, 1) := by decide +kernel
theorem dF_cheapestUnsettled_34 : decode cF_cheapestUnsettled 34 = .ok (.iconst (-1), 1) := by decide +kernel
theorem dF_cheapestUnsettled_35 : decode cF_cheapestUnsettled 35 = .ok (.if_icmp .eq 27, 3) := by decide +kernel
theorem dF_cheapestUnsettled_38 : decode cF_cheapestUnsettled 38 = .ok (.iload_n 1, 1) := by decide +kernel
theorem dF_cheapestUnsettled_39 : decode cF_cheapestUnsettled 39 = .ok (.iconst (-1), 1) := by decide +kernel
theorem dF_cheapestUnsettled_40 : decode cF_cheapestUnsettled 40 = .ok (.if_icmp .eq 20, 3) := by decide +kernel
theorem dF_cheapestUnsettled_43 : decode cF_cheapestUnsettled 43 = .ok (.iload_n 3, 1) := by decide +kernel
theorem dF_cheapestUnsettled_44 : decode cF_cheapestUnsettled 44 = .ok (.aload_n 0, 1) := by decide +kernel
theorem dF_cheapestUnsettled_45 : decode cF_cheapestUnsettled 45 = .ok (.getfield 27, 3) := by decide +kernel
theorem dF_cheapestUnsettled_48 : decode cF_cheapestUnsettled 48 = .ok (.aload_n 0, 1) := by decide +kernel
theorem dF_cheapestUnsettled_49 : decode cF_cheapestUnsettled 49 = .ok (.getfield 44, 3) := by decide +kernel
theorem dF_cheapestUnsettled_52 : decode cF_cheapestUnsettled 52 = .ok (.iload_n 1, 1) := by decide +kernel
theorem dF_cheapestUnsettled_53 : decode cF_cheapestUnsettled 53 = .ok (.invokestatic 57, 3) := by decide +kernel
theorem dF_cheapestUnsettled_56 : decode cF_cheapestUnsettled 56 = .ok (.iaload, 1) := by decide +kernel
theorem dF_cheapestUnsettled_57 : decode cF_cheapestUnsettled 57 = .ok (.if_icmp .ge 5, 3) := by decide +kernel
theorem dF_cheapestUnsettled_60 : decode cF_cheapestUnsettled 60 = .ok (.iload_n 2, 1) := by decide +kernel
theorem dF_cheapestUnsettled_61 : decode cF_cheapestUnsettled 61 = .ok (.istore_n 1, 1) := by decide +kernel
theorem dF_cheapestUnsettled_62 : decode cF_cheapestUnsettled 62 = .ok (.iinc 2 1, 3) := by decide +kernel
theorem dF_cheapestUnsettled_65 : decode cF_cheapestUnsettled 65 = .ok (.goto (-61), 3) := by decide +kernel
theorem dF_cheapestUnsettled_68 : decode cF_cheapestUnsettled 68 = .ok (.iload_n 1, 1) := by decide +kernel
theorem dF_cheapestUnsettled_69 : decode cF_cheapestUnsettled 69 = .ok (.ireturn, 1) := by decide +kernel
abbrev cF_applyChainRulesFrom : ByteArray := prog_2_method_12_code
abbrev yF_applyChainRulesFrom : MethodName := ⟨"CoverTrees$Forest", "applyChainRulesFrom", "(I)V"⟩
abbrev kF_applyChainRulesFrom : Cond := .code yF_applyChainRulesFrom cF_applyChainRulesFrom 4 none
abbrev wsF_applyChainRulesFrom : List Cond := kF_applyChainRulesFrom :: wB
theorem dF_applyChainRulesFrom_0 : decode cF_applyChainRulesFrom 0 = .ok (.aload_n 0, 1) := by decide +kernel
theorem dF_applyChainRulesFrom_1 : decode cF_applyChainRulesFrom 1 = .ok (.getfield 27, 3) := by decide +kernel
theorem dF_applyChainRulesFrom_4 : decode cF_applyChainRulesFrom 4 = .ok (.aload_n 0, 1) := by decide +kernel
theorem dF_applyChainRulesFrom_5 : decode cF_applyChainRulesFrom 5 = .ok (.getfield 44, 3) := by decide +kernel
theorem dF_applyChainRulesFrom_8 : decode cF_applyChainRulesFrom 8 = .ok (.iload_n 1, 1) := by decide +kernel
theorem dF_applyChainRulesFrom_9 : decode cF_applyChainRulesFrom 9 = .ok (.invokestatic 57, 3) := by decide +kernel
theorem dF_applyChainRulesFrom_12 : decode cF_applyChainRulesFrom 12 = .ok (.iaload, 1) := by decide +kernel
theorem dF_applyChainRulesFrom_13 : decode cF_applyChainRulesFrom 13 = .ok (.istore_n 2, 1) := by decide +kernel
theorem dF_applyChainRulesFrom_14 : decode cF_applyChainRulesFrom 14 = .ok (.iconst 0, 1) := by decide +kernel
theorem dF_applyChainRulesFrom_15 : decode cF_applyChainRulesFrom 15 = .ok (.istore_n 3, 1) := by decide +kernel
theorem dF_applyChainRulesFrom_16 : decode cF_applyChainRulesFrom 16 = .ok (.iload_n 3, 1) := by decide +kernel
theorem dF_applyChainRulesFrom_17 : decode cF_applyChainRulesFrom 17 = .ok (.aload_n 0, 1) := by decide +kernel
theorem dF_applyChainRulesFrom_18 : decode cF_applyChainRulesFrom 18 = .ok (.getfield 40, 3) := by decide +kernel
theorem dF_applyChainRulesFrom_21 : decode cF_applyChainRulesFrom 21 = .ok (.getfield 66, 3) := by decide +kernel
theorem dF_applyChainRulesFrom_24 : decode cF_applyChainRulesFrom 24 = .ok (.if_icmp .ge 37, 3) := by decide +kernel
theorem dF_applyChainRulesFrom_27 : decode cF_applyChainRulesFrom 27 = .ok (.aload_n 0, 1) := by decide +kernel
theorem dF_applyChainRulesFrom_28 : decode cF_applyChainRulesFrom 28 = .ok (.getfield 40, 3) := by decide +kernel
theorem dF_applyChainRulesFrom_31 : decode cF_applyChainRulesFrom 31 = .ok (.iload_n 3, 1) := by decide +kernel
theorem dF_applyChainRulesFrom_32 : decode cF_applyChainRulesFrom 32 = .ok (.iload_n 1, 1) := by decide +kernel
theorem dF_applyChainRulesFrom_33 : decode cF_applyChainRulesFrom 33 = .ok (.invokevirtual 99, 3) := by decide +kernel
theorem dF_applyChainRulesFrom_36 : decode cF_applyChainRulesFrom 36 = .ok (.ifCond .eq 19, 3) := by decide +kernel
theorem dF_applyChainRulesFrom_39 : decode cF_applyChainRulesFrom 39 = .ok (.aload_n 0, 1) := by decide +kernel
theorem dF_applyChainRulesFrom_40 : decode cF_applyChainRulesFrom 40 = .ok (.iload_n 3, 1) := by decide +kernel
theorem dF_applyChainRulesFrom_41 : decode cF_applyChainRulesFrom 41 = .ok (.iload_n 2, 1) := by decide +kernel
theorem dF_applyChainRulesFrom_42 : decode cF_applyChainRulesFrom 42 = .ok (.aload_n 0, 1) := by decide +kernel
theorem dF_applyChainRulesFrom_43 : decode cF_applyChainRulesFrom 43 = .ok (.getfield 40, 3) := by decide +kernel
theorem dF_applyChainRulesFrom_46 : decode cF_applyChainRulesFrom 46 = .ok (.getfield 82, 3) := by decide +kernel
theorem dF_applyChainRulesFrom_49 : decode cF_applyChainRulesFrom 49 = .ok (.iload_n 3, 1) := by decide +kernel
theorem dF_applyChainRulesFrom_50 : decode cF_applyChainRulesFrom 50 = .ok (.iaload, 1) := by decide +kernel
theorem dF_applyChainRulesFrom_51 : decode cF_applyChainRulesFrom 51 = .ok (.iadd, 1) := by decide +kernel
theorem dF_applyChainRulesFrom_52 : decode cF_applyChainRulesFrom 52 = .ok (.invokevirtual 75, 3) := by decide +kernel
theorem dF_applyChainRulesFrom_55 : decode cF_applyChainRulesFrom 55 = .ok (.iinc 3 1, 3) := by decide +kernel
theorem dF_applyChainRulesFrom_58 : decode cF_applyChainRulesFrom 58 = .ok (.goto (-42), 3) := by decide +kernel
theorem dF_applyChainRulesFrom_61 : decode cF_applyChainRulesFrom 61 = .ok (.return_, 1) := by decide +kernel
abbrev cF_sizeByRule : ByteArray := prog_2_method_13_code
abbrev yF_sizeByRule : MethodName := ⟨"CoverTrees$Forest", "sizeByRule", "(I)I"⟩
abbrev kF_sizeByRule : Cond := .code yF_sizeByRule cF_sizeByRule 5 (some .int)
abbrev wsF_sizeByRule : List Cond := kF_sizeByRule :: wB
theorem dF_sizeByRule_0 : decode cF_sizeByRule 0 = .ok (.aload_n 0, 1) := by decide +kernel
theorem dF_sizeByRule_1 : decode cF_sizeByRule 1 = .ok (.getfield 30, 3) := by decide +kernel
theorem dF_sizeByRule_4 : decode cF_sizeByRule 4 = .ok (.aload_n 0, 1) := by decide +kernel
theorem dF_sizeByRule_5 : decode cF_sizeByRule 5 = .ok (.getfield 44, 3) := by decide +kernel
theorem dF_sizeByRule_8 : decode cF_sizeByRule 8 = .ok (.iload_n 1, 1) := by decide +kernel
theorem dF_sizeByRule_9 : decode cF_sizeByRule 9 = .ok (.invokestatic 57, 3) := by decide +kernel
theorem dF_sizeByRule_12 : decode cF_sizeByRule 12 = .ok (.iaload, 1) := by decide +kernel
theorem dF_sizeByRule_13 : decode cF_sizeByRule 13 = .ok (.istore_n 2, 1) := by decide +kernel
theorem dF_sizeByRule_14 : decode cF_sizeByRule 14 = .ok (.iconst 1, 1) := by decide +kernel
theorem dF_sizeByRule_15 : decode cF_sizeByRule 15 = .ok (.istore_n 3, 1) := by decide +kernel
theorem dF_sizeByRule_16 : decode cF_sizeByRule 16 = .ok (.aload_n 0, 1) := by decide +kernel
theorem dF_sizeByRule_17 : decode cF_sizeByRule 17 = .ok (.getfield 40, 3) := by decide +kernel
theorem dF_sizeByRule_20 : decode cF_sizeByRule 20 = .ok (.getfield 71, 3) := by decide +kernel
theorem dF_sizeByRule_23 : decode cF_sizeByRule 23 = .ok (.iload_n 2, 1) := by decide +kernel
theorem dF_sizeByRule_24 : decode cF_sizeByRule 24 = .ok (.iaload, 1) := by decide +kernel
theorem dF_sizeByRule_25 : decode cF_sizeByRule 25 = .ok (.iconst (-1), 1) := by decide +kernel
theorem dF_sizeByRule_26 : decode cF_sizeByRule 26 = .ok (.if_icmp .ne 30, 3) := by decide +kernel
theorem dF_sizeByRule_29 : decode cF_sizeByRule 29 = .ok (.iload_n 3, 1) := by decide +kernel
theorem dF_sizeByRule_30 : decode cF_sizeByRule 30 = .ok (.aload_n 0, 1) := by decide +kernel
theorem dF_sizeByRule_31 : decode cF_sizeByRule 31 = .ok (.getfield 33, 3) := by decide +kernel
theorem dF_sizeByRule_34 : decode cF_sizeByRule 34 = .ok (.aload_n 0, 1) := by decide +kernel
theorem dF_sizeByRule_35 : decode cF_sizeByRule 35 = .ok (.getfield 44, 3) := by decide +kernel
theorem dF_sizeByRule_38 : decode cF_sizeByRule 38 = .ok (.aload_n 0, 1) := by decide +kernel
theorem dF_sizeByRule_39 : decode cF_sizeByRule 39 = .ok (.getfield 40, 3) := by decide +kernel
theorem dF_sizeByRule_42 : decode cF_sizeByRule 42 = .ok (.getfield 83, 3) := by decide +kernel
theorem dF_sizeByRule_45 : decode cF_sizeByRule 45 = .ok (.iload_n 2, 1) := by decide +kernel
theorem dF_sizeByRule_46 : decode cF_sizeByRule 46 = .ok (.iaload, 1) := by decide +kernel
theorem dF_sizeByRule_47 : decode cF_sizeByRule 47 = .ok (.invokestatic 57, 3) := by decide +kernel
theorem dF_sizeByRule_50 : decode cF_sizeByRule 50 = .ok (.iaload, 1) := by decide +kernel
theorem dF_sizeByRule_51 : decode cF_sizeByRule 51 = .ok (.iadd, 1) := by decide +kernel
theorem dF_sizeByRule_52 : decode cF_sizeByRule 52 = .ok (.istore_n 3, 1) := by decide +kernel
theorem dF_sizeByRule_53 : decode cF_sizeByRule 53 = .ok (.goto 92, 3) := by decide +kernel
theorem dF_sizeByRule_56 : decode cF_sizeByRule 56 = .ok (.aload_n 0, 1) := by decide +kernel
theorem dF_sizeByRule_57 : decode cF_sizeByRule 57 = .ok (.getfield 40, 3) := by decide +kernel
theorem dF_sizeByRule_60 : decode cF_sizeByRule 60 = .ok (.getfield 79, 3) := by decide +kernel
theorem dF_sizeByRule_63 : decode cF_sizeByRule 63 = .ok (.aload_n 0, 1) := by decide +kernel
theorem dF_sizeByRule_64 : decode cF_sizeByRule 64 = .ok (.getfield 9, 3) := by decide +kernel
theorem dF_sizeByRule_67 : decode cF_sizeByRule 67 = .ok (.aload_n 0, 1) := by decide +kernel
theorem dF_sizeByRule_68 : decode cF_sizeByRule 68 = .ok (.getfield 44, 3) := by decide +kernel
theorem dF_sizeByRule_71 : decode cF_sizeByRule 71 = .ok (.iaload, 1) := by decide +kernel
theorem dF_sizeByRule_72 : decode cF_sizeByRule 72 = .ok (.iaload, 1) := by decide +kernel
theorem dF_sizeByRule_73 : decode cF_sizeByRule 73 = .ok (.istore 4, 2) := by decide +kernel
theorem dF_sizeByRule_75 : decode cF_sizeByRule 75 = .ok (.iload 4, 2) := by decide +kernel
theorem dF_sizeByRule_77 : decode cF_sizeByRule 77 = .ok (.iconst 1, 1) := by decide +kernel
theorem dF_sizeByRule_78 : decode cF_sizeByRule 78 = .ok (.if_icmp .lt 32, 3) := by decide +kernel
theorem dF_sizeByRule_81 : decode cF_sizeByRule 81 = .ok (.iload_n 3, 1) := by decide +kernel
theorem dF_sizeByRule_82 : decode cF_sizeByRule 82 = .ok (.aload_n 0, 1) := by decide +kernel
theorem dF_sizeByRule_83 : decode cF_sizeByRule 83 = .ok (.getfield 33, 3) := by decide +kernel
theorem dF_sizeByRule_86 : decode cF_sizeByRule 86 = .ok (.aload_n 0, 1) := by decide +kernel
theorem dF_sizeByRule_87 : decode cF_sizeByRule 87 = .ok (.getfield 15, 3) := by decide +kernel
theorem dF_sizeByRule_90 : decode cF_sizeByRule 90 = .ok (.aload_n 0, 1) := by decide +kernel
theorem dF_sizeByRule_91 : decode cF_sizeByRule 91 = .ok (.getfield 44, 3) := by decide +kernel
theorem dF_sizeByRule_94 : decode cF_sizeByRule 94 = .ok (.iaload, 1) := by decide +kernel
theorem dF_sizeByRule_95 : decode cF_sizeByRule 95 = .ok (.aload_n 0, 1) := by decide +kernel
theorem dF_sizeByRule_96 : decode cF_sizeByRule 96 = .ok (.getfield 40, 3) := by decide +kernel
theorem dF_sizeByRule_99 : decode cF_sizeByRule 99 = .ok (.getfield 83, 3) := by decide +kernel
theorem dF_sizeByRule_102 : decode cF_sizeByRule 102 = .ok (.iload_n 2, 1) := by decide +kernel
theorem dF_sizeByRule_103 : decode cF_sizeByRule 103 = .ok (.iaload, 1) := by decide +kernel
theorem dF_sizeByRule_104 : decode cF_sizeByRule 104 = .ok (.invokestatic 57, 3) := by decide +kernel
theorem dF_sizeByRule_107 : decode cF_sizeByRule 107 = .ok (.iaload, 1) := by decide +kernel
theorem dF_sizeByRule_108 : decode cF_sizeByRule 108 = .ok (.iadd, 1) := by decide +kernel
theorem dF_sizeByRule_109 : decode cF_sizeByRule 109 = .ok (.istore_n 3, 1) := by decide +kernel
theorem dF_sizeByRule_110 : decode cF_sizeByRule 110 = .ok (.iload 4, 2) := by decide +kernel
theorem dF_sizeByRule_112 : decode cF_sizeByRule 112 = .ok (.iconst 2, 1) := by decide +kernel
theorem dF_sizeByRule_113 : decode cF_sizeByRule 113 = .ok (.if_icmp .lt 32, 3) := by decide +kernel
theorem dF_sizeByRule_116 : decode cF_sizeByRule 116 = .ok (.iload_n 3, 1) := by decide +kernel
theorem dF_sizeByRule_117 : decode cF_sizeByRule 117 = .ok (.aload_n 0, 1) := by decide +kernel
theorem dF_sizeByRule_118 : decode cF_sizeByRule 118 = .ok (.getfield 33, 3) := by decide +kernel
theorem dF_sizeByRule_121 : decode cF_sizeByRule 121 = .ok (.aload_n 0, 1) := by decide +kernel
theorem dF_sizeByRule_122 : decode cF_sizeByRule 122 = .ok (.getfield 18, 3) := by decide +kernel
theorem dF_sizeByRule_125 : decode cF_sizeByRule 125 = .ok (.aload_n 0, 1) := by decide +kernel
theorem dF_sizeByRule_126 : decode cF_sizeByRule 126 = .ok (.getfield 44, 3) := by decide +kernel
theorem dF_sizeByRule_129 : decode cF_sizeByRule 129 = .ok (.iaload, 1) := by decide +kernel
theorem dF_sizeByRule_130 : decode cF_sizeByRule 130 = .ok (.aload_n 0, 1) := by decide +kernel
theorem dF_sizeByRule_131 : decode cF_sizeByRule 131 = .ok (.getfield 40, 3) := by decide +kernel
theorem dF_sizeByRule_134 : decode cF_sizeByRule 134 = .ok (.getfield 84, 3) := by decide +kernel
theorem dF_sizeByRule_137 : decode cF_sizeByRule 137 = .ok (.iload_n 2, 1) := by decide +kernel
theorem dF_sizeByRule_138 : decode cF_sizeByRule 138 = .ok (.iaload, 1) := by decide +kernel
theorem dF_sizeByRule_139 : decode cF_sizeByRule 139 = .ok (.invokestatic 57, 3) := by decide +kernel
theorem dF_sizeByRule_142 : decode cF_sizeByRule 142 = .ok (.iaload, 1) := by decide +kernel
theorem dF_sizeByRule_143 : decode cF_sizeByRule 143 = .ok (.iadd, 1) := by decide +kernel
theorem dF_sizeByRule_144 : decode cF_sizeByRule 144 = .ok (.istore_n 3, 1) := by decide +kernel
theorem dF_sizeByRule_145 : decode cF_sizeByRule 145 = .ok (.iload_n 3, 1) := by decide +kernel
theorem dF_sizeByRule_146 : decode cF_sizeByRule 146 = .ok (.sipush 2001, 3) := by decide +kernel
theorem dF_sizeByRule_149 : decode cF_sizeByRule 149 = .ok (.invokestatic 103, 3) := by decide +kernel
theorem dF_sizeByRule_152 : decode cF_sizeByRule 152 = .ok (.ireturn, 1) := by decide +kernel
abbrev cF_findInCover : ByteArray := prog_2_method_14_code
abbrev yF_findInCover : MethodName := ⟨"CoverTrees$Forest", "findInCover", "(II)I"⟩
abbrev kF_findInCover : Cond := .code yF_findInCover cF_findInCover 9 (some .int)
abbrev wsF_findInCover : List Cond := kF_findInCover :: wB
theorem dF_findInCover_0 : decode cF_findInCover 0 = .ok (.iload_n 1, 1) := by decide +kernel
theorem dF_findInCover_1 : decode cF_findInCover 1 = .ok (.istore_n 3, 1) := by decide +kernel
theorem dF_findInCover_2 : decode cF_findInCover 2 = .ok (.iload_n 2, 1) := by decide +kernel
theorem dF_findInCover_3 : decode cF_findInCover 3 = .ok (.istore 4, 2) := by decide +kernel
theorem dF_findInCover_5 : decode cF_findInCover 5 = .ok (.iconst 0, 1) := by decide +kernel
theorem dF_findInCover_6 : decode cF_findInCover 6 = .ok (.istore 5, 2) := by decide +kernel
theorem dF_findInCover_8 : decode cF_findInCover 8 = .ok (.iload 5, 2) := by decide +kernel
theorem dF_findInCover_10 : decode cF_findInCover 10 = .ok (.sipush 960, 3) := by decide +kernel
theorem dF_findInCover_13 : decode cF_findInCover 13 = .ok (.if_icmp .ge 142, 3) := by decide +kernel
theorem dF_findInCover_16 : decode cF_findInCover 16 = .ok (.iload 4, 2) := by decide +kernel
theorem dF_findInCover_18 : decode cF_findInCover 18 = .ok (.aload_n 0, 1) := by decide +kernel
theorem dF_findInCover_19 : decode cF_findInCover 19 = .ok (.getfield 33, 3) := by decide +kernel
theorem dF_findInCover_22 : decode cF_findInCover 22 = .ok (.iload_n 3, 1) := by decide +kernel
theorem dF_findInCover_23 : decode cF_findInCover 23 = .ok (.iaload, 1) := by decide +kernel
theorem dF_findInCover_24 : decode cF_findInCover 24 = .ok (.iconst 1, 1) := by decide +kernel
theorem dF_findInCover_25 : decode cF_findInCover 25 = .ok (.isub, 1) := by decide +kernel
theorem dF_findInCover_26 : decode cF_findInCover 26 = .ok (.if_icmp .ge 129, 3) := by decide +kernel
theorem dF_findInCover_29 : decode cF_findInCover 29 = .ok (.aload_n 0, 1) := by decide +kernel
theorem dF_findInCover_30 : decode cF_findInCover 30 = .ok (.getfield 30, 3) := by decide +kernel
theorem dF_findInCover_33 : decode cF_findInCover 33 = .ok (.iload_n 3, 1) := by decide +kernel
theorem dF_findInCover_34 : decode cF_findInCover 34 = .ok (.iaload, 1) := by decide +kernel
theorem dF_findInCover_35 : decode cF_findInCover 35 = .ok (.istore 6, 2) := by decide +kernel
theorem dF_findInCover_37 : decode cF_findInCover 37 = .ok (.iload_n 3, 1) := by decide +kernel
theorem dF_findInCover_38 : decode cF_findInCover 38 = .ok (.bipush 8, 2) := by decide +kernel
theorem dF_findInCover_40 : decode cF_findInCover 40 = .ok (.idiv, 1) := by decide +kernel
theorem dF_findInCover_41 : decode cF_findInCover 41 = .ok (.istore 7, 2) := by decide +kernel
theorem dF_findInCover_43 : decode cF_findInCover 43 = .ok (.aload_n 0, 1) := by decide +kernel
theorem dF_findInCover_44 : decode cF_findInCover 44 = .ok (.getfield 40, 3) := by decide +kernel
theorem dF_findInCover_47 : decode cF_findInCover 47 = .ok (.getfield 71, 3) := by decide +kernel
theorem dF_findInCover_50 : decode cF_findInCover 50 = .ok (.iload 6, 2) := by decide +kernel
theorem dF_findInCover_52 : decode cF_findInCover 52 = .ok (.iaload, 1) := by decide +kernel
theorem dF_findInCover_53 : decode cF_findInCover 53 = .ok (.iconst (-1), 1) := by decide +kernel
theorem dF_findInCover_54 : decode cF_findInCover 54 = .ok (.if_icmp .ne 22, 3) := by decide +kernel
theorem dF_findInCover_57 : decode cF_findInCover 57 = .ok (.iload 7, 2) := by decide +kernel
theorem dF_findInCover_59 : decode cF_findInCover 59 = .ok (.aload_n 0, 1) := by decide +kernel
theorem dF_findInCover_60 : decode cF_findInCover 60 = .ok (.getfield 40, 3) := by decide +kernel
theorem dF_findInCover_63 : decode cF_findInCover 63 = .ok (.getfield 83, 3) := by decide +kernel
theorem dF_findInCover_66 : decode cF_findInCover 66 = .ok (.iload 6, 2) := by decide +kernel
theorem dF_findInCover_68 : decode cF_findInCover 68 = .ok (.iaload, 1) := by decide +kernel
theorem dF_findInCover_69 : decode cF_findInCover 69 = .ok (.invokestatic 57, 3) := by decide +kernel
theorem dF_findInCover_72 : decode cF_findInCover 72 = .ok (.istore_n 3, 1) := by decide +kernel
theorem dF_findInCover_73 : decode cF_findInCover 73 = .ok (.goto 76, 3) := by decide +kernel
theorem dF_findInCover_76 : decode cF_findInCover 76 = .ok (.aload_n 0, 1) := by decide +kernel
theorem dF_findInCover_77 : decode cF_findInCover 77 = .ok (.getfield 15, 3) := by decide +kernel
theorem dF_findInCover_80 : decode cF_findInCover 80 = .ok (.iload 7, 2) := by decide +kernel
theorem dF_findInCover_82 : decode cF_findInCover 82 = .ok (.iaload, 1) := by decide +kernel
theorem dF_findInCover_83 : decode cF_findInCover 83 = .ok (.aload_n 0, 1) := by decide +kernel
theorem dF_findInCover_84 : decode cF_findInCover 84 = .ok (.getfield 40, 3) := by decide +kernel
theorem dF_findInCover_87 : decode cF_findInCover 87 = .ok (.getfield 83, 3) := by decide +kernel
theorem dF_findInCover_90 : decode cF_findInCover 90 = .ok (.iload 6, 2) := by decide +kernel
theorem dF_findInCover_92 : decode cF_findInCover 92 = .ok (.iaload, 1) := by decide +kernel
theorem dF_findInCover_93 : decode cF_findInCover 93 = .ok (.invokestatic 57, 3) := by decide +kernel
theorem dF_findInCover_96 : decode cF_findInCover 96 = .ok (.istore 8, 2) := by decide +kernel
theorem dF_findInCover_98 : decode cF_findInCover 98 = .ok (.iload 4, 2) := by decide +kernel
theorem dF_findInCover_100 : decode cF_findInCover 100 = .ok (.aload_n 0, 1) := by decide +kernel
theorem dF_findInCover_101 : decode cF_findInCover 101 = .ok (.getfield 33, 3) := by decide +kernel
theorem dF_findInCover_104 : decode cF_findInCover 104 = .ok (.iload 8, 2) := by decide +kernel
theorem dF_findInCover_106 : decode cF_findInCover 106 = .ok (.iaload, 1) := by decide +kernel
theorem dF_findInCover_107 : decode cF_findInCover 107 = .ok (.if_icmp .ge 9, 3) := by decide +kernel
theorem dF_findInCover_110 : decode cF_findInCover 110 = .ok (.iload 8, 2) := by decide +kernel
theorem dF_findInCover_112 : decode cF_findInCover 112 = .ok (.istore_n 3, 1) := by decide +kernel
theorem dF_findInCover_113 : decode cF_findInCover 113 = .ok (.goto 36, 3) := by decide +kernel
theorem dF_findInCover_116 : decode cF_findInCover 116 = .ok (.iload 4, 2) := by decide +kernel
theorem dF_findInCover_118 : decode cF_findInCover 118 = .ok (.aload_n 0, 1) := by decide +kernel
theorem dF_findInCover_119 : decode cF_findInCover 119 = .ok (.getfield 33, 3) := by decide +kernel
theorem dF_findInCover_122 : decode cF_findInCover 122 = .ok (.iload 8, 2) := by decide +kernel
theorem dF_findInCover_124 : decode cF_findInCover 124 = .ok (.iaload, 1) := by decide +kernel
theorem dF_findInCover_125 : decode cF_findInCover 125 = .ok (.isub, 1) := by decide +kernel
theorem dF_findInCover_126 : decode cF_findInCover 126 = .ok (.istore 4, 2) := by decide +kernel
theorem dF_findInCover_128 : decode cF_findInCover 128 = .ok (.aload_n 0, 1) := by decide +kernel
theorem dF_findInCover_129 : decode cF_findInCover 129 = .ok (.getfield 18, 3) := by decide +kernel
theorem dF_findInCover_132 : decode cF_findInCover 132 = .ok (.iload 7, 2) := by decide +kernel
theorem dF_findInCover_134 : decode cF_findInCover 134 = .ok (.iaload, 1) := by decide +kernel
theorem dF_findInCover_135 : decode cF_findInCover 135 = .ok (.aload_n 0, 1) := by decide +kernel
theorem dF_findInCover_136 : decode cF_findInCover 136 = .ok (.getfield 40, 3) := by decide +kernel
theorem dF_findInCover_139 : decode cF_findInCover 139 = .ok (.getfield 84, 3) := by decide +kernel
theorem dF_findInCover_142 : decode cF_findInCover 142 = .ok (.iload 6, 2) := by decide +kernel
theorem dF_findInCover_144 : decode cF_findInCover 144 = .ok (.iaload, 1) := by decide +kernel
theorem dF_findInCover_145 : decode cF_findInCover 145 = .ok (.invokestatic 57, 3) := by decide +kernel
theorem dF_findInCover_148 : decode cF_findInCover 148 = .ok (.istore_n 3, 1) := by decide +kernel
theorem dF_findInCover_149 : decode cF_findInCover 149 = .ok (.iinc 5 1, 3) := by decide +kernel
theorem dF_findInCover_152 : decode cF_findInCover 152 = .ok (.goto (-144), 3) := by decide +kernel
theorem dF_findInCover_155 : decode cF_findInCover 155 = .ok (.iload_n 3, 1) := by decide +kernel
theorem dF_findInCover_156 : decode cF_findInCover 156 = .ok (.ireturn, 1) := by decide +kernel
abbrev cF_firstAlike : ByteArray := prog_2_method_15_code
abbrev yF_firstAlike : MethodName := ⟨"CoverTrees$Forest", "firstAlike", "(I)I"⟩
abbrev kF_firstAlike : Cond := .code yF_firstAlike cF_firstAlike 3 (some .int)
abbrev wsF_firstAlike : List Cond := kF_firstAlike :: wB
theorem dF_firstAlike_0 : decode cF_firstAlike 0 = .ok (.iconst 0, 1) := by decide +kernel
theorem dF_firstAlike_1 : decode cF_firstAlike 1 = .ok (.istore_n 2, 1) := by decide +kernel
theorem dF_firstAlike_2 : decode cF_firstAlike 2 = .ok (.iload_n 2, 1) := by decide +kernel
theorem dF_firstAlike_3 : decode cF_firstAlike 3 = .ok (.iload_n 1, 1) := by decide +kernel
theorem dF_firstAlike_4 : decode cF_firstAlike 4 = .ok (.if_icmp .ge 30, 3) := by decide +kernel
theorem dF_firstAlike_7 : decode cF_firstAlike 7 = .ok (.aload_n 0, 1) := by decide +kernel
theorem dF_firstAlike_8 : decode cF_firstAlike 8 = .ok (.getfield 24, 3) := by decide +kernel
theorem dF_firstAlike_11 : decode cF_firstAlike 11 = .ok (.iload_n 2, 1) := by decide +kernel
theorem dF_firstAlike_12 : decode cF_firstAlike 12 = .ok (.iaload, 1) := by decide +kernel
theorem dF_firstAlike_13 : decode cF_firstAlike 13 = .ok (.iload_n 2, 1) := by decide +kernel
theorem dF_firstAlike_14 : decode cF_firstAlike 14 = .ok (.if_icmp .ne 14, 3) := by decide +kernel
theorem dF_firstAlike_17 : decode cF_firstAlike 17 = .ok (.aload_n 0, 1) := by decide +kernel
theorem dF_firstAlike_18 : decode cF_firstAlike 18 = .ok (.iload_n 2, 1) := by decide +kernel
theorem dF_firstAlike_19 : decode cF_firstAlike 19 = .ok (.iload_n 1, 1) := by decide +kernel
theorem dF_firstAlike_20 : decode cF_firstAlike 20 = .ok (.invokevirtual 108, 3) := by decide +kernel
theorem dF_firstAlike_23 : decode cF_firstAlike 23 = .ok (.ifCond .eq 5, 3) := by decide +kernel
theorem dF_firstAlike_26 : decode cF_firstAlike 26 = .ok (.iload_n 2, 1) := by decide +kernel
theorem dF_firstAlike_27 : decode cF_firstAlike 27 = .ok (.ireturn, 1) := by decide +kernel
theorem dF_firstAlike_28 : decode cF_firstAlike 28 = .ok (.iinc 2 1, 3) := by decide +kernel
theorem dF_firstAlike_31 : decode cF_firstAlike 31 = .ok (.goto (-29), 3) := by decide +kernel
theorem dF_firstAlike_34 : decode cF_firstAlike 34 = .ok (.iload_n 1, 1) := by decide +kernel
theorem dF_firstAlike_35 : decode cF_firstAlike 35 = .ok (.ireturn, 1) := by decide +kernel
abbrev cF_alike : ByteArray := prog_2_method_16_code
abbrev yF_alike : MethodName := ⟨"CoverTrees$Forest", "alike", "(II)Z"⟩
abbrev kF_alike : Cond := .code yF_alike cF_alike 6 (some .boolean)
abbrev wsF_alike : List Cond := kF_alike :: wB
theorem dF_alike_0 : decode cF_alike 0 = .ok (.iconst 0, 1) := by decide +kernel
theorem dF_alike_1 : decode cF_alike 1 = .ok (.istore_n 3, 1) := by decide +kernel
theorem dF_alike_2 : decode cF_alike 2 = .ok (.iload_n 3, 1) := by decide +kernel
theorem dF_alike_3 : decode cF_alike 3 = .ok (.bipush 8, 2) := by decide +kernel
theorem dF_alike_5 : decode cF_alike 5 = .ok (.if_icmp .ge 86, 3) := by decide +kernel
theorem dF_alike_8 : decode cF_alike 8 = .ok (.iload_n 1, 1) := by decide +kernel
theorem dF_alike_9 : decode cF_alike 9 = .ok (.iload_n 3, 1) := by decide +kernel
theorem dF_alike_10 : decode cF_alike 10 = .ok (.invokestatic 57, 3) := by decide +kernel
theorem dF_alike_13 : decode cF_alike 13 = .ok (.istore 4, 2) := by decide +kernel
theorem dF_alike_15 : decode cF_alike 15 = .ok (.iload_n 2, 1) := by decide +kernel
theorem dF_alike_16 : decode cF_alike 16 = .ok (.iload_n 3, 1) := by decide +kernel
theorem dF_alike_17 : decode cF_alike 17 = .ok (.invokestatic 57, 3) := by decide +kernel
theorem dF_alike_20 : decode cF_alike 20 = .ok (.istore 5, 2) := by decide +kernel
theorem dF_alike_22 : decode cF_alike 22 = .ok (.aload_n 0, 1) := by decide +kernel
theorem dF_alike_23 : decode cF_alike 23 = .ok (.getfield 30, 3) := by decide +kernel
theorem dF_alike_26 : decode cF_alike 26 = .ok (.iload 4, 2) := by decide +kernel
theorem dF_alike_28 : decode cF_alike 28 = .ok (.iaload, 1) := by decide +kernel
theorem dF_alike_29 : decode cF_alike 29 = .ok (.aload_n 0, 1) := by decide +kernel
theorem dF_alike_30 : decode cF_alike 30 = .ok (.getfield 30, 3) := by decide +kernel
theorem dF_alike_33 : decode cF_alike 33 = .ok (.iload 5, 2) := by decide +kernel
theorem dF_alike_35 : decode cF_alike 35 = .ok (.iaload, 1) := by decide +kernel
theorem dF_alike_36 : decode cF_alike 36 = .ok (.if_icmp .eq 5, 3) := by decide +kernel
theorem dF_alike_39 : decode cF_alike 39 = .ok (.iconst 0, 1) := by decide +kernel
theorem dF_alike_40 : decode cF_alike 40 = .ok (.ireturn, 1) := by decide +kernel
theorem dF_alike_41 : decode cF_alike 41 = .ok (.aload_n 0, 1) := by decide +kernel
theorem dF_alike_42 : decode cF_alike 42 = .ok (.getfield 30, 3) := by decide +kernel
theorem dF_alike_45 : decode cF_alike 45 = .ok (.iload 4, 2) := by decide +kernel
theorem dF_alike_47 : decode cF_alike 47 = .ok (.iaload, 1) := by decide +kernel
theorem dF_alike_48 : decode cF_alike 48 = .ok (.iconst (-1), 1) := by decide +kernel
theorem dF_alike_49 : decode cF_alike 49 = .ok (.if_icmp .eq 36, 3) := by decide +kernel
theorem dF_alike_52 : decode cF_alike 52 = .ok (.aload_n 0, 1) := by decide +kernel
theorem dF_alike_53 : decode cF_alike 53 = .ok (.getfield 27, 3) := by decide +kernel
theorem dF_alike_56 : decode cF_alike 56 = .ok (.iload 4, 2) := by decide +kernel
theorem dF_alike_58 : decode cF_alike 58 = .ok (.iaload, 1) := by decide +kernel
theorem dF_alike_59 : decode cF_alike 59 = .ok (.aload_n 0, 1) := by decide +kernel
theorem dF_alike_60 : decode cF_alike 60 = .ok (.getfield 21, 3) := by decide +kernel
theorem dF_alike_63 : decode cF_alike 63 = .ok (.iload_n 1, 1) := by decide +kernel
theorem dF_alike_64 : decode cF_alike 64 = .ok (.iaload, 1) := by decide +kernel
theorem dF_alike_65 : decode cF_alike 65 = .ok (.isub, 1) := by decide +kernel
theorem dF_alike_66 : decode cF_alike 66 = .ok (.aload_n 0, 1) := by decide +kernel
theorem dF_alike_67 : decode cF_alike 67 = .ok (.getfield 27, 3) := by decide +kernel
theorem dF_alike_70 : decode cF_alike 70 = .ok (.iload 5, 2) := by decide +kernel
theorem dF_alike_72 : decode cF_alike 72 = .ok (.iaload, 1) := by decide +kernel
theorem dF_alike_73 : decode cF_alike 73 = .ok (.aload_n 0, 1) := by decide +kernel
theorem dF_alike_74 : decode cF_alike 74 = .ok (.getfield 21, 3) := by decide +kernel
theorem dF_alike_77 : decode cF_alike 77 = .ok (.iload_n 2, 1) := by decide +kernel
theorem dF_alike_78 : decode cF_alike 78 = .ok (.iaload, 1) := by decide +kernel
theorem dF_alike_79 : decode cF_alike 79 = .ok (.isub, 1) := by decide +kernel
theorem dF_alike_80 : decode cF_alike 80 = .ok (.if_icmp .eq 5, 3) := by decide +kernel
theorem dF_alike_83 : decode cF_alike 83 = .ok (.iconst 0, 1) := by decide +kernel
theorem dF_alike_84 : decode cF_alike 84 = .ok (.ireturn, 1) := by decide +kernel
theorem dF_alike_85 : decode cF_alike 85 = .ok (.iinc 3 1, 3) := by decide +kernel
theorem dF_alike_88 : decode cF_alike 88 = .ok (.goto (-86), 3) := by decide +kernel
theorem dF_alike_91 : decode cF_alike 91 = .ok (.iconst 1, 1) := by decide +kernel
theorem dF_alike_92 : decode cF_alike 92 = .ok (.ireturn, 1) := by decide +kernel
abbrev cF_countStates : ByteArray := prog_2_method_17_code
abbrev yF_countStates : MethodName := ⟨"CoverTrees$Forest", "countStates", "()I"⟩
abbrev kF_countStates : Cond := .code yF_countStates cF_countStates 3 (some .int)
abbrev wsF_countStates : List Cond := kF_countStates :: wB
theorem dF_countStates_0 : decode cF_countStates 0 = .ok (.iconst 0, 1) := by decide +kernel
theorem dF_countStates_1 : decode cF_countStates 1 = .ok (.istore_n 1, 1) := by decide +kernel
theorem dF_countStates_2 : decode cF_countStates 2 = .ok (.iconst 0, 1) := by decide +kernel
theorem dF_countStates_3 : decode cF_countStates 3 = .ok (.istore_n 2, 1) := by decide +kernel
theorem dF_countStates_4 : decode cF_countStates 4 = .ok (.iload_n 2, 1) := by decide +kernel
theorem dF_countStates_5 : decode cF_countStates 5 = .ok (.aload_n 0, 1) := by decide +kernel
theorem dF_countStates_6 : decode cF_countStates 6 = .ok (.getfield 44, 3) := by decide +kernel
theorem dF_countStates_9 : decode cF_countStates 9 = .ok (.if_icmp .ge 22, 3) := by decide +kernel
theorem dF_countStates_12 : decode cF_countStates 12 = .ok (.aload_n 0, 1) := by decide +kernel
theorem dF_countStates_13 : decode cF_countStates 13 = .ok (.getfield 24, 3) := by decide +kernel
theorem dF_countStates_16 : decode cF_countStates 16 = .ok (.iload_n 2, 1) := by decide +kernel
theorem dF_countStates_17 : decode cF_countStates 17 = .ok (.iaload, 1) := by decide +kernel
theorem dF_countStates_18 : decode cF_countStates 18 = .ok (.iload_n 2, 1) := by decide +kernel
theorem dF_countStates_19 : decode cF_countStates 19 = .ok (.if_icmp .ne 6, 3) := by decide +kernel
theorem dF_countStates_22 : decode cF_countStates 22 = .ok (.iinc 1 1, 3) := by decide +kernel
theorem dF_countStates_25 : decode cF_countStates 25 = .ok (.iinc 2 1, 3) := by decide +kernel
theorem dF_countStates_28 : decode cF_countStates 28 = .ok (.goto (-24), 3) := by decide +kernel
theorem dF_countStates_31 : decode cF_countStates 31 = .ok (.iload_n 1, 1) := by decide +kernel
theorem dF_countStates_32 : decode cF_countStates 32 = .ok (.ireturn, 1) := by decide +kernel
abbrev cM_init : ByteArray := prog_5_method_1_code
abbrev yM_init : MethodName := ⟨"CoverTreesModel", "<init>", "()V"⟩
abbrev kM_init : Cond := .code yM_init cM_init 1 none
abbrev wsM_init : List Cond := kM_init :: wB
theorem dM_init_0 : decode cM_init 0 = .ok (.aload_n 0, 1) := by decide +kernel
theorem dM_init_1 : decode cM_init 1 = .ok (.invokespecial 1, 3) := by decide +kernel
theorem dM_init_4 : decode cM_init 4 = .ok (.aload_n 0, 1) := by decide +kernel
theorem dM_init_5 : decode cM_init 5 = .ok (.bipush 10, 2) := by decide +kernel
theorem dM_init_7 : decode cM_init 7 = .ok (.newarray .int, 2) := by decide +kernel
theorem dM_init_9 : decode cM_init 9 = .ok (.putfield 7, 3) := by decide +kernel
theorem dM_init_12 : decode cM_init 12 = .ok (.aload_n 0, 1) := by decide +kernel
theorem dM_init_13 : decode cM_init 13 = .ok (.bipush 40, 2) := by decide +kernel
theorem dM_init_15 : decode cM_init 15 = .ok (.newarray .int, 2) := by decide +kernel
theorem dM_init_17 : decode cM_init 17 = .ok (.putfield 13, 3) := by decide +kernel
theorem dM_init_20 : decode cM_init 20 = .ok (.aload_n 0, 1) := by decide +kernel
theorem dM_init_21 : decode cM_init 21 = .ok (.bipush 40, 2) := by decide +kernel
theorem dM_init_23 : decode cM_init 23 = .ok (.newarray .int, 2) := by decide +kernel
theorem dM_init_25 : decode cM_init 25 = .ok (.putfield 16, 3) := by decide +kernel
theorem dM_init_28 : decode cM_init 28 = .ok (.aload_n 0, 1) := by decide +kernel
theorem dM_init_29 : decode cM_init 29 = .ok (.bipush 40, 2) := by decide +kernel
theorem dM_init_31 : decode cM_init 31 = .ok (.newarray .int, 2) := by decide +kernel
theorem dM_init_33 : decode cM_init 33 = .ok (.putfield 19, 3) := by decide +kernel
theorem dM_init_36 : decode cM_init 36 = .ok (.aload_n 0, 1) := by decide +kernel
theorem dM_init_37 : decode cM_init 37 = .ok (.bipush 40, 2) := by decide +kernel
theorem dM_init_39 : decode cM_init 39 = .ok (.newarray .int, 2) := by decide +kernel
theorem dM_init_41 : decode cM_init 41 = .ok (.putfield 22, 3) := by decide +kernel
theorem dM_init_44 : decode cM_init 44 = .ok (.aload_n 0, 1) := by decide +kernel
theorem dM_init_45 : decode cM_init 45 = .ok (.bipush 40, 2) := by decide +kernel
theorem dM_init_47 : decode cM_init 47 = .ok (.newarray .int, 2) := by decide +kernel
theorem dM_init_49 : decode cM_init 49 = .ok (.putfield 25, 3) := by decide +kernel
theorem dM_init_52 : decode cM_init 52 = .ok (.aload_n 0, 1) := by decide +kernel
theorem dM_init_53 : decode cM_init 53 = .ok (.bipush 120, 2) := by decide +kernel
theorem dM_init_55 : decode cM_init 55 = .ok (.newarray .int, 2) := by decide +kernel
theorem dM_init_57 : decode cM_init 57 = .ok (.putfield 28, 3) := by decide +kernel
theorem dM_init_60 : decode cM_init 60 = .ok (.aload_n 0, 1) := by decide +kernel
theorem dM_init_61 : decode cM_init 61 = .ok (.bipush 120, 2) := by decide +kernel
theorem dM_init_63 : decode cM_init 63 = .ok (.newarray .int, 2) := by decide +kernel
theorem dM_init_65 : decode cM_init 65 = .ok (.putfield 31, 3) := by decide +kernel
theorem dM_init_68 : decode cM_init 68 = .ok (.aload_n 0, 1) := by decide +kernel
theorem dM_init_69 : decode cM_init 69 = .ok (.bipush 120, 2) := by decide +kernel
theorem dM_init_71 : decode cM_init 71 = .ok (.newarray .int, 2) := by decide +kernel
theorem dM_init_73 : decode cM_init 73 = .ok (.putfield 34, 3) := by decide +kernel
theorem dM_init_76 : decode cM_init 76 = .ok (.aload_n 0, 1) := by decide +kernel
theorem dM_init_77 : decode cM_init 77 = .ok (.sipush 960, 3) := by decide +kernel
theorem dM_init_80 : decode cM_init 80 = .ok (.newarray .int, 2) := by decide +kernel
theorem dM_init_82 : decode cM_init 82 = .ok (.putfield 37, 3) := by decide +kernel
theorem dM_init_85 : decode cM_init 85 = .ok (.aload_n 0, 1) := by decide +kernel
theorem dM_init_86 : decode cM_init 86 = .ok (.sipush 960, 3) := by decide +kernel
theorem dM_init_89 : decode cM_init 89 = .ok (.newarray .int, 2) := by decide +kernel
theorem dM_init_91 : decode cM_init 91 = .ok (.putfield 40, 3) := by decide +kernel
theorem dM_init_94 : decode cM_init 94 = .ok (.aload_n 0, 1) := by decide +kernel
theorem dM_init_95 : decode cM_init 95 = .ok (.sipush 960, 3) := by decide +kernel
theorem dM_init_98 : decode cM_init 98 = .ok (.newarray .int, 2) := by decide +kernel
theorem dM_init_100 : decode cM_init 100 = .ok (.putfield 43, 3) := by decide +kernel
theorem dM_init_103 : decode cM_init 103 = .ok (.aload_n 0, 1) := by decide +kernel
theorem dM_init_104 : decode cM_init 104 = .ok (.bipush 8, 2) := by decide +kernel
theorem dM_init_106 : decode cM_init 106 = .ok (.newarray .boolean, 2) := by decide +kernel
theorem dM_init_108 : decode cM_init 108 = .ok (.putfield 46, 3) := by decide +kernel
theorem dM_init_111 : decode cM_init 111 = .ok (.return_, 1) := by decide +kernel
abbrev cM_thrown : ByteArray := prog_5_method_2_code
abbrev yM_thrown : MethodName := ⟨"CoverTreesModel", "thrown", "()I"⟩
abbrev kM_thrown : Cond := .code yM_thrown cM_thrown 1 (some .int)
abbrev wsM_thrown : List Cond := kM_thrown :: wB
theorem dM_thrown_0 : decode cM_thrown 0 = .ok (.aload_n 0, 1) := by decide +kernel
theorem dM_thrown_1 : decode cM_thrown 1 = .ok (.getfield 50, 3) := by decide +kernel
theorem dM_thrown_4 : decode cM_thrown 4 = .ok (.ireturn, 1) := by decide +kernel
abbrev cM_refuse : ByteArray := prog_5_method_3_code
abbrev yM_refuse : MethodName := ⟨"CoverTreesModel", "refuse", "(ZZZ)Z"⟩
abbrev kM_refuse : Cond := .code yM_refuse cM_refuse 4 (some .boolean)
abbrev wsM_refuse : List Cond := kM_refuse :: wB
theorem dM_refuse_0 : decode cM_refuse 0 = .ok (.aload_n 0, 1) := by decide +kernel
theorem dM_refuse_1 : decode cM_refuse 1 = .ok (.iload_n 1, 1) := by decide +kernel
theorem dM_refuse_2 : decode cM_refuse 2 = .ok (.ifCond .eq 7, 3) := by decide +kernel
theorem dM_refuse_5 : decode cM_refuse 5 = .ok (.iconst 1, 1) := by decide +kernel
theorem dM_refuse_6 : decode cM_refuse 6 = .ok (.goto 20, 3) := by decide +kernel
theorem dM_refuse_9 : decode cM_refuse 9 = .ok (.iload_n 2, 1) := by decide +kernel
theorem dM_refuse_10 : decode cM_refuse 10 = .ok (.ifCond .eq 7, 3) := by decide +kernel
theorem dM_refuse_13 : decode cM_refuse 13 = .ok (.iconst 2, 1) := by decide +kernel
theorem dM_refuse_14 : decode cM_refuse 14 = .ok (.goto 12, 3) := by decide +kernel
theorem dM_refuse_17 : decode cM_refuse 17 = .ok (.iload_n 3, 1) := by decide +kernel
theorem dM_refuse_18 : decode cM_refuse 18 = .ok (.ifCond .eq 7, 3) := by decide +kernel
theorem dM_refuse_21 : decode cM_refuse 21 = .ok (.iconst 3, 1) := by decide +kernel
theorem dM_refuse_22 : decode cM_refuse 22 = .ok (.goto 4, 3) := by decide +kernel
theorem dM_refuse_25 : decode cM_refuse 25 = .ok (.iconst 0, 1) := by decide +kernel
theorem dM_refuse_26 : decode cM_refuse 26 = .ok (.putfield 50, 3) := by decide +kernel
theorem dM_refuse_29 : decode cM_refuse 29 = .ok (.aload_n 0, 1) := by decide +kernel
theorem dM_refuse_30 : decode cM_refuse 30 = .ok (.getfield 50, 3) := by decide +kernel
theorem dM_refuse_33 : decode cM_refuse 33 = .ok (.ifCond .le 7, 3) := by decide +kernel
theorem dM_refuse_36 : decode cM_refuse 36 = .ok (.iconst 1, 1) := by decide +kernel
theorem dM_refuse_37 : decode cM_refuse 37 = .ok (.goto 4, 3) := by decide +kernel
theorem dM_refuse_40 : decode cM_refuse 40 = .ok (.iconst 0, 1) := by decide +kernel
theorem dM_refuse_41 : decode cM_refuse 41 = .ok (.ireturn, 1) := by decide +kernel
abbrev cM_in : ByteArray := prog_5_method_4_code
abbrev yM_in : MethodName := ⟨"CoverTreesModel", "in", "(III)Z"⟩
abbrev kM_in : Cond := .code yM_in cM_in 3 (some .boolean)
abbrev wsM_in : List Cond := kM_in :: wB
theorem dM_in_0 : decode cM_in 0 = .ok (.iload_n 0, 1) := by decide +kernel
theorem dM_in_1 : decode cM_in 1 = .ok (.iload_n 1, 1) := by decide +kernel
theorem dM_in_2 : decode cM_in 2 = .ok (.if_icmp .lt 12, 3) := by decide +kernel
theorem dM_in_5 : decode cM_in 5 = .ok (.iload_n 0, 1) := by decide +kernel
theorem dM_in_6 : decode cM_in 6 = .ok (.iload_n 2, 1) := by decide +kernel
theorem dM_in_7 : decode cM_in 7 = .ok (.if_icmp .gt 7, 3) := by decide +kernel
theorem dM_in_10 : decode cM_in 10 = .ok (.iconst 1, 1) := by decide +kernel
theorem dM_in_11 : decode cM_in 11 = .ok (.goto 4, 3) := by decide +kernel
theorem dM_in_14 : decode cM_in 14 = .ok (.iconst 0, 1) := by decide +kernel
theorem dM_in_15 : decode cM_in 15 = .ok (.ireturn, 1) := by decide +kernel
abbrev cM_clear : ByteArray := prog_5_method_5_code
abbrev yM_clear : MethodName := ⟨"CoverTreesModel", "clear", "()V"⟩
abbrev kM_clear : Cond := .code yM_clear cM_clear 1 none
abbrev wsM_clear : List Cond := kM_clear :: wB
theorem dM_clear_0 : decode cM_clear 0 = .ok (.aload_n 0, 1) := by decide +kernel
theorem dM_clear_1 : decode cM_clear 1 = .ok (.iconst 0, 1) := by decide +kernel
theorem dM_clear_2 : decode cM_clear 2 = .ok (.putfield 50, 3) := by decide +kernel
theorem dM_clear_5 : decode cM_clear 5 = .ok (.aload_n 0, 1) := by decide +kernel
theorem dM_clear_6 : decode cM_clear 6 = .ok (.iconst 0, 1) := by decide +kernel
theorem dM_clear_7 : decode cM_clear 7 = .ok (.putfield 54, 3) := by decide +kernel
theorem dM_clear_10 : decode cM_clear 10 = .ok (.aload_n 0, 1) := by decide +kernel
theorem dM_clear_11 : decode cM_clear 11 = .ok (.iconst 0, 1) := by decide +kernel
theorem dM_clear_12 : decode cM_clear 12 = .ok (.putfield 57, 3) := by decide +kernel
theorem dM_clear_15 : decode cM_clear 15 = .ok (.aload_n 0, 1) := by decide +kernel
theorem dM_clear_16 : decode cM_clear 16 = .ok (.iconst 0, 1) := by decide +kernel
theorem dM_clear_17 : decode cM_clear 17 = .ok (.putfield 60, 3) := by decide +kernel
theorem dM_clear_20 : decode cM_clear 20 = .ok (.return_, 1) := by decide +kernel
abbrev cM_fell : ByteArray := prog_5_method_6_code
abbrev yM_fell : MethodName := ⟨"CoverTreesModel", "fell", "()V"⟩
abbrev kM_fell : Cond := .code yM_fell cM_fell 1 none
abbrev wsM_fell : List Cond := kM_fell :: wB
theorem dM_fell_0 : decode cM_fell 0 = .ok (.aload_n 0, 1) := by decide +kernel
theorem dM_fell_1 : decode cM_fell 1 = .ok (.iconst 0, 1) := by decide +kernel
theorem dM_fell_2 : decode cM_fell 2 = .ok (.putfield 50, 3) := by decide +kernel
theorem dM_fell_5 : decode cM_fell 5 = .ok (.aload_n 0, 1) := by decide +kernel
theorem dM_fell_6 : decode cM_fell 6 = .ok (.iconst 0, 1) := by decide +kernel
theorem dM_fell_7 : decode cM_fell 7 = .ok (.putfield 60, 3) := by decide +kernel
theorem dM_fell_10 : decode cM_fell 10 = .ok (.return_, 1) := by decide +kernel
abbrev cM_operator : ByteArray := prog_5_method_7_code
abbrev yM_operator : MethodName := ⟨"CoverTreesModel", "operator", "(I)I"⟩
abbrev kM_operator : Cond := .code yM_operator cM_operator 2 (some .int)
abbrev wsM_operator : List Cond := kM_operator :: wB
theorem dM_operator_0 : decode cM_operator 0 = .ok (.aload_n 0, 1) := by decide +kernel
theorem dM_operator_1 : decode cM_operator 1 = .ok (.iload_n 1, 1) := by decide +kernel
theorem dM_operator_2 : decode cM_operator 2 = .ok (.iconst 0, 1) := by decide +kernel
theorem dM_operator_3 : decode cM_operator 3 = .ok (.iconst 2, 1) := by decide +kernel
theorem dM_operator_4 : decode cM_operator 4 = .ok (.invokestatic 63, 3) := by decide +kernel
theorem dM_operator_7 : decode cM_operator 7 = .ok (.ifCond .ne 7, 3) := by decide +kernel
theorem dM_operator_10 : decode cM_operator 10 = .ok (.iconst 1, 1) := by decide +kernel
theorem dM_operator_11 : decode cM_operator 11 = .ok (.goto 4, 3) := by decide +kernel
theorem dM_operator_14 : decode cM_operator 14 = .ok (.iconst 0, 1) := by decide +kernel
theorem dM_operator_15 : decode cM_operator 15 = .ok (.aload_n 0, 1) := by decide +kernel
theorem dM_operator_16 : decode cM_operator 16 = .ok (.getfield 54, 3) := by decide +kernel
theorem dM_operator_19 : decode cM_operator 19 = .ok (.bipush 10, 2) := by decide +kernel
theorem dM_operator_21 : decode cM_operator 21 = .ok (.if_icmp .ne 7, 3) := by decide +kernel
theorem dM_operator_24 : decode cM_operator 24 = .ok (.iconst 1, 1) := by decide +kernel
theorem dM_operator_25 : decode cM_operator 25 = .ok (.goto 4, 3) := by decide +kernel
theorem dM_operator_28 : decode cM_operator 28 = .ok (.iconst 0, 1) := by decide +kernel
theorem dM_operator_29 : decode cM_operator 29 = .ok (.iconst 0, 1) := by decide +kernel
theorem dM_operator_30 : decode cM_operator 30 = .ok (.invokevirtual 67, 3) := by decide +kernel
theorem dM_operator_33 : decode cM_operator 33 = .ok (.ifCond .eq 5, 3) := by decide +kernel
theorem dM_operator_36 : decode cM_operator 36 = .ok (.iconst 0, 1) := by decide +kernel
theorem dM_operator_37 : decode cM_operator 37 = .ok (.ireturn, 1) := by decide +kernel
theorem dM_operator_38 : decode cM_operator 38 = .ok (.aload_n 0, 1) := by decide +kernel
theorem dM_operator_39 : decode cM_operator 39 = .ok (.getfield 7, 3) := by decide +kernel
theorem dM_operator_42 : decode cM_operator 42 = .ok (.aload_n 0, 1) := by decide +kernel
theorem dM_operator_43 : decode cM_operator 43 = .ok (.getfield 54, 3) := by decide +kernel
theorem dM_operator_46 : decode cM_operator 46 = .ok (.iload_n 1, 1) := by decide +kernel
theorem dM_operator_47 : decode cM_operator 47 = .ok (.iastore, 1) := by decide +kernel
theorem dM_operator_48 : decode cM_operator 48 = .ok (.aload_n 0, 1) := by decide +kernel
theorem dM_operator_49 : decode cM_operator 49 = .ok (.dup, 1) := by decide +kernel
theorem dM_operator_50 : decode cM_operator 50 = .ok (.getfield 54, 3) := by decide +kernel
theorem dM_operator_53 : decode cM_operator 53 = .ok (.iconst 1, 1) := by decide +kernel
theorem dM_operator_54 : decode cM_operator 54 = .ok (.iadd, 1) := by decide +kernel
theorem dM_operator_55 : decode cM_operator 55 = .ok (.putfield 54, 3) := by decide +kernel
theorem dM_operator_58 : decode cM_operator 58 = .ok (.aload_n 0, 1) := by decide +kernel
theorem dM_operator_59 : decode cM_operator 59 = .ok (.getfield 54, 3) := by decide +kernel
theorem dM_operator_62 : decode cM_operator 62 = .ok (.iconst 1, 1) := by decide +kernel
theorem dM_operator_63 : decode cM_operator 63 = .ok (.isub, 1) := by decide +kernel
theorem dM_operator_64 : decode cM_operator 64 = .ok (.ireturn, 1) := by decide +kernel
abbrev cM_isGoal : ByteArray := prog_5_method_8_code
abbrev yM_isGoal : MethodName := ⟨"CoverTreesModel", "isGoal", "(I)Z"⟩
abbrev kM_isGoal : Cond := .code yM_isGoal cM_isGoal 1 (some .boolean)
abbrev wsM_isGoal : List Cond := kM_isGoal :: wB
theorem dM_isGoal_0 : decode cM_isGoal 0 = .ok (.iload_n 0, 1) := by decide +kernel
theorem dM_isGoal_1 : decode cM_isGoal 1 = .ok (.iconst 0, 1) := by decide +kernel
theorem dM_isGoal_2 : decode cM_isGoal 2 = .ok (.bipush 7, 2) := by decide +kernel
theorem dM_isGoal_4 : decode cM_isGoal 4 = .ok (.invokestatic 63, 3) := by decide +kernel
theorem dM_isGoal_7 : decode cM_isGoal 7 = .ok (.ireturn, 1) := by decide +kernel
abbrev cM_add : ByteArray := prog_5_method_9_code
abbrev yM_add : MethodName := ⟨"CoverTreesModel", "add", "(IIIII)I"⟩
abbrev kM_add : Cond := .code yM_add cM_add 6 (some .int)
abbrev wsM_add : List Cond := kM_add :: wB
theorem dM_add_0 : decode cM_add 0 = .ok (.aload_n 0, 1) := by decide +kernel
theorem dM_add_1 : decode cM_add 1 = .ok (.getfield 13, 3) := by decide +kernel
theorem dM_add_4 : decode cM_add 4 = .ok (.aload_n 0, 1) := by decide +kernel
theorem dM_add_5 : decode cM_add 5 = .ok (.getfield 57, 3) := by decide +kernel
theorem dM_add_8 : decode cM_add 8 = .ok (.iload_n 1, 1) := by decide +kernel
theorem dM_add_9 : decode cM_add 9 = .ok (.iastore, 1) := by decide +kernel
theorem dM_add_10 : decode cM_add 10 = .ok (.aload_n 0, 1) := by decide +kernel
theorem dM_add_11 : decode cM_add 11 = .ok (.getfield 19, 3) := by decide +kernel
theorem dM_add_14 : decode cM_add 14 = .ok (.aload_n 0, 1) := by decide +kernel
theorem dM_add_15 : decode cM_add 15 = .ok (.getfield 57, 3) := by decide +kernel
theorem dM_add_18 : decode cM_add 18 = .ok (.iload_n 2, 1) := by decide +kernel
theorem dM_add_19 : decode cM_add 19 = .ok (.iastore, 1) := by decide +kernel
theorem dM_add_20 : decode cM_add 20 = .ok (.aload_n 0, 1) := by decide +kernel
theorem dM_add_21 : decode cM_add 21 = .ok (.getfield 22, 3) := by decide +kernel
theorem dM_add_24 : decode cM_add 24 = .ok (.aload_n 0, 1) := by decide +kernel
theorem dM_add_25 : decode cM_add 25 = .ok (.getfield 57, 3) := by decide +kernel
theorem dM_add_28 : decode cM_add 28 = .ok (.iload_n 3, 1) := by decide +kernel
theorem dM_add_29 : decode cM_add 29 = .ok (.iastore, 1) := by decide +kernel
theorem dM_add_30 : decode cM_add 30 = .ok (.aload_n 0, 1) := by decide +kernel
theorem dM_add_31 : decode cM_add 31 = .ok (.getfield 25, 3) := by decide +kernel
theorem dM_add_34 : decode cM_add 34 = .ok (.aload_n 0, 1) := by decide +kernel
theorem dM_add_35 : decode cM_add 35 = .ok (.getfield 57, 3) := by decide +kernel
theorem dM_add_38 : decode cM_add 38 = .ok (.iload 4, 2) := by decide +kernel
theorem dM_add_40 : decode cM_add 40 = .ok (.iastore, 1) := by decide +kernel
theorem dM_add_41 : decode cM_add 41 = .ok (.aload_n 0, 1) := by decide +kernel
theorem dM_add_42 : decode cM_add 42 = .ok (.getfield 16, 3) := by decide +kernel
theorem dM_add_45 : decode cM_add 45 = .ok (.aload_n 0, 1) := by decide +kernel
theorem dM_add_46 : decode cM_add 46 = .ok (.getfield 57, 3) := by decide +kernel
theorem dM_add_49 : decode cM_add 49 = .ok (.iload 5, 2) := by decide +kernel
theorem dM_add_51 : decode cM_add 51 = .ok (.iastore, 1) := by decide +kernel
theorem dM_add_52 : decode cM_add 52 = .ok (.aload_n 0, 1) := by decide +kernel
theorem dM_add_53 : decode cM_add 53 = .ok (.dup, 1) := by decide +kernel
theorem dM_add_54 : decode cM_add 54 = .ok (.getfield 57, 3) := by decide +kernel
theorem dM_add_57 : decode cM_add 57 = .ok (.iconst 1, 1) := by decide +kernel
theorem dM_add_58 : decode cM_add 58 = .ok (.iadd, 1) := by decide +kernel
theorem dM_add_59 : decode cM_add 59 = .ok (.putfield 57, 3) := by decide +kernel
theorem dM_add_62 : decode cM_add 62 = .ok (.aload_n 0, 1) := by decide +kernel
theorem dM_add_63 : decode cM_add 63 = .ok (.iconst 0, 1) := by decide +kernel
theorem dM_add_64 : decode cM_add 64 = .ok (.putfield 60, 3) := by decide +kernel
theorem dM_add_67 : decode cM_add 67 = .ok (.aload_n 0, 1) := by decide +kernel
theorem dM_add_68 : decode cM_add 68 = .ok (.getfield 57, 3) := by decide +kernel
theorem dM_add_71 : decode cM_add 71 = .ok (.iconst 1, 1) := by decide +kernel
theorem dM_add_72 : decode cM_add 72 = .ok (.isub, 1) := by decide +kernel
theorem dM_add_73 : decode cM_add 73 = .ok (.ireturn, 1) := by decide +kernel
abbrev cM_base : ByteArray := prog_5_method_10_code
abbrev yM_base : MethodName := ⟨"CoverTreesModel", "base", "(IIIII)I"⟩
abbrev kM_base : Cond := .code yM_base cM_base 9 (some .int)
abbrev wsM_base : List Cond := kM_base :: wB
theorem dM_base_0 : decode cM_base 0 = .ok (.iload_n 1, 1) := by decide +kernel
theorem dM_base_1 : decode cM_base 1 = .ok (.invokestatic 71, 3) := by decide +kernel
theorem dM_base_4 : decode cM_base 4 = .ok (.ifCond .eq 32, 3) := by decide +kernel
theorem dM_base_7 : decode cM_base 7 = .ok (.iload_n 2, 1) := by decide +kernel
theorem dM_base_8 : decode cM_base 8 = .ok (.iconst 0, 1) := by decide +kernel
theorem dM_base_9 : decode cM_base 9 = .ok (.aload_n 0, 1) := by decide +kernel
theorem dM_base_10 : decode cM_base 10 = .ok (.getfield 54, 3) := by decide +kernel
theorem dM_base_13 : decode cM_base 13 = .ok (.iconst 1, 1) := by decide +kernel
theorem dM_base_14 : decode cM_base 14 = .ok (.isub, 1) := by decide +kernel
theorem dM_base_15 : decode cM_base 15 = .ok (.invokestatic 63, 3) := by decide +kernel
theorem dM_base_18 : decode cM_base 18 = .ok (.ifCond .eq 18, 3) := by decide +kernel
theorem dM_base_21 : decode cM_base 21 = .ok (.iload 5, 2) := by decide +kernel
theorem dM_base_23 : decode cM_base 23 = .ok (.iconst 0, 1) := by decide +kernel
theorem dM_base_24 : decode cM_base 24 = .ok (.bipush 20, 2) := by decide +kernel
theorem dM_base_26 : decode cM_base 26 = .ok (.invokestatic 63, 3) := by decide +kernel
theorem dM_base_29 : decode cM_base 29 = .ok (.ifCond .eq 7, 3) := by decide +kernel
theorem dM_base_32 : decode cM_base 32 = .ok (.iconst 1, 1) := by decide +kernel
theorem dM_base_33 : decode cM_base 33 = .ok (.goto 4, 3) := by decide +kernel
theorem dM_base_36 : decode cM_base 36 = .ok (.iconst 0, 1) := by decide +kernel
theorem dM_base_37 : decode cM_base 37 = .ok (.istore 6, 2) := by decide +kernel
theorem dM_base_39 : decode cM_base 39 = .ok (.iload 6, 2) := by decide +kernel
theorem dM_base_41 : decode cM_base 41 = .ok (.ifCond .eq 12, 3) := by decide +kernel
theorem dM_base_44 : decode cM_base 44 = .ok (.aload_n 0, 1) := by decide +kernel
theorem dM_base_45 : decode cM_base 45 = .ok (.getfield 7, 3) := by decide +kernel
theorem dM_base_48 : decode cM_base 48 = .ok (.iload_n 2, 1) := by decide +kernel
theorem dM_base_49 : decode cM_base 49 = .ok (.iaload, 1) := by decide +kernel
theorem dM_base_50 : decode cM_base 50 = .ok (.goto 4, 3) := by decide +kernel
theorem dM_base_53 : decode cM_base 53 = .ok (.iconst 0, 1) := by decide +kernel
theorem dM_base_54 : decode cM_base 54 = .ok (.istore 7, 2) := by decide +kernel
theorem dM_base_56 : decode cM_base 56 = .ok (.iload 6, 2) := by decide +kernel
theorem dM_base_58 : decode cM_base 58 = .ok (.ifCond .eq 34, 3) := by decide +kernel
theorem dM_base_61 : decode cM_base 61 = .ok (.iload 7, 2) := by decide +kernel
theorem dM_base_63 : decode cM_base 63 = .ok (.iconst 1, 1) := by decide +kernel
theorem dM_base_64 : decode cM_base 64 = .ok (.if_icmp .lt 10, 3) := by decide +kernel
theorem dM_base_67 : decode cM_base 67 = .ok (.iload_n 3, 1) := by decide +kernel
theorem dM_base_68 : decode cM_base 68 = .ok (.invokestatic 71, 3) := by decide +kernel
theorem dM_base_71 : decode cM_base 71 = .ok (.ifCond .eq 21, 3) := by decide +kernel
theorem dM_base_74 : decode cM_base 74 = .ok (.iload 7, 2) := by decide +kernel
theorem dM_base_76 : decode cM_base 76 = .ok (.iconst 2, 1) := by decide +kernel
theorem dM_base_77 : decode cM_base 77 = .ok (.if_icmp .lt 11, 3) := by decide +kernel
theorem dM_base_80 : decode cM_base 80 = .ok (.iload 4, 2) := by decide +kernel
theorem dM_base_82 : decode cM_base 82 = .ok (.invokestatic 71, 3) := by decide +kernel
theorem dM_base_85 : decode cM_base 85 = .ok (.ifCond .eq 7, 3) := by decide +kernel
theorem dM_base_88 : decode cM_base 88 = .ok (.iconst 1, 1) := by decide +kernel
theorem dM_base_89 : decode cM_base 89 = .ok (.goto 4, 3) := by decide +kernel
theorem dM_base_92 : decode cM_base 92 = .ok (.iconst 0, 1) := by decide +kernel
theorem dM_base_93 : decode cM_base 93 = .ok (.istore 8, 2) := by decide +kernel
theorem dM_base_95 : decode cM_base 95 = .ok (.aload_n 0, 1) := by decide +kernel
theorem dM_base_96 : decode cM_base 96 = .ok (.iload 8, 2) := by decide +kernel
theorem dM_base_98 : decode cM_base 98 = .ok (.ifCond .ne 7, 3) := by decide +kernel
theorem dM_base_101 : decode cM_base 101 = .ok (.iconst 1, 1) := by decide +kernel
theorem dM_base_102 : decode cM_base 102 = .ok (.goto 4, 3) := by decide +kernel
theorem dM_base_105 : decode cM_base 105 = .ok (.iconst 0, 1) := by decide +kernel
theorem dM_base_106 : decode cM_base 106 = .ok (.aload_n 0, 1) := by decide +kernel
theorem dM_base_107 : decode cM_base 107 = .ok (.getfield 57, 3) := by decide +kernel
theorem dM_base_110 : decode cM_base 110 = .ok (.bipush 40, 2) := by decide +kernel
theorem dM_base_112 : decode cM_base 112 = .ok (.if_icmp .ne 7, 3) := by decide +kernel
theorem dM_base_115 : decode cM_base 115 = .ok (.iconst 1, 1) := by decide +kernel
theorem dM_base_116 : decode cM_base 116 = .ok (.goto 4, 3) := by decide +kernel
theorem dM_base_119 : decode cM_base 119 = .ok (.iconst 0, 1) := by decide +kernel
theorem dM_base_120 : decode cM_base 120 = .ok (.iconst 0, 1) := by decide +kernel
theorem dM_base_121 : decode cM_base 121 = .ok (.invokevirtual 67, 3) := by decide +kernel
theorem dM_base_124 : decode cM_base 124 = .ok (.ifCond .eq 5, 3) := by decide +kernel
theorem dM_base_127 : decode cM_base 127 = .ok (.iconst 0, 1) := by decide +kernel
theorem dM_base_128 : decode cM_base 128 = .ok (.ireturn, 1) := by decide +kernel
theorem dM_base_129 : decode cM_base 129 = .ok (.aload_n 0, 1) := by decide +kernel
theorem dM_base_130 : decode cM_base 130 = .ok (.iload_n 1, 1) := by decide +kernel
theorem dM_base_131 : decode cM_base 131 = .ok (.iload_n 2, 1) := by decide +kernel
theorem dM_base_132 : decode cM_base 132 = .ok (.iload_n 3, 1) := by decide +kernel
theorem dM_base_133 : decode cM_base 133 = .ok (.iload 4, 2) := by decide +kernel
theorem dM_base_135 : decode cM_base 135 = .ok (.iload 5, 2) := by decide +kernel
theorem dM_base_137 : decode cM_base 137 = .ok (.invokevirtual 75, 3) := by decide +kernel
theorem dM_base_140 : decode cM_base 140 = .ok (.ireturn, 1) := by decide +kernel
abbrev cM_chain : ByteArray := prog_5_method_11_code
abbrev yM_chain : MethodName := ⟨"CoverTreesModel", "chain", "(III)I"⟩
abbrev kM_chain : Cond := .code yM_chain cM_chain 5 (some .int)
abbrev wsM_chain : List Cond := kM_chain :: wB
theorem dM_chain_0 : decode cM_chain 0 = .ok (.iload_n 1, 1) := by decide +kernel
theorem dM_chain_1 : decode cM_chain 1 = .ok (.invokestatic 71, 3) := by decide +kernel
theorem dM_chain_4 : decode cM_chain 4 = .ok (.ifCond .eq 29, 3) := by decide +kernel
theorem dM_chain_7 : decode cM_chain 7 = .ok (.iload_n 2, 1) := by decide +kernel
theorem dM_chain_8 : decode cM_chain 8 = .ok (.invokestatic 71, 3) := by decide +kernel
theorem dM_chain_11 : decode cM_chain 11 = .ok (.ifCond .eq 22, 3) := by decide +kernel
theorem dM_chain_14 : decode cM_chain 14 = .ok (.iload_n 1, 1) := by decide +kernel
theorem dM_chain_15 : decode cM_chain 15 = .ok (.iload_n 2, 1) := by decide +kernel
theorem dM_chain_16 : decode cM_chain 16 = .ok (.if_icmp .eq 17, 3) := by decide +kernel
theorem dM_chain_19 : decode cM_chain 19 = .ok (.iload_n 3, 1) := by decide +kernel
theorem dM_chain_20 : decode cM_chain 20 = .ok (.iconst 0, 1) := by decide +kernel
theorem dM_chain_21 : decode cM_chain 21 = .ok (.bipush 20, 2) := by decide +kernel
theorem dM_chain_23 : decode cM_chain 23 = .ok (.invokestatic 63, 3) := by decide +kernel
theorem dM_chain_26 : decode cM_chain 26 = .ok (.ifCond .eq 7, 3) := by decide +kernel
theorem dM_chain_29 : decode cM_chain 29 = .ok (.iconst 1, 1) := by decide +kernel
theorem dM_chain_30 : decode cM_chain 30 = .ok (.goto 4, 3) := by decide +kernel
theorem dM_chain_33 : decode cM_chain 33 = .ok (.iconst 0, 1) := by decide +kernel
theorem dM_chain_34 : decode cM_chain 34 = .ok (.istore 4, 2) := by decide +kernel
theorem dM_chain_36 : decode cM_chain 36 = .ok (.aload_n 0, 1) := by decide +kernel
theorem dM_chain_37 : decode cM_chain 37 = .ok (.iload 4, 2) := by decide +kernel
theorem dM_chain_39 : decode cM_chain 39 = .ok (.ifCond .ne 7, 3) := by decide +kernel
theorem dM_chain_42 : decode cM_chain 42 = .ok (.iconst 1, 1) := by decide +kernel
theorem dM_chain_43 : decode cM_chain 43 = .ok (.goto 4, 3) := by decide +kernel
theorem dM_chain_46 : decode cM_chain 46 = .ok (.iconst 0, 1) := by decide +kernel
theorem dM_chain_47 : decode cM_chain 47 = .ok (.aload_n 0, 1) := by decide +kernel
theorem dM_chain_48 : decode cM_chain 48 = .ok (.getfield 57, 3) := by decide +kernel
theorem dM_chain_51 : decode cM_chain 51 = .ok (.bipush 40, 2) := by decide +kernel
theorem dM_chain_53 : decode cM_chain 53 = .ok (.if_icmp .ne 7, 3) := by decide +kernel
theorem dM_chain_56 : decode cM_chain 56 = .ok (.iconst 1, 1) := by decide +kernel
theorem dM_chain_57 : decode cM_chain 57 = .ok (.goto 4, 3) := by decide +kernel
theorem dM_chain_60 : decode cM_chain 60 = .ok (.iconst 0, 1) := by decide +kernel
theorem dM_chain_61 : decode cM_chain 61 = .ok (.iconst 0, 1) := by decide +kernel
theorem dM_chain_62 : decode cM_chain 62 = .ok (.invokevirtual 67, 3) := by decide +kernel
theorem dM_chain_65 : decode cM_chain 65 = .ok (.ifCond .eq 5, 3) := by decide +kernel
theorem dM_chain_68 : decode cM_chain 68 = .ok (.iconst 0, 1) := by decide +kernel
theorem dM_chain_69 : decode cM_chain 69 = .ok (.ireturn, 1) := by decide +kernel
theorem dM_chain_70 : decode cM_chain 70 = .ok (.aload_n 0, 1) := by decide +kernel
theorem dM_chain_71 : decode cM_chain 71 = .ok (.iload_n 1, 1) := by decide +kernel
theorem dM_chain_72 : decode cM_chain 72 = .ok (.iconst (-1), 1) := by decide +kernel
theorem dM_chain_73 : decode cM_chain 73 = .ok (.iload_n 2, 1) := by decide +kernel
theorem dM_chain_74 : decode cM_chain 74 = .ok (.iconst 0, 1) := by decide +kernel
theorem dM_chain_75 : decode cM_chain 75 = .ok (.iload_n 3, 1) := by decide +kernel
theorem dM_chain_76 : decode cM_chain 76 = .ok (.invokevirtual 75, 3) := by decide +kernel
theorem dM_chain_79 : decode cM_chain 79 = .ok (.ireturn, 1) := by decide +kernel
abbrev cM_isNode : ByteArray := prog_5_method_12_code
abbrev yM_isNode : MethodName := ⟨"CoverTreesModel", "isNode", "(I)Z"⟩
abbrev kM_isNode : Cond := .code yM_isNode cM_isNode 2 (some .boolean)
abbrev wsM_isNode : List Cond := kM_isNode :: wB
theorem dM_isNode_0 : decode cM_isNode 0 = .ok (.iload_n 1, 1) := by decide +kernel
theorem dM_isNode_1 : decode cM_isNode 1 = .ok (.iconst 0, 1) := by decide +kernel
theorem dM_isNode_2 : decode cM_isNode 2 = .ok (.aload_n 0, 1) := by decide +kernel
theorem dM_isNode_3 : decode cM_isNode 3 = .ok (.getfield 60, 3) := by decide +kernel
theorem dM_isNode_6 : decode cM_isNode 6 = .ok (.iconst 1, 1) := by decide +kernel
theorem dM_isNode_7 : decode cM_isNode 7 = .ok (.isub, 1) := by decide +kernel
theorem dM_isNode_8 : decode cM_isNode 8 = .ok (.invokestatic 63, 3) := by decide +kernel
theorem dM_isNode_11 : decode cM_isNode 11 = .ok (.ireturn, 1) := by decide +kernel
abbrev cM_costBy : ByteArray := prog_5_method_13_code
abbrev yM_costBy : MethodName := ⟨"CoverTreesModel", "costBy", "(II)I"⟩
abbrev kM_costBy : Cond := .code yM_costBy cM_costBy 5 (some .int)
abbrev wsM_costBy : List Cond := kM_costBy :: wB
theorem dM_costBy_0 : decode cM_costBy 0 = .ok (.aload_n 0, 1) := by decide +kernel
theorem dM_costBy_1 : decode cM_costBy 1 = .ok (.getfield 19, 3) := by decide +kernel
theorem dM_costBy_4 : decode cM_costBy 4 = .ok (.iload_n 2, 1) := by decide +kernel
theorem dM_costBy_5 : decode cM_costBy 5 = .ok (.iaload, 1) := by decide +kernel
theorem dM_costBy_6 : decode cM_costBy 6 = .ok (.ifCond .ge 37, 3) := by decide +kernel
theorem dM_costBy_9 : decode cM_costBy 9 = .ok (.aload_n 0, 1) := by decide +kernel
theorem dM_costBy_10 : decode cM_costBy 10 = .ok (.getfield 37, 3) := by decide +kernel
theorem dM_costBy_13 : decode cM_costBy 13 = .ok (.bipush 8, 2) := by decide +kernel
theorem dM_costBy_15 : decode cM_costBy 15 = .ok (.iload_n 1, 1) := by decide +kernel
theorem dM_costBy_16 : decode cM_costBy 16 = .ok (.imul, 1) := by decide +kernel
theorem dM_costBy_17 : decode cM_costBy 17 = .ok (.aload_n 0, 1) := by decide +kernel
theorem dM_costBy_18 : decode cM_costBy 18 = .ok (.getfield 22, 3) := by decide +kernel
theorem dM_costBy_21 : decode cM_costBy 21 = .ok (.iload_n 2, 1) := by decide +kernel
theorem dM_costBy_22 : decode cM_costBy 22 = .ok (.iaload, 1) := by decide +kernel
theorem dM_costBy_23 : decode cM_costBy 23 = .ok (.iadd, 1) := by decide +kernel
theorem dM_costBy_24 : decode cM_costBy 24 = .ok (.iaload, 1) := by decide +kernel
theorem dM_costBy_25 : decode cM_costBy 25 = .ok (.istore_n 3, 1) := by decide +kernel
theorem dM_costBy_26 : decode cM_costBy 26 = .ok (.iload_n 3, 1) := by decide +kernel
theorem dM_costBy_27 : decode cM_costBy 27 = .ok (.ifCond .ge 7, 3) := by decide +kernel
theorem dM_costBy_30 : decode cM_costBy 30 = .ok (.iconst (-1), 1) := by decide +kernel
theorem dM_costBy_31 : decode cM_costBy 31 = .ok (.goto 11, 3) := by decide +kernel
theorem dM_costBy_34 : decode cM_costBy 34 = .ok (.iload_n 3, 1) := by decide +kernel
theorem dM_costBy_35 : decode cM_costBy 35 = .ok (.aload_n 0, 1) := by decide +kernel
theorem dM_costBy_36 : decode cM_costBy 36 = .ok (.getfield 16, 3) := by decide +kernel
theorem dM_costBy_39 : decode cM_costBy 39 = .ok (.iload_n 2, 1) := by decide +kernel
theorem dM_costBy_40 : decode cM_costBy 40 = .ok (.iaload, 1) := by decide +kernel
theorem dM_costBy_41 : decode cM_costBy 41 = .ok (.iadd, 1) := by decide +kernel
theorem dM_costBy_42 : decode cM_costBy 42 = .ok (.ireturn, 1) := by decide +kernel
theorem dM_costBy_43 : decode cM_costBy 43 = .ok (.aload_n 0, 1) := by decide +kernel
theorem dM_costBy_44 : decode cM_costBy 44 = .ok (.getfield 19, 3) := by decide +kernel
theorem dM_costBy_47 : decode cM_costBy 47 = .ok (.iload_n 2, 1) := by decide +kernel
theorem dM_costBy_48 : decode cM_costBy 48 = .ok (.iaload, 1) := by decide +kernel
theorem dM_costBy_49 : decode cM_costBy 49 = .ok (.aload_n 0, 1) := by decide +kernel
theorem dM_costBy_50 : decode cM_costBy 50 = .ok (.getfield 28, 3) := by decide +kernel
theorem dM_costBy_53 : decode cM_costBy 53 = .ok (.iload_n 1, 1) := by decide +kernel
theorem dM_costBy_54 : decode cM_costBy 54 = .ok (.iaload, 1) := by decide +kernel
theorem dM_costBy_55 : decode cM_costBy 55 = .ok (.if_icmp .eq 5, 3) := by decide +kernel
theorem dM_costBy_58 : decode cM_costBy 58 = .ok (.iconst (-1), 1) := by decide +kernel
theorem dM_costBy_59 : decode cM_costBy 59 = .ok (.ireturn, 1) := by decide +kernel
theorem dM_costBy_60 : decode cM_costBy 60 = .ok (.aload_n 0, 1) := by decide +kernel
theorem dM_costBy_61 : decode cM_costBy 61 = .ok (.getfield 16, 3) := by decide +kernel
theorem dM_costBy_64 : decode cM_costBy 64 = .ok (.iload_n 2, 1) := by decide +kernel
theorem dM_costBy_65 : decode cM_costBy 65 = .ok (.iaload, 1) := by decide +kernel
theorem dM_costBy_66 : decode cM_costBy 66 = .ok (.istore_n 3, 1) := by decide +kernel
theorem dM_costBy_67 : decode cM_costBy 67 = .ok (.aload_n 0, 1) := by decide +kernel
theorem dM_costBy_68 : decode cM_costBy 68 = .ok (.getfield 7, 3) := by decide +kernel
theorem dM_costBy_71 : decode cM_costBy 71 = .ok (.aload_n 0, 1) := by decide +kernel
theorem dM_costBy_72 : decode cM_costBy 72 = .ok (.getfield 19, 3) := by decide +kernel
theorem dM_costBy_75 : decode cM_costBy 75 = .ok (.iload_n 2, 1) := by decide +kernel
theorem dM_costBy_76 : decode cM_costBy 76 = .ok (.iaload, 1) := by decide +kernel
theorem dM_costBy_77 : decode cM_costBy 77 = .ok (.iaload, 1) := by decide +kernel
theorem dM_costBy_78 : decode cM_costBy 78 = .ok (.ifCond .le 40, 3) := by decide +kernel
theorem dM_costBy_81 : decode cM_costBy 81 = .ok (.aload_n 0, 1) := by decide +kernel
theorem dM_costBy_82 : decode cM_costBy 82 = .ok (.getfield 37, 3) := by decide +kernel
theorem dM_costBy_85 : decode cM_costBy 85 = .ok (.bipush 8, 2) := by decide +kernel
theorem dM_costBy_87 : decode cM_costBy 87 = .ok (.aload_n 0, 1) := by decide +kernel
theorem dM_costBy_88 : decode cM_costBy 88 = .ok (.getfield 31, 3) := by decide +kernel
theorem dM_costBy_91 : decode cM_costBy 91 = .ok (.iload_n 1, 1) := by decide +kernel
theorem dM_costBy_92 : decode cM_costBy 92 = .ok (.iaload, 1) := by decide +kernel
theorem dM_costBy_93 : decode cM_costBy 93 = .ok (.imul, 1) := by decide +kernel
theorem dM_costBy_94 : decode cM_costBy 94 = .ok (.aload_n 0, 1) := by decide +kernel
theorem dM_costBy_95 : decode cM_costBy 95 = .ok (.getfield 22, 3) := by decide +kernel
theorem dM_costBy_98 : decode cM_costBy 98 = .ok (.iload_n 2, 1) := by decide +kernel
theorem dM_costBy_99 : decode cM_costBy 99 = .ok (.iaload, 1) := by decide +kernel
theorem dM_costBy_100 : decode cM_costBy 100 = .ok (.iadd, 1) := by decide +kernel
theorem dM_costBy_101 : decode cM_costBy 101 = .ok (.iaload, 1) := by decide +kernel
theorem dM_costBy_102 : decode cM_costBy 102 = .ok (.istore 4, 2) := by decide +kernel
theorem dM_costBy_104 : decode cM_costBy 104 = .ok (.iload 4, 2) := by decide +kernel
theorem dM_costBy_106 : decode cM_costBy 106 = .ok (.ifCond .ge 7, 3) := by decide +kernel
theorem dM_costBy_109 : decode cM_costBy 109 = .ok (.iconst (-1), 1) := by decide +kernel
theorem dM_costBy_110 : decode cM_costBy 110 = .ok (.goto 7, 3) := by decide +kernel
theorem dM_costBy_113 : decode cM_costBy 113 = .ok (.iload_n 3, 1) := by decide +kernel
theorem dM_costBy_114 : decode cM_costBy 114 = .ok (.iload 4, 2) := by decide +kernel
theorem dM_costBy_116 : decode cM_costBy 116 = .ok (.iadd, 1) := by decide +kernel
theorem dM_costBy_117 : decode cM_costBy 117 = .ok (.istore_n 3, 1) := by decide +kernel
theorem dM_costBy_118 : decode cM_costBy 118 = .ok (.aload_n 0, 1) := by decide +kernel
theorem dM_costBy_119 : decode cM_costBy 119 = .ok (.getfield 7, 3) := by decide +kernel
theorem dM_costBy_122 : decode cM_costBy 122 = .ok (.aload_n 0, 1) := by decide +kernel
theorem dM_costBy_123 : decode cM_costBy 123 = .ok (.getfield 19, 3) := by decide +kernel
theorem dM_costBy_126 : decode cM_costBy 126 = .ok (.iload_n 2, 1) := by decide +kernel
theorem dM_costBy_127 : decode cM_costBy 127 = .ok (.iaload, 1) := by decide +kernel
theorem dM_costBy_128 : decode cM_costBy 128 = .ok (.iaload, 1) := by decide +kernel
theorem dM_costBy_129 : decode cM_costBy 129 = .ok (.iconst 1, 1) := by decide +kernel
theorem dM_costBy_130 : decode cM_costBy 130 = .ok (.if_icmp .le 44, 3) := by decide +kernel
theorem dM_costBy_133 : decode cM_costBy 133 = .ok (.iload_n 3, 1) := by decide +kernel
theorem dM_costBy_134 : decode cM_costBy 134 = .ok (.ifCond .lt 40, 3) := by decide +kernel
theorem dM_costBy_137 : decode cM_costBy 137 = .ok (.aload_n 0, 1) := by decide +kernel
theorem dM_costBy_138 : decode cM_costBy 138 = .ok (.getfield 37, 3) := by decide +kernel
theorem dM_costBy_141 : decode cM_costBy 141 = .ok (.bipush 8, 2) := by decide +kernel
theorem dM_costBy_143 : decode cM_costBy 143 = .ok (.aload_n 0, 1) := by decide +kernel
theorem dM_costBy_144 : decode cM_costBy 144 = .ok (.getfield 34, 3) := by decide +kernel
theorem dM_costBy_147 : decode cM_costBy 147 = .ok (.iload_n 1, 1) := by decide +kernel
theorem dM_costBy_148 : decode cM_costBy 148 = .ok (.iaload, 1) := by decide +kernel
theorem dM_costBy_149 : decode cM_costBy 149 = .ok (.imul, 1) := by decide +kernel
theorem dM_costBy_150 : decode cM_costBy 150 = .ok (.aload_n 0, 1) := by decide +kernel
theorem dM_costBy_151 : decode cM_costBy 151 = .ok (.getfield 25, 3) := by decide +kernel
theorem dM_costBy_154 : decode cM_costBy 154 = .ok (.iload_n 2, 1) := by decide +kernel
theorem dM_costBy_155 : decode cM_costBy 155 = .ok (.iaload, 1) := by decide +kernel
theorem dM_costBy_156 : decode cM_costBy 156 = .ok (.iadd, 1) := by decide +kernel
theorem dM_costBy_157 : decode cM_costBy 157 = .ok (.iaload, 1) := by decide +kernel
theorem dM_costBy_158 : decode cM_costBy 158 = .ok (.istore 4, 2) := by decide +kernel
theorem dM_costBy_160 : decode cM_costBy 160 = .ok (.iload 4, 2) := by decide +kernel
theorem dM_costBy_162 : decode cM_costBy 162 = .ok (.ifCond .ge 7, 3) := by decide +kernel
theorem dM_costBy_165 : decode cM_costBy 165 = .ok (.iconst (-1), 1) := by decide +kernel
theorem dM_costBy_166 : decode cM_costBy 166 = .ok (.goto 7, 3) := by decide +kernel
theorem dM_costBy_169 : decode cM_costBy 169 = .ok (.iload_n 3, 1) := by decide +kernel
theorem dM_costBy_170 : decode cM_costBy 170 = .ok (.iload 4, 2) := by decide +kernel
theorem dM_costBy_172 : decode cM_costBy 172 = .ok (.iadd, 1) := by decide +kernel
theorem dM_costBy_173 : decode cM_costBy 173 = .ok (.istore_n 3, 1) := by decide +kernel
theorem dM_costBy_174 : decode cM_costBy 174 = .ok (.iload_n 3, 1) := by decide +kernel
theorem dM_costBy_175 : decode cM_costBy 175 = .ok (.ireturn, 1) := by decide +kernel
abbrev cM_price : ByteArray := prog_5_method_14_code
abbrev yM_price : MethodName := ⟨"CoverTreesModel", "price", "(I)V"⟩
abbrev kM_price : Cond := .code yM_price cM_price 6 none
abbrev wsM_price : List Cond := kM_price :: wB
theorem dM_price_0 : decode cM_price 0 = .ok (.iconst 0, 1) := by decide +kernel
theorem dM_price_1 : decode cM_price 1 = .ok (.istore_n 2, 1) := by decide +kernel
theorem dM_price_2 : decode cM_price 2 = .ok (.iload_n 2, 1) := by decide +kernel
theorem dM_price_3 : decode cM_price 3 = .ok (.bipush 8, 2) := by decide +kernel
theorem dM_price_5 : decode cM_price 5 = .ok (.if_icmp .ge 45, 3) := by decide +kernel
theorem dM_price_8 : decode cM_price 8 = .ok (.aload_n 0, 1) := by decide +kernel
theorem dM_price_9 : decode cM_price 9 = .ok (.getfield 37, 3) := by decide +kernel
theorem dM_price_12 : decode cM_price 12 = .ok (.bipush 8, 2) := by decide +kernel
theorem dM_price_14 : decode cM_price 14 = .ok (.iload_n 1, 1) := by decide +kernel
theorem dM_price_15 : decode cM_price 15 = .ok (.imul, 1) := by decide +kernel
theorem dM_price_16 : decode cM_price 16 = .ok (.iload_n 2, 1) := by decide +kernel
theorem dM_price_17 : decode cM_price 17 = .ok (.iadd, 1) := by decide +kernel
theorem dM_price_18 : decode cM_price 18 = .ok (.iconst (-1), 1) := by decide +kernel
theorem dM_price_19 : decode cM_price 19 = .ok (.iastore, 1) := by decide +kernel
theorem dM_price_20 : decode cM_price 20 = .ok (.aload_n 0, 1) := by decide +kernel
theorem dM_price_21 : decode cM_price 21 = .ok (.getfield 40, 3) := by decide +kernel
theorem dM_price_24 : decode cM_price 24 = .ok (.bipush 8, 2) := by decide +kernel
theorem dM_price_26 : decode cM_price 26 = .ok (.iload_n 1, 1) := by decide +kernel
theorem dM_price_27 : decode cM_price 27 = .ok (.imul, 1) := by decide +kernel
theorem dM_price_28 : decode cM_price 28 = .ok (.iload_n 2, 1) := by decide +kernel
theorem dM_price_29 : decode cM_price 29 = .ok (.iadd, 1) := by decide +kernel
theorem dM_price_30 : decode cM_price 30 = .ok (.iconst (-1), 1) := by decide +kernel
theorem dM_price_31 : decode cM_price 31 = .ok (.iastore, 1) := by decide +kernel
theorem dM_price_32 : decode cM_price 32 = .ok (.aload_n 0, 1) := by decide +kernel
theorem dM_price_33 : decode cM_price 33 = .ok (.getfield 43, 3) := by decide +kernel
theorem dM_price_36 : decode cM_price 36 = .ok (.bipush 8, 2) := by decide +kernel
theorem dM_price_38 : decode cM_price 38 = .ok (.iload_n 1, 1) := by decide +kernel
theorem dM_price_39 : decode cM_price 39 = .ok (.imul, 1) := by decide +kernel
theorem dM_price_40 : decode cM_price 40 = .ok (.iload_n 2, 1) := by decide +kernel
theorem dM_price_41 : decode cM_price 41 = .ok (.iadd, 1) := by decide +kernel
theorem dM_price_42 : decode cM_price 42 = .ok (.iconst (-1), 1) := by decide +kernel
theorem dM_price_43 : decode cM_price 43 = .ok (.iastore, 1) := by decide +kernel
theorem dM_price_44 : decode cM_price 44 = .ok (.iinc 2 1, 3) := by decide +kernel
theorem dM_price_47 : decode cM_price 47 = .ok (.goto (-45), 3) := by decide +kernel
theorem dM_price_50 : decode cM_price 50 = .ok (.iconst 1, 1) := by decide +kernel
theorem dM_price_51 : decode cM_price 51 = .ok (.istore_n 2, 1) := by decide +kernel
theorem dM_price_52 : decode cM_price 52 = .ok (.iload_n 2, 1) := by decide +kernel
theorem dM_price_53 : decode cM_price 53 = .ok (.ifCond .eq 83, 3) := by decide +kernel
theorem dM_price_56 : decode cM_price 56 = .ok (.iconst 0, 1) := by decide +kernel
theorem dM_price_57 : decode cM_price 57 = .ok (.istore_n 2, 1) := by decide +kernel
theorem dM_price_58 : decode cM_price 58 = .ok (.iconst 0, 1) := by decide +kernel
theorem dM_price_59 : decode cM_price 59 = .ok (.istore_n 3, 1) := by decide +kernel
theorem dM_price_60 : decode cM_price 60 = .ok (.iload_n 3, 1) := by decide +kernel
theorem dM_price_61 : decode cM_price 61 = .ok (.aload_n 0, 1) := by decide +kernel
theorem dM_price_62 : decode cM_price 62 = .ok (.getfield 57, 3) := by decide +kernel
theorem dM_price_65 : decode cM_price 65 = .ok (.if_icmp .ge 68, 3) := by decide +kernel
theorem dM_price_68 : decode cM_price 68 = .ok (.bipush 8, 2) := by decide +kernel
theorem dM_price_70 : decode cM_price 70 = .ok (.iload_n 1, 1) := by decide +kernel
theorem dM_price_71 : decode cM_price 71 = .ok (.imul, 1) := by decide +kernel
theorem dM_price_72 : decode cM_price 72 = .ok (.aload_n 0, 1) := by decide +kernel
theorem dM_price_73 : decode cM_price 73 = .ok (.getfield 13, 3) := by decide +kernel
theorem dM_price_76 : decode cM_price 76 = .ok (.iload_n 3, 1) := by decide +kernel
theorem dM_price_77 : decode cM_price 77 = .ok (.iaload, 1) := by decide +kernel
theorem dM_price_78 : decode cM_price 78 = .ok (.iadd, 1) := by decide +kernel
theorem dM_price_79 : decode cM_price 79 = .ok (.istore 4, 2) := by decide +kernel
theorem dM_price_81 : decode cM_price 81 = .ok (.aload_n 0, 1) := by decide +kernel
theorem dM_price_82 : decode cM_price 82 = .ok (.iload_n 1, 1) := by decide +kernel
theorem dM_price_83 : decode cM_price 83 = .ok (.iload_n 3, 1) := by decide +kernel
theorem dM_price_84 : decode cM_price 84 = .ok (.invokevirtual 79, 3) := by decide +kernel
theorem dM_price_87 : decode cM_price 87 = .ok (.istore 5, 2) := by decide +kernel
theorem dM_price_89 : decode cM_price 89 = .ok (.iload 5, 2) := by decide +kernel
theorem dM_price_91 : decode cM_price 91 = .ok (.ifCond .lt 36, 3) := by decide +kernel
theorem dM_price_94 : decode cM_price 94 = .ok (.aload_n 0, 1) := by decide +kernel
theorem dM_price_95 : decode cM_price 95 = .ok (.getfield 37, 3) := by decide +kernel
theorem dM_price_98 : decode cM_price 98 = .ok (.iload 4, 2) := by decide +kernel
theorem dM_price_100 : decode cM_price 100 = .ok (.iaload, 1) := by decide +kernel
theorem dM_price_101 : decode cM_price 101 = .ok (.ifCond .lt 15, 3) := by decide +kernel
theorem dM_price_104 : decode cM_price 104 = .ok (.iload 5, 2) := by decide +kernel
theorem dM_price_106 : decode cM_price 106 = .ok (.aload_n 0, 1) := by decide +kernel
theorem dM_price_107 : decode cM_price 107 = .ok (.getfield 37, 3) := by decide +kernel
theorem dM_price_110 : decode cM_price 110 = .ok (.iload 4, 2) := by decide +kernel
theorem dM_price_112 : decode cM_price 112 = .ok (.iaload, 1) := by decide +kernel
theorem dM_price_113 : decode cM_price 113 = .ok (.if_icmp .ge 14, 3) := by decide +kernel
theorem dM_price_116 : decode cM_price 116 = .ok (.aload_n 0, 1) := by decide +kernel
theorem dM_price_117 : decode cM_price 117 = .ok (.getfield 37, 3) := by decide +kernel
theorem dM_price_120 : decode cM_price 120 = .ok (.iload 4, 2) := by decide +kernel
theorem dM_price_122 : decode cM_price 122 = .ok (.iload 5, 2) := by decide +kernel
theorem dM_price_124 : decode cM_price 124 = .ok (.iastore, 1) := by decide +kernel
theorem dM_price_125 : decode cM_price 125 = .ok (.iconst 1, 1) := by decide +kernel
theorem dM_price_126 : decode cM_price 126 = .ok (.istore_n 2, 1) := by decide +kernel
theorem dM_price_127 : decode cM_price 127 = .ok (.iinc 3 1, 3) := by decide +kernel
theorem dM_price_130 : decode cM_price 130 = .ok (.goto (-70), 3) := by decide +kernel
theorem dM_price_133 : decode cM_price 133 = .ok (.goto (-81), 3) := by decide +kernel
theorem dM_price_136 : decode cM_price 136 = .ok (.return_, 1) := by decide +kernel
abbrev cM_ruleOf : ByteArray := prog_5_method_15_code
abbrev yM_ruleOf : MethodName := ⟨"CoverTreesModel", "ruleOf", "(II)I"⟩
abbrev kM_ruleOf : Cond := .code yM_ruleOf cM_ruleOf 7 (some .int)
abbrev wsM_ruleOf : List Cond := kM_ruleOf :: wB
theorem dM_ruleOf_0 : decode cM_ruleOf 0 = .ok (.iconst (-1), 1) := by decide +kernel
theorem dM_ruleOf_1 : decode cM_ruleOf 1 = .ok (.istore_n 3, 1) := by decide +kernel
theorem dM_ruleOf_2 : decode cM_ruleOf 2 = .ok (.iconst (-1), 1) := by decide +kernel
theorem dM_ruleOf_3 : decode cM_ruleOf 3 = .ok (.istore 4, 2) := by decide +kernel
theorem dM_ruleOf_5 : decode cM_ruleOf 5 = .ok (.aload_n 0, 1) := by decide +kernel
theorem dM_ruleOf_6 : decode cM_ruleOf 6 = .ok (.getfield 57, 3) := by decide +kernel
theorem dM_ruleOf_9 : decode cM_ruleOf 9 = .ok (.iconst 1, 1) := by decide +kernel
theorem dM_ruleOf_10 : decode cM_ruleOf 10 = .ok (.isub, 1) := by decide +kernel
theorem dM_ruleOf_11 : decode cM_ruleOf 11 = .ok (.istore 5, 2) := by decide +kernel
theorem dM_ruleOf_13 : decode cM_ruleOf 13 = .ok (.iload 5, 2) := by decide +kernel
theorem dM_ruleOf_15 : decode cM_ruleOf 15 = .ok (.ifCond .lt 119, 3) := by decide +kernel
theorem dM_ruleOf_18 : decode cM_ruleOf 18 = .ok (.aload_n 0, 1) := by decide +kernel
theorem dM_ruleOf_19 : decode cM_ruleOf 19 = .ok (.getfield 13, 3) := by decide +kernel
theorem dM_ruleOf_22 : decode cM_ruleOf 22 = .ok (.iload 5, 2) := by decide +kernel
theorem dM_ruleOf_24 : decode cM_ruleOf 24 = .ok (.iaload, 1) := by decide +kernel
theorem dM_ruleOf_25 : decode cM_ruleOf 25 = .ok (.iload_n 2, 1) := by decide +kernel
theorem dM_ruleOf_26 : decode cM_ruleOf 26 = .ok (.if_icmp .ne 38, 3) := by decide +kernel
theorem dM_ruleOf_29 : decode cM_ruleOf 29 = .ok (.aload_n 0, 1) := by decide +kernel
theorem dM_ruleOf_30 : decode cM_ruleOf 30 = .ok (.iload_n 1, 1) := by decide +kernel
theorem dM_ruleOf_31 : decode cM_ruleOf 31 = .ok (.iload 5, 2) := by decide +kernel
theorem dM_ruleOf_33 : decode cM_ruleOf 33 = .ok (.invokevirtual 79, 3) := by decide +kernel
theorem dM_ruleOf_36 : decode cM_ruleOf 36 = .ok (.ifCond .lt 28, 3) := by decide +kernel
theorem dM_ruleOf_39 : decode cM_ruleOf 39 = .ok (.aload_n 0, 1) := by decide +kernel
theorem dM_ruleOf_40 : decode cM_ruleOf 40 = .ok (.iload_n 1, 1) := by decide +kernel
theorem dM_ruleOf_41 : decode cM_ruleOf 41 = .ok (.iload 5, 2) := by decide +kernel
theorem dM_ruleOf_43 : decode cM_ruleOf 43 = .ok (.invokevirtual 79, 3) := by decide +kernel
theorem dM_ruleOf_46 : decode cM_ruleOf 46 = .ok (.aload_n 0, 1) := by decide +kernel
theorem dM_ruleOf_47 : decode cM_ruleOf 47 = .ok (.getfield 37, 3) := by decide +kernel
theorem dM_ruleOf_50 : decode cM_ruleOf 50 = .ok (.bipush 8, 2) := by decide +kernel
theorem dM_ruleOf_52 : decode cM_ruleOf 52 = .ok (.iload_n 1, 1) := by decide +kernel
theorem dM_ruleOf_53 : decode cM_ruleOf 53 = .ok (.imul, 1) := by decide +kernel
theorem dM_ruleOf_54 : decode cM_ruleOf 54 = .ok (.iload_n 2, 1) := by decide +kernel
theorem dM_ruleOf_55 : decode cM_ruleOf 55 = .ok (.iadd, 1) := by decide +kernel
theorem dM_ruleOf_56 : decode cM_ruleOf 56 = .ok (.iaload, 1) := by decide +kernel
theorem dM_ruleOf_57 : decode cM_ruleOf 57 = .ok (.if_icmp .ne 7, 3) := by decide +kernel
theorem dM_ruleOf_60 : decode cM_ruleOf 60 = .ok (.iconst 1, 1) := by decide +kernel
theorem dM_ruleOf_61 : decode cM_ruleOf 61 = .ok (.goto 4, 3) := by decide +kernel
theorem dM_ruleOf_64 : decode cM_ruleOf 64 = .ok (.iconst 0, 1) := by decide +kernel
theorem dM_ruleOf_65 : decode cM_ruleOf 65 = .ok (.istore 6, 2) := by decide +kernel
theorem dM_ruleOf_67 : decode cM_ruleOf 67 = .ok (.iload 6, 2) := by decide +kernel
theorem dM_ruleOf_69 : decode cM_ruleOf 69 = .ok (.ifCond .eq 18, 3) := by decide +kernel
theorem dM_ruleOf_72 : decode cM_ruleOf 72 = .ok (.aload_n 0, 1) := by decide +kernel
theorem dM_ruleOf_73 : decode cM_ruleOf 73 = .ok (.getfield 19, 3) := by decide +kernel
theorem dM_ruleOf_76 : decode cM_ruleOf 76 = .ok (.iload 5, 2) := by decide +kernel
theorem dM_ruleOf_78 : decode cM_ruleOf 78 = .ok (.iaload, 1) := by decide +kernel
theorem dM_ruleOf_79 : decode cM_ruleOf 79 = .ok (.ifCond .lt 8, 3) := by decide +kernel
theorem dM_ruleOf_82 : decode cM_ruleOf 82 = .ok (.iload 5, 2) := by decide +kernel
theorem dM_ruleOf_84 : decode cM_ruleOf 84 = .ok (.goto 4, 3) := by decide +kernel
theorem dM_ruleOf_87 : decode cM_ruleOf 87 = .ok (.iload_n 3, 1) := by decide +kernel
theorem dM_ruleOf_88 : decode cM_ruleOf 88 = .ok (.istore_n 3, 1) := by decide +kernel
theorem dM_ruleOf_89 : decode cM_ruleOf 89 = .ok (.iload 6, 2) := by decide +kernel
theorem dM_ruleOf_91 : decode cM_ruleOf 91 = .ok (.ifCond .eq 33, 3) := by decide +kernel
theorem dM_ruleOf_94 : decode cM_ruleOf 94 = .ok (.aload_n 0, 1) := by decide +kernel
theorem dM_ruleOf_95 : decode cM_ruleOf 95 = .ok (.getfield 19, 3) := by decide +kernel
theorem dM_ruleOf_98 : decode cM_ruleOf 98 = .ok (.iload 5, 2) := by decide +kernel
theorem dM_ruleOf_100 : decode cM_ruleOf 100 = .ok (.iaload, 1) := by decide +kernel
theorem dM_ruleOf_101 : decode cM_ruleOf 101 = .ok (.ifCond .ge 23, 3) := by decide +kernel
theorem dM_ruleOf_104 : decode cM_ruleOf 104 = .ok (.aload_n 0, 1) := by decide +kernel
theorem dM_ruleOf_105 : decode cM_ruleOf 105 = .ok (.getfield 46, 3) := by decide +kernel
theorem dM_ruleOf_108 : decode cM_ruleOf 108 = .ok (.aload_n 0, 1) := by decide +kernel
theorem dM_ruleOf_109 : decode cM_ruleOf 109 = .ok (.getfield 22, 3) := by decide +kernel
theorem dM_ruleOf_112 : decode cM_ruleOf 112 = .ok (.iload 5, 2) := by decide +kernel
theorem dM_ruleOf_114 : decode cM_ruleOf 114 = .ok (.iaload, 1) := by decide +kernel
theorem dM_ruleOf_115 : decode cM_ruleOf 115 = .ok (.baload, 1) := by decide +kernel
theorem dM_ruleOf_116 : decode cM_ruleOf 116 = .ok (.ifCond .eq 8, 3) := by decide +kernel
theorem dM_ruleOf_119 : decode cM_ruleOf 119 = .ok (.iload 5, 2) := by decide +kernel
theorem dM_ruleOf_121 : decode cM_ruleOf 121 = .ok (.goto 5, 3) := by decide +kernel
theorem dM_ruleOf_124 : decode cM_ruleOf 124 = .ok (.iload 4, 2) := by decide +kernel
theorem dM_ruleOf_126 : decode cM_ruleOf 126 = .ok (.istore 4, 2) := by decide +kernel
theorem dM_ruleOf_128 : decode cM_ruleOf 128 = .ok (.iinc 5 (-1), 3) := by decide +kernel
theorem dM_ruleOf_131 : decode cM_ruleOf 131 = .ok (.goto (-118), 3) := by decide +kernel
theorem dM_ruleOf_134 : decode cM_ruleOf 134 = .ok (.iload_n 3, 1) := by decide +kernel
theorem dM_ruleOf_135 : decode cM_ruleOf 135 = .ok (.ifCond .lt 7, 3) := by decide +kernel
theorem dM_ruleOf_138 : decode cM_ruleOf 138 = .ok (.iload_n 3, 1) := by decide +kernel
theorem dM_ruleOf_139 : decode cM_ruleOf 139 = .ok (.goto 5, 3) := by decide +kernel
theorem dM_ruleOf_142 : decode cM_ruleOf 142 = .ok (.iload 4, 2) := by decide +kernel
theorem dM_ruleOf_144 : decode cM_ruleOf 144 = .ok (.ireturn, 1) := by decide +kernel
abbrev cM_settle : ByteArray := prog_5_method_16_code
abbrev yM_settle : MethodName := ⟨"CoverTreesModel", "settle", "(I)Z"⟩
abbrev kM_settle : Cond := .code yM_settle cM_settle 6 (some .boolean)
abbrev wsM_settle : List Cond := kM_settle :: wB
theorem dM_settle_0 : decode cM_settle 0 = .ok (.iconst (-1), 1) := by decide +kernel
theorem dM_settle_1 : decode cM_settle 1 = .ok (.istore_n 2, 1) := by decide +kernel
theorem dM_settle_2 : decode cM_settle 2 = .ok (.iconst (-1), 1) := by decide +kernel
theorem dM_settle_3 : decode cM_settle 3 = .ok (.istore_n 3, 1) := by decide +kernel
theorem dM_settle_4 : decode cM_settle 4 = .ok (.iconst 0, 1) := by decide +kernel
theorem dM_settle_5 : decode cM_settle 5 = .ok (.istore 4, 2) := by decide +kernel
theorem dM_settle_7 : decode cM_settle 7 = .ok (.iload 4, 2) := by decide +kernel
theorem dM_settle_9 : decode cM_settle 9 = .ok (.bipush 8, 2) := by decide +kernel
theorem dM_settle_11 : decode cM_settle 11 = .ok (.if_icmp .ge 88, 3) := by decide +kernel
theorem dM_settle_14 : decode cM_settle 14 = .ok (.aload_n 0, 1) := by decide +kernel
theorem dM_settle_15 : decode cM_settle 15 = .ok (.getfield 37, 3) := by decide +kernel
theorem dM_settle_18 : decode cM_settle 18 = .ok (.bipush 8, 2) := by decide +kernel
theorem dM_settle_20 : decode cM_settle 20 = .ok (.iload_n 1, 1) := by decide +kernel
theorem dM_settle_21 : decode cM_settle 21 = .ok (.imul, 1) := by decide +kernel
theorem dM_settle_22 : decode cM_settle 22 = .ok (.iload 4, 2) := by decide +kernel
theorem dM_settle_24 : decode cM_settle 24 = .ok (.iadd, 1) := by decide +kernel
theorem dM_settle_25 : decode cM_settle 25 = .ok (.iaload, 1) := by decide +kernel
theorem dM_settle_26 : decode cM_settle 26 = .ok (.ifCond .lt 13, 3) := by decide +kernel
theorem dM_settle_29 : decode cM_settle 29 = .ok (.aload_n 0, 1) := by decide +kernel
theorem dM_settle_30 : decode cM_settle 30 = .ok (.getfield 46, 3) := by decide +kernel
theorem dM_settle_33 : decode cM_settle 33 = .ok (.iload 4, 2) := by decide +kernel
theorem dM_settle_35 : decode cM_settle 35 = .ok (.baload, 1) := by decide +kernel
theorem dM_settle_36 : decode cM_settle 36 = .ok (.ifCond .eq 7, 3) := by decide +kernel
theorem dM_settle_39 : decode cM_settle 39 = .ok (.iconst (-1), 1) := by decide +kernel
theorem dM_settle_40 : decode cM_settle 40 = .ok (.goto 10, 3) := by decide +kernel
theorem dM_settle_43 : decode cM_settle 43 = .ok (.aload_n 0, 1) := by decide +kernel
theorem dM_settle_44 : decode cM_settle 44 = .ok (.iload_n 1, 1) := by decide +kernel
theorem dM_settle_45 : decode cM_settle 45 = .ok (.iload 4, 2) := by decide +kernel
theorem dM_settle_47 : decode cM_settle 47 = .ok (.invokevirtual 83, 3) := by decide +kernel
theorem dM_settle_50 : decode cM_settle 50 = .ok (.istore 5, 2) := by decide +kernel
theorem dM_settle_52 : decode cM_settle 52 = .ok (.iload 5, 2) := by decide +kernel
theorem dM_settle_54 : decode cM_settle 54 = .ok (.ifCond .lt 39, 3) := by decide +kernel
theorem dM_settle_57 : decode cM_settle 57 = .ok (.iload_n 2, 1) := by decide +kernel
theorem dM_settle_58 : decode cM_settle 58 = .ok (.ifCond .lt 29, 3) := by decide +kernel
theorem dM_settle_61 : decode cM_settle 61 = .ok (.aload_n 0, 1) := by decide +kernel
theorem dM_settle_62 : decode cM_settle 62 = .ok (.getfield 37, 3) := by decide +kernel
theorem dM_settle_65 : decode cM_settle 65 = .ok (.bipush 8, 2) := by decide +kernel
theorem dM_settle_67 : decode cM_settle 67 = .ok (.iload_n 1, 1) := by decide +kernel
theorem dM_settle_68 : decode cM_settle 68 = .ok (.imul, 1) := by decide +kernel
theorem dM_settle_69 : decode cM_settle 69 = .ok (.iload 4, 2) := by decide +kernel
theorem dM_settle_71 : decode cM_settle 71 = .ok (.iadd, 1) := by decide +kernel
theorem dM_settle_72 : decode cM_settle 72 = .ok (.iaload, 1) := by decide +kernel
theorem dM_settle_73 : decode cM_settle 73 = .ok (.aload_n 0, 1) := by decide +kernel
theorem dM_settle_74 : decode cM_settle 74 = .ok (.getfield 37, 3) := by decide +kernel
theorem dM_settle_77 : decode cM_settle 77 = .ok (.bipush 8, 2) := by decide +kernel
theorem dM_settle_79 : decode cM_settle 79 = .ok (.iload_n 1, 1) := by decide +kernel
theorem dM_settle_80 : decode cM_settle 80 = .ok (.imul, 1) := by decide +kernel
theorem dM_settle_81 : decode cM_settle 81 = .ok (.iload_n 2, 1) := by decide +kernel
theorem dM_settle_82 : decode cM_settle 82 = .ok (.iadd, 1) := by decide +kernel
theorem dM_settle_83 : decode cM_settle 83 = .ok (.iaload, 1) := by decide +kernel
theorem dM_settle_84 : decode cM_settle 84 = .ok (.if_icmp .ge 9, 3) := by decide +kernel
theorem dM_settle_87 : decode cM_settle 87 = .ok (.iload 4, 2) := by decide +kernel
theorem dM_settle_89 : decode cM_settle 89 = .ok (.istore_n 2, 1) := by decide +kernel
theorem dM_settle_90 : decode cM_settle 90 = .ok (.iload 5, 2) := by decide +kernel
theorem dM_settle_92 : decode cM_settle 92 = .ok (.istore_n 3, 1) := by decide +kernel
theorem dM_settle_93 : decode cM_settle 93 = .ok (.iinc 4 1, 3) := by decide +kernel
theorem dM_settle_96 : decode cM_settle 96 = .ok (.goto (-89), 3) := by decide +kernel
theorem dM_settle_99 : decode cM_settle 99 = .ok (.iload_n 2, 1) := by decide +kernel
theorem dM_settle_100 : decode cM_settle 100 = .ok (.ifCond .ge 5, 3) := by decide +kernel
theorem dM_settle_103 : decode cM_settle 103 = .ok (.iconst 0, 1) := by decide +kernel
theorem dM_settle_104 : decode cM_settle 104 = .ok (.ireturn, 1) := by decide +kernel
theorem dM_settle_105 : decode cM_settle 105 = .ok (.aload_n 0, 1) := by decide +kernel
theorem dM_settle_106 : decode cM_settle 106 = .ok (.getfield 46, 3) := by decide +kernel
theorem dM_settle_109 : decode cM_settle 109 = .ok (.iload_n 2, 1) := by decide +kernel
theorem dM_settle_110 : decode cM_settle 110 = .ok (.iconst 1, 1) := by decide +kernel
theorem dM_settle_111 : decode cM_settle 111 = .ok (.bastore, 1) := by decide +kernel
theorem dM_settle_112 : decode cM_settle 112 = .ok (.aload_n 0, 1) := by decide +kernel
theorem dM_settle_113 : decode cM_settle 113 = .ok (.getfield 40, 3) := by decide +kernel
theorem dM_settle_116 : decode cM_settle 116 = .ok (.bipush 8, 2) := by decide +kernel
theorem dM_settle_118 : decode cM_settle 118 = .ok (.iload_n 1, 1) := by decide +kernel
theorem dM_settle_119 : decode cM_settle 119 = .ok (.imul, 1) := by decide +kernel
theorem dM_settle_120 : decode cM_settle 120 = .ok (.iload_n 2, 1) := by decide +kernel
theorem dM_settle_121 : decode cM_settle 121 = .ok (.iadd, 1) := by decide +kernel
theorem dM_settle_122 : decode cM_settle 122 = .ok (.iload_n 3, 1) := by decide +kernel
theorem dM_settle_123 : decode cM_settle 123 = .ok (.iastore, 1) := by decide +kernel
theorem dM_settle_124 : decode cM_settle 124 = .ok (.iconst 1, 1) := by decide +kernel
theorem dM_settle_125 : decode cM_settle 125 = .ok (.istore 4, 2) := by decide +kernel
theorem dM_settle_127 : decode cM_settle 127 = .ok (.aload_n 0, 1) := by decide +kernel
theorem dM_settle_128 : decode cM_settle 128 = .ok (.getfield 19, 3) := by decide +kernel
theorem dM_settle_131 : decode cM_settle 131 = .ok (.iload_n 3, 1) := by decide +kernel
theorem dM_settle_132 : decode cM_settle 132 = .ok (.iaload, 1) := by decide +kernel
theorem dM_settle_133 : decode cM_settle 133 = .ok (.ifCond .ge 27, 3) := by decide +kernel
theorem dM_settle_136 : decode cM_settle 136 = .ok (.iload 4, 2) := by decide +kernel
theorem dM_settle_138 : decode cM_settle 138 = .ok (.aload_n 0, 1) := by decide +kernel
theorem dM_settle_139 : decode cM_settle 139 = .ok (.getfield 43, 3) := by decide +kernel
theorem dM_settle_142 : decode cM_settle 142 = .ok (.bipush 8, 2) := by decide +kernel
theorem dM_settle_144 : decode cM_settle 144 = .ok (.iload_n 1, 1) := by decide +kernel
theorem dM_settle_145 : decode cM_settle 145 = .ok (.imul, 1) := by decide +kernel
theorem dM_settle_146 : decode cM_settle 146 = .ok (.aload_n 0, 1) := by decide +kernel
theorem dM_settle_147 : decode cM_settle 147 = .ok (.getfield 22, 3) := by decide +kernel
theorem dM_settle_150 : decode cM_settle 150 = .ok (.iload_n 3, 1) := by decide +kernel
theorem dM_settle_151 : decode cM_settle 151 = .ok (.iaload, 1) := by decide +kernel
theorem dM_settle_152 : decode cM_settle 152 = .ok (.iadd, 1) := by decide +kernel
theorem dM_settle_153 : decode cM_settle 153 = .ok (.iaload, 1) := by decide +kernel
theorem dM_settle_154 : decode cM_settle 154 = .ok (.iadd, 1) := by decide +kernel
theorem dM_settle_155 : decode cM_settle 155 = .ok (.istore 4, 2) := by decide +kernel
theorem dM_settle_157 : decode cM_settle 157 = .ok (.goto 89, 3) := by decide +kernel
theorem dM_settle_160 : decode cM_settle 160 = .ok (.aload_n 0, 1) := by decide +kernel
theorem dM_settle_161 : decode cM_settle 161 = .ok (.getfield 7, 3) := by decide +kernel
theorem dM_settle_164 : decode cM_settle 164 = .ok (.aload_n 0, 1) := by decide +kernel
theorem dM_settle_165 : decode cM_settle 165 = .ok (.getfield 19, 3) := by decide +kernel
theorem dM_settle_168 : decode cM_settle 168 = .ok (.iload_n 3, 1) := by decide +kernel
theorem dM_settle_169 : decode cM_settle 169 = .ok (.iaload, 1) := by decide +kernel
theorem dM_settle_170 : decode cM_settle 170 = .ok (.iaload, 1) := by decide +kernel
theorem dM_settle_171 : decode cM_settle 171 = .ok (.ifCond .le 75, 3) := by decide +kernel
theorem dM_settle_174 : decode cM_settle 174 = .ok (.iload 4, 2) := by decide +kernel
theorem dM_settle_176 : decode cM_settle 176 = .ok (.aload_n 0, 1) := by decide +kernel
theorem dM_settle_177 : decode cM_settle 177 = .ok (.getfield 43, 3) := by decide +kernel
theorem dM_settle_180 : decode cM_settle 180 = .ok (.bipush 8, 2) := by decide +kernel
theorem dM_settle_182 : decode cM_settle 182 = .ok (.aload_n 0, 1) := by decide +kernel
theorem dM_settle_183 : decode cM_settle 183 = .ok (.getfield 31, 3) := by decide +kernel
theorem dM_settle_186 : decode cM_settle 186 = .ok (.iload_n 1, 1) := by decide +kernel
theorem dM_settle_187 : decode cM_settle 187 = .ok (.iaload, 1) := by decide +kernel
theorem dM_settle_188 : decode cM_settle 188 = .ok (.imul, 1) := by decide +kernel
theorem dM_settle_189 : decode cM_settle 189 = .ok (.aload_n 0, 1) := by decide +kernel
theorem dM_settle_190 : decode cM_settle 190 = .ok (.getfield 22, 3) := by decide +kernel
theorem dM_settle_193 : decode cM_settle 193 = .ok (.iload_n 3, 1) := by decide +kernel
theorem dM_settle_194 : decode cM_settle 194 = .ok (.iaload, 1) := by decide +kernel
theorem dM_settle_195 : decode cM_settle 195 = .ok (.iadd, 1) := by decide +kernel
theorem dM_settle_196 : decode cM_settle 196 = .ok (.iaload, 1) := by decide +kernel
theorem dM_settle_197 : decode cM_settle 197 = .ok (.iadd, 1) := by decide +kernel
theorem dM_settle_198 : decode cM_settle 198 = .ok (.istore 4, 2) := by decide +kernel
theorem dM_settle_200 : decode cM_settle 200 = .ok (.aload_n 0, 1) := by decide +kernel
theorem dM_settle_201 : decode cM_settle 201 = .ok (.getfield 7, 3) := by decide +kernel
theorem dM_settle_204 : decode cM_settle 204 = .ok (.aload_n 0, 1) := by decide +kernel
theorem dM_settle_205 : decode cM_settle 205 = .ok (.getfield 19, 3) := by decide +kernel
theorem dM_settle_208 : decode cM_settle 208 = .ok (.iload_n 3, 1) := by decide +kernel
theorem dM_settle_209 : decode cM_settle 209 = .ok (.iaload, 1) := by decide +kernel
theorem dM_settle_210 : decode cM_settle 210 = .ok (.iaload, 1) := by decide +kernel
theorem dM_settle_211 : decode cM_settle 211 = .ok (.iconst 1, 1) := by decide +kernel
theorem dM_settle_212 : decode cM_settle 212 = .ok (.if_icmp .le 30, 3) := by decide +kernel
theorem dM_settle_215 : decode cM_settle 215 = .ok (.iload 4, 2) := by decide +kernel
theorem dM_settle_217 : decode cM_settle 217 = .ok (.aload_n 0, 1) := by decide +kernel
theorem dM_settle_218 : decode cM_settle 218 = .ok (.getfield 43, 3) := by decide +kernel
theorem dM_settle_221 : decode cM_settle 221 = .ok (.bipush 8, 2) := by decide +kernel
theorem dM_settle_223 : decode cM_settle 223 = .ok (.aload_n 0, 1) := by decide +kernel
theorem dM_settle_224 : decode cM_settle 224 = .ok (.getfield 34, 3) := by decide +kernel
theorem dM_settle_227 : decode cM_settle 227 = .ok (.iload_n 1, 1) := by decide +kernel
theorem dM_settle_228 : decode cM_settle 228 = .ok (.iaload, 1) := by decide +kernel
theorem dM_settle_229 : decode cM_settle 229 = .ok (.imul, 1) := by decide +kernel
theorem dM_settle_230 : decode cM_settle 230 = .ok (.aload_n 0, 1) := by decide +kernel
theorem dM_settle_231 : decode cM_settle 231 = .ok (.getfield 25, 3) := by decide +kernel
theorem dM_settle_234 : decode cM_settle 234 = .ok (.iload_n 3, 1) := by decide +kernel
theorem dM_settle_235 : decode cM_settle 235 = .ok (.iaload, 1) := by decide +kernel
theorem dM_settle_236 : decode cM_settle 236 = .ok (.iadd, 1) := by decide +kernel
theorem dM_settle_237 : decode cM_settle 237 = .ok (.iaload, 1) := by decide +kernel
theorem dM_settle_238 : decode cM_settle 238 = .ok (.iadd, 1) := by decide +kernel
theorem dM_settle_239 : decode cM_settle 239 = .ok (.goto 5, 3) := by decide +kernel
theorem dM_settle_242 : decode cM_settle 242 = .ok (.iload 4, 2) := by decide +kernel
theorem dM_settle_244 : decode cM_settle 244 = .ok (.istore 4, 2) := by decide +kernel
theorem dM_settle_246 : decode cM_settle 246 = .ok (.aload_n 0, 1) := by decide +kernel
theorem dM_settle_247 : decode cM_settle 247 = .ok (.getfield 43, 3) := by decide +kernel
theorem dM_settle_250 : decode cM_settle 250 = .ok (.bipush 8, 2) := by decide +kernel
theorem dM_settle_252 : decode cM_settle 252 = .ok (.iload_n 1, 1) := by decide +kernel
theorem dM_settle_253 : decode cM_settle 253 = .ok (.imul, 1) := by decide +kernel
theorem dM_settle_254 : decode cM_settle 254 = .ok (.iload_n 2, 1) := by decide +kernel
theorem dM_settle_255 : decode cM_settle 255 = .ok (.iadd, 1) := by decide +kernel
theorem dM_settle_256 : decode cM_settle 256 = .ok (.iload 4, 2) := by decide +kernel
theorem dM_settle_258 : decode cM_settle 258 = .ok (.sipush 2000, 3) := by decide +kernel
theorem dM_settle_261 : decode cM_settle 261 = .ok (.if_icmp .le 9, 3) := by decide +kernel
theorem dM_settle_264 : decode cM_settle 264 = .ok (.sipush 2001, 3) := by decide +kernel
theorem dM_settle_267 : decode cM_settle 267 = .ok (.goto 5, 3) := by decide +kernel
theorem dM_settle_270 : decode cM_settle 270 = .ok (.iload 4, 2) := by decide +kernel
theorem dM_settle_272 : decode cM_settle 272 = .ok (.iastore, 1) := by decide +kernel
theorem dM_settle_273 : decode cM_settle 273 = .ok (.iconst 1, 1) := by decide +kernel
theorem dM_settle_274 : decode cM_settle 274 = .ok (.ireturn, 1) := by decide +kernel
abbrev cM_node : ByteArray := prog_5_method_17_code
abbrev yM_node : MethodName := ⟨"CoverTreesModel", "node", "(III)I"⟩
abbrev kM_node : Cond := .code yM_node cM_node 9 (some .int)
abbrev wsM_node : List Cond := kM_node :: wB
theorem dM_node_0 : decode cM_node 0 = .ok (.iload_n 1, 1) := by decide +kernel
theorem dM_node_1 : decode cM_node 1 = .ok (.iconst 0, 1) := by decide +kernel
theorem dM_node_2 : decode cM_node 2 = .ok (.aload_n 0, 1) := by decide +kernel
theorem dM_node_3 : decode cM_node 3 = .ok (.getfield 54, 3) := by decide +kernel
theorem dM_node_6 : decode cM_node 6 = .ok (.iconst 1, 1) := by decide +kernel
theorem dM_node_7 : decode cM_node 7 = .ok (.isub, 1) := by decide +kernel
theorem dM_node_8 : decode cM_node 8 = .ok (.invokestatic 63, 3) := by decide +kernel
theorem dM_node_11 : decode cM_node 11 = .ok (.istore 4, 2) := by decide +kernel
theorem dM_node_13 : decode cM_node 13 = .ok (.iload 4, 2) := by decide +kernel
theorem dM_node_15 : decode cM_node 15 = .ok (.ifCond .eq 12, 3) := by decide +kernel
theorem dM_node_18 : decode cM_node 18 = .ok (.aload_n 0, 1) := by decide +kernel
theorem dM_node_19 : decode cM_node 19 = .ok (.getfield 7, 3) := by decide +kernel
theorem dM_node_22 : decode cM_node 22 = .ok (.iload_n 1, 1) := by decide +kernel
theorem dM_node_23 : decode cM_node 23 = .ok (.iaload, 1) := by decide +kernel
theorem dM_node_24 : decode cM_node 24 = .ok (.goto 4, 3) := by decide +kernel
theorem dM_node_27 : decode cM_node 27 = .ok (.iconst 0, 1) := by decide +kernel
theorem dM_node_28 : decode cM_node 28 = .ok (.istore 5, 2) := by decide +kernel
theorem dM_node_30 : decode cM_node 30 = .ok (.iload 4, 2) := by decide +kernel
theorem dM_node_32 : decode cM_node 32 = .ok (.ifCond .eq 35, 3) := by decide +kernel
theorem dM_node_35 : decode cM_node 35 = .ok (.iload 5, 2) := by decide +kernel
theorem dM_node_37 : decode cM_node 37 = .ok (.iconst 1, 1) := by decide +kernel
theorem dM_node_38 : decode cM_node 38 = .ok (.if_icmp .lt 11, 3) := by decide +kernel
theorem dM_node_41 : decode cM_node 41 = .ok (.aload_n 0, 1) := by decide +kernel
theorem dM_node_42 : decode cM_node 42 = .ok (.iload_n 2, 1) := by decide +kernel
theorem dM_node_43 : decode cM_node 43 = .ok (.invokevirtual 86, 3) := by decide +kernel
theorem dM_node_46 : decode cM_node 46 = .ok (.ifCond .eq 21, 3) := by decide +kernel
theorem dM_node_49 : decode cM_node 49 = .ok (.iload 5, 2) := by decide +kernel
theorem dM_node_51 : decode cM_node 51 = .ok (.iconst 2, 1) := by decide +kernel
theorem dM_node_52 : decode cM_node 52 = .ok (.if_icmp .lt 11, 3) := by decide +kernel
theorem dM_node_55 : decode cM_node 55 = .ok (.aload_n 0, 1) := by decide +kernel
theorem dM_node_56 : decode cM_node 56 = .ok (.iload_n 3, 1) := by decide +kernel
theorem dM_node_57 : decode cM_node 57 = .ok (.invokevirtual 86, 3) := by decide +kernel
theorem dM_node_60 : decode cM_node 60 = .ok (.ifCond .eq 7, 3) := by decide +kernel
theorem dM_node_63 : decode cM_node 63 = .ok (.iconst 1, 1) := by decide +kernel
theorem dM_node_64 : decode cM_node 64 = .ok (.goto 4, 3) := by decide +kernel
theorem dM_node_67 : decode cM_node 67 = .ok (.iconst 0, 1) := by decide +kernel
theorem dM_node_68 : decode cM_node 68 = .ok (.istore 6, 2) := by decide +kernel
theorem dM_node_70 : decode cM_node 70 = .ok (.aload_n 0, 1) := by decide +kernel
theorem dM_node_71 : decode cM_node 71 = .ok (.iload 6, 2) := by decide +kernel
theorem dM_node_73 : decode cM_node 73 = .ok (.ifCond .ne 7, 3) := by decide +kernel
theorem dM_node_76 : decode cM_node 76 = .ok (.iconst 1, 1) := by decide +kernel
theorem dM_node_77 : decode cM_node 77 = .ok (.goto 4, 3) := by decide +kernel
theorem dM_node_80 : decode cM_node 80 = .ok (.iconst 0, 1) := by decide +kernel
theorem dM_node_81 : decode cM_node 81 = .ok (.aload_n 0, 1) := by decide +kernel
theorem dM_node_82 : decode cM_node 82 = .ok (.getfield 60, 3) := by decide +kernel
theorem dM_node_85 : decode cM_node 85 = .ok (.bipush 120, 2) := by decide +kernel
theorem dM_node_87 : decode cM_node 87 = .ok (.if_icmp .ne 7, 3) := by decide +kernel
theorem dM_node_90 : decode cM_node 90 = .ok (.iconst 1, 1) := by decide +kernel
theorem dM_node_91 : decode cM_node 91 = .ok (.goto 4, 3) := by decide +kernel
theorem dM_node_94 : decode cM_node 94 = .ok (.iconst 0, 1) := by decide +kernel
theorem dM_node_95 : decode cM_node 95 = .ok (.iconst 0, 1) := by decide +kernel
theorem dM_node_96 : decode cM_node 96 = .ok (.invokevirtual 67, 3) := by decide +kernel
theorem dM_node_99 : decode cM_node 99 = .ok (.ifCond .eq 5, 3) := by decide +kernel
theorem dM_node_102 : decode cM_node 102 = .ok (.iconst 0, 1) := by decide +kernel
theorem dM_node_103 : decode cM_node 103 = .ok (.ireturn, 1) := by decide +kernel
theorem dM_node_104 : decode cM_node 104 = .ok (.aload_n 0, 1) := by decide +kernel
theorem dM_node_105 : decode cM_node 105 = .ok (.getfield 28, 3) := by decide +kernel
theorem dM_node_108 : decode cM_node 108 = .ok (.aload_n 0, 1) := by decide +kernel
theorem dM_node_109 : decode cM_node 109 = .ok (.getfield 60, 3) := by decide +kernel
theorem dM_node_112 : decode cM_node 112 = .ok (.iload_n 1, 1) := by decide +kernel
theorem dM_node_113 : decode cM_node 113 = .ok (.iastore, 1) := by decide +kernel
theorem dM_node_114 : decode cM_node 114 = .ok (.aload_n 0, 1) := by decide +kernel
theorem dM_node_115 : decode cM_node 115 = .ok (.getfield 31, 3) := by decide +kernel
theorem dM_node_118 : decode cM_node 118 = .ok (.aload_n 0, 1) := by decide +kernel
theorem dM_node_119 : decode cM_node 119 = .ok (.getfield 60, 3) := by decide +kernel
theorem dM_node_122 : decode cM_node 122 = .ok (.iload 5, 2) := by decide +kernel
theorem dM_node_124 : decode cM_node 124 = .ok (.ifCond .le 7, 3) := by decide +kernel
theorem dM_node_127 : decode cM_node 127 = .ok (.iload_n 2, 1) := by decide +kernel
theorem dM_node_128 : decode cM_node 128 = .ok (.goto 4, 3) := by decide +kernel
theorem dM_node_131 : decode cM_node 131 = .ok (.iconst 0, 1) := by decide +kernel
theorem dM_node_132 : decode cM_node 132 = .ok (.iastore, 1) := by decide +kernel
theorem dM_node_133 : decode cM_node 133 = .ok (.aload_n 0, 1) := by decide +kernel
theorem dM_node_134 : decode cM_node 134 = .ok (.getfield 34, 3) := by decide +kernel
theorem dM_node_137 : decode cM_node 137 = .ok (.aload_n 0, 1) := by decide +kernel
theorem dM_node_138 : decode cM_node 138 = .ok (.getfield 60, 3) := by decide +kernel
theorem dM_node_141 : decode cM_node 141 = .ok (.iload 5, 2) := by decide +kernel
theorem dM_node_143 : decode cM_node 143 = .ok (.iconst 1, 1) := by decide +kernel
theorem dM_node_144 : decode cM_node 144 = .ok (.if_icmp .le 7, 3) := by decide +kernel
theorem dM_node_147 : decode cM_node 147 = .ok (.iload_n 3, 1) := by decide +kernel
theorem dM_node_148 : decode cM_node 148 = .ok (.goto 4, 3) := by decide +kernel
theorem dM_node_151 : decode cM_node 151 = .ok (.iconst 0, 1) := by decide +kernel
theorem dM_node_152 : decode cM_node 152 = .ok (.iastore, 1) := by decide +kernel
theorem dM_node_153 : decode cM_node 153 = .ok (.aload_n 0, 1) := by decide +kernel
theorem dM_node_154 : decode cM_node 154 = .ok (.aload_n 0, 1) := by decide +kernel
theorem dM_node_155 : decode cM_node 155 = .ok (.getfield 60, 3) := by decide +kernel
theorem dM_node_158 : decode cM_node 158 = .ok (.invokevirtual 89, 3) := by decide +kernel
theorem dM_node_161 : decode cM_node 161 = .ok (.iconst 0, 1) := by decide +kernel
theorem dM_node_162 : decode cM_node 162 = .ok (.istore 7, 2) := by decide +kernel
theorem dM_node_164 : decode cM_node 164 = .ok (.iconst 0, 1) := by decide +kernel
theorem dM_node_165 : decode cM_node 165 = .ok (.istore 8, 2) := by decide +kernel
theorem dM_node_167 : decode cM_node 167 = .ok (.iload 8, 2) := by decide +kernel
theorem dM_node_169 : decode cM_node 169 = .ok (.bipush 8, 2) := by decide +kernel
theorem dM_node_171 : decode cM_node 171 = .ok (.if_icmp .ge 49, 3) := by decide +kernel
theorem dM_node_174 : decode cM_node 174 = .ok (.iload 7, 2) := by decide +kernel
theorem dM_node_176 : decode cM_node 176 = .ok (.ifCond .ne 23, 3) := by decide +kernel
theorem dM_node_179 : decode cM_node 179 = .ok (.aload_n 0, 1) := by decide +kernel
theorem dM_node_180 : decode cM_node 180 = .ok (.getfield 37, 3) := by decide +kernel
theorem dM_node_183 : decode cM_node 183 = .ok (.bipush 8, 2) := by decide +kernel
theorem dM_node_185 : decode cM_node 185 = .ok (.aload_n 0, 1) := by decide +kernel
theorem dM_node_186 : decode cM_node 186 = .ok (.getfield 60, 3) := by decide +kernel
theorem dM_node_189 : decode cM_node 189 = .ok (.imul, 1) := by decide +kernel
theorem dM_node_190 : decode cM_node 190 = .ok (.iload 8, 2) := by decide +kernel
theorem dM_node_192 : decode cM_node 192 = .ok (.iadd, 1) := by decide +kernel
theorem dM_node_193 : decode cM_node 193 = .ok (.iaload, 1) := by decide +kernel
theorem dM_node_194 : decode cM_node 194 = .ok (.ldc 93, 2) := by decide +kernel
theorem dM_node_196 : decode cM_node 196 = .ok (.if_icmp .le 7, 3) := by decide +kernel
theorem dM_node_199 : decode cM_node 199 = .ok (.iconst 1, 1) := by decide +kernel
theorem dM_node_200 : decode cM_node 200 = .ok (.goto 4, 3) := by decide +kernel
theorem dM_node_203 : decode cM_node 203 = .ok (.iconst 0, 1) := by decide +kernel
theorem dM_node_204 : decode cM_node 204 = .ok (.istore 7, 2) := by decide +kernel
theorem dM_node_206 : decode cM_node 206 = .ok (.aload_n 0, 1) := by decide +kernel
theorem dM_node_207 : decode cM_node 207 = .ok (.getfield 46, 3) := by decide +kernel
theorem dM_node_210 : decode cM_node 210 = .ok (.iload 8, 2) := by decide +kernel
theorem dM_node_212 : decode cM_node 212 = .ok (.iconst 0, 1) := by decide +kernel
theorem dM_node_213 : decode cM_node 213 = .ok (.bastore, 1) := by decide +kernel
theorem dM_node_214 : decode cM_node 214 = .ok (.iinc 8 1, 3) := by decide +kernel
theorem dM_node_217 : decode cM_node 217 = .ok (.goto (-50), 3) := by decide +kernel
theorem dM_node_220 : decode cM_node 220 = .ok (.aload_n 0, 1) := by decide +kernel
theorem dM_node_221 : decode cM_node 221 = .ok (.iconst 0, 1) := by decide +kernel
theorem dM_node_222 : decode cM_node 222 = .ok (.iload 7, 2) := by decide +kernel
theorem dM_node_224 : decode cM_node 224 = .ok (.iconst 0, 1) := by decide +kernel
theorem dM_node_225 : decode cM_node 225 = .ok (.invokevirtual 67, 3) := by decide +kernel
theorem dM_node_228 : decode cM_node 228 = .ok (.ifCond .eq 5, 3) := by decide +kernel
theorem dM_node_231 : decode cM_node 231 = .ok (.iconst 0, 1) := by decide +kernel
theorem dM_node_232 : decode cM_node 232 = .ok (.ireturn, 1) := by decide +kernel
theorem dM_node_233 : decode cM_node 233 = .ok (.iconst 1, 1) := by decide +kernel
theorem dM_node_234 : decode cM_node 234 = .ok (.istore 8, 2) := by decide +kernel
theorem dM_node_236 : decode cM_node 236 = .ok (.iload 8, 2) := by decide +kernel
theorem dM_node_238 : decode cM_node 238 = .ok (.ifCond .eq 16, 3) := by decide +kernel
theorem dM_node_241 : decode cM_node 241 = .ok (.aload_n 0, 1) := by decide +kernel
theorem dM_node_242 : decode cM_node 242 = .ok (.aload_n 0, 1) := by decide +kernel
theorem dM_node_243 : decode cM_node 243 = .ok (.getfield 60, 3) := by decide +kernel
theorem dM_node_246 : decode cM_node 246 = .ok (.invokevirtual 94, 3) := by decide +kernel
theorem dM_node_249 : decode cM_node 249 = .ok (.istore 8, 2) := by decide +kernel
theorem dM_node_251 : decode cM_node 251 = .ok (.goto (-15), 3) := by decide +kernel
theorem dM_node_254 : decode cM_node 254 = .ok (.aload_n 0, 1) := by decide +kernel
theorem dM_node_255 : decode cM_node 255 = .ok (.dup, 1) := by decide +kernel
theorem dM_node_256 : decode cM_node 256 = .ok (.getfield 60, 3) := by decide +kernel
theorem dM_node_259 : decode cM_node 259 = .ok (.iconst 1, 1) := by decide +kernel
theorem dM_node_260 : decode cM_node 260 = .ok (.iadd, 1) := by decide +kernel
theorem dM_node_261 : decode cM_node 261 = .ok (.putfield 60, 3) := by decide +kernel
theorem dM_node_264 : decode cM_node 264 = .ok (.aload_n 0, 1) := by decide +kernel
theorem dM_node_265 : decode cM_node 265 = .ok (.getfield 60, 3) := by decide +kernel
theorem dM_node_268 : decode cM_node 268 = .ok (.iconst 1, 1) := by decide +kernel
theorem dM_node_269 : decode cM_node 269 = .ok (.isub, 1) := by decide +kernel
theorem dM_node_270 : decode cM_node 270 = .ok (.ireturn, 1) := by decide +kernel
abbrev cM_isAsked : ByteArray := prog_5_method_18_code
abbrev yM_isAsked : MethodName := ⟨"CoverTreesModel", "isAsked", "(II)Z"⟩
abbrev kM_isAsked : Cond := .code yM_isAsked cM_isAsked 3 (some .boolean)
abbrev wsM_isAsked : List Cond := kM_isAsked :: wB
theorem dM_isAsked_0 : decode cM_isAsked 0 = .ok (.aload_n 0, 1) := by decide +kernel
theorem dM_isAsked_1 : decode cM_isAsked 1 = .ok (.iload_n 1, 1) := by decide +kernel
theorem dM_isAsked_2 : decode cM_isAsked 2 = .ok (.invokevirtual 86, 3) := by decide +kernel
theorem dM_isAsked_5 : decode cM_isAsked 5 = .ok (.ifCond .eq 14, 3) := by decide +kernel
theorem dM_isAsked_8 : decode cM_isAsked 8 = .ok (.iload_n 2, 1) := by decide +kernel
theorem dM_isAsked_9 : decode cM_isAsked 9 = .ok (.invokestatic 71, 3) := by decide +kernel
theorem dM_isAsked_12 : decode cM_isAsked 12 = .ok (.ifCond .eq 7, 3) := by decide +kernel
theorem dM_isAsked_15 : decode cM_isAsked 15 = .ok (.iconst 1, 1) := by decide +kernel
theorem dM_isAsked_16 : decode cM_isAsked 16 = .ok (.goto 4, 3) := by decide +kernel
theorem dM_isAsked_19 : decode cM_isAsked 19 = .ok (.iconst 0, 1) := by decide +kernel
theorem dM_isAsked_20 : decode cM_isAsked 20 = .ok (.ireturn, 1) := by decide +kernel
abbrev cM_cost : ByteArray := prog_5_method_19_code
abbrev yM_cost : MethodName := ⟨"CoverTreesModel", "cost", "(II)I"⟩
abbrev kM_cost : Cond := .code yM_cost cM_cost 3 (some .int)
abbrev wsM_cost : List Cond := kM_cost :: wB
theorem dM_cost_0 : decode cM_cost 0 = .ok (.aload_n 0, 1) := by decide +kernel
theorem dM_cost_1 : decode cM_cost 1 = .ok (.aload_n 0, 1) := by decide +kernel
theorem dM_cost_2 : decode cM_cost 2 = .ok (.iload_n 1, 1) := by decide +kernel
theorem dM_cost_3 : decode cM_cost 3 = .ok (.iload_n 2, 1) := by decide +kernel
theorem dM_cost_4 : decode cM_cost 4 = .ok (.invokevirtual 97, 3) := by decide +kernel
theorem dM_cost_7 : decode cM_cost 7 = .ok (.ifCond .ne 7, 3) := by decide +kernel
theorem dM_cost_10 : decode cM_cost 10 = .ok (.iconst 1, 1) := by decide +kernel
theorem dM_cost_11 : decode cM_cost 11 = .ok (.goto 4, 3) := by decide +kernel
theorem dM_cost_14 : decode cM_cost 14 = .ok (.iconst 0, 1) := by decide +kernel
theorem dM_cost_15 : decode cM_cost 15 = .ok (.iconst 0, 1) := by decide +kernel
theorem dM_cost_16 : decode cM_cost 16 = .ok (.iconst 0, 1) := by decide +kernel
theorem dM_cost_17 : decode cM_cost 17 = .ok (.invokevirtual 67, 3) := by decide +kernel
theorem dM_cost_20 : decode cM_cost 20 = .ok (.ifCond .eq 7, 3) := by decide +kernel
theorem dM_cost_23 : decode cM_cost 23 = .ok (.iconst 0, 1) := by decide +kernel
theorem dM_cost_24 : decode cM_cost 24 = .ok (.goto 14, 3) := by decide +kernel
theorem dM_cost_27 : decode cM_cost 27 = .ok (.aload_n 0, 1) := by decide +kernel
theorem dM_cost_28 : decode cM_cost 28 = .ok (.getfield 37, 3) := by decide +kernel
theorem dM_cost_31 : decode cM_cost 31 = .ok (.bipush 8, 2) := by decide +kernel
theorem dM_cost_33 : decode cM_cost 33 = .ok (.iload_n 1, 1) := by decide +kernel
theorem dM_cost_34 : decode cM_cost 34 = .ok (.imul, 1) := by decide +kernel
theorem dM_cost_35 : decode cM_cost 35 = .ok (.iload_n 2, 1) := by decide +kernel
theorem dM_cost_36 : decode cM_cost 36 = .ok (.iadd, 1) := by decide +kernel
theorem dM_cost_37 : decode cM_cost 37 = .ok (.iaload, 1) := by decide +kernel
theorem dM_cost_38 : decode cM_cost 38 = .ok (.ireturn, 1) := by decide +kernel
abbrev cM_rule : ByteArray := prog_5_method_20_code
abbrev yM_rule : MethodName := ⟨"CoverTreesModel", "rule", "(II)I"⟩
abbrev kM_rule : Cond := .code yM_rule cM_rule 3 (some .int)
abbrev wsM_rule : List Cond := kM_rule :: wB
theorem dM_rule_0 : decode cM_rule 0 = .ok (.aload_n 0, 1) := by decide +kernel
theorem dM_rule_1 : decode cM_rule 1 = .ok (.aload_n 0, 1) := by decide +kernel
theorem dM_rule_2 : decode cM_rule 2 = .ok (.iload_n 1, 1) := by decide +kernel
theorem dM_rule_3 : decode cM_rule 3 = .ok (.iload_n 2, 1) := by decide +kernel
theorem dM_rule_4 : decode cM_rule 4 = .ok (.invokevirtual 97, 3) := by decide +kernel
theorem dM_rule_7 : decode cM_rule 7 = .ok (.ifCond .ne 7, 3) := by decide +kernel
theorem dM_rule_10 : decode cM_rule 10 = .ok (.iconst 1, 1) := by decide +kernel
theorem dM_rule_11 : decode cM_rule 11 = .ok (.goto 4, 3) := by decide +kernel
theorem dM_rule_14 : decode cM_rule 14 = .ok (.iconst 0, 1) := by decide +kernel
theorem dM_rule_15 : decode cM_rule 15 = .ok (.iconst 0, 1) := by decide +kernel
theorem dM_rule_16 : decode cM_rule 16 = .ok (.iconst 0, 1) := by decide +kernel
theorem dM_rule_17 : decode cM_rule 17 = .ok (.invokevirtual 67, 3) := by decide +kernel
theorem dM_rule_20 : decode cM_rule 20 = .ok (.ifCond .eq 7, 3) := by decide +kernel
theorem dM_rule_23 : decode cM_rule 23 = .ok (.iconst 0, 1) := by decide +kernel
theorem dM_rule_24 : decode cM_rule 24 = .ok (.goto 14, 3) := by decide +kernel
theorem dM_rule_27 : decode cM_rule 27 = .ok (.aload_n 0, 1) := by decide +kernel
theorem dM_rule_28 : decode cM_rule 28 = .ok (.getfield 40, 3) := by decide +kernel
theorem dM_rule_31 : decode cM_rule 31 = .ok (.bipush 8, 2) := by decide +kernel
theorem dM_rule_33 : decode cM_rule 33 = .ok (.iload_n 1, 1) := by decide +kernel
theorem dM_rule_34 : decode cM_rule 34 = .ok (.imul, 1) := by decide +kernel
theorem dM_rule_35 : decode cM_rule 35 = .ok (.iload_n 2, 1) := by decide +kernel
theorem dM_rule_36 : decode cM_rule 36 = .ok (.iadd, 1) := by decide +kernel
theorem dM_rule_37 : decode cM_rule 37 = .ok (.iaload, 1) := by decide +kernel
theorem dM_rule_38 : decode cM_rule 38 = .ok (.ireturn, 1) := by decide +kernel
abbrev cM_size : ByteArray := prog_5_method_21_code
abbrev yM_size : MethodName := ⟨"CoverTreesModel", "size", "(II)I"⟩
abbrev kM_size : Cond := .code yM_size cM_size 4 (some .int)
abbrev wsM_size : List Cond := kM_size :: wB
theorem dM_size_0 : decode cM_size 0 = .ok (.aload_n 0, 1) := by decide +kernel
theorem dM_size_1 : decode cM_size 1 = .ok (.iload_n 1, 1) := by decide +kernel
theorem dM_size_2 : decode cM_size 2 = .ok (.iload_n 2, 1) := by decide +kernel
theorem dM_size_3 : decode cM_size 3 = .ok (.invokevirtual 97, 3) := by decide +kernel
theorem dM_size_6 : decode cM_size 6 = .ok (.istore_n 3, 1) := by decide +kernel
theorem dM_size_7 : decode cM_size 7 = .ok (.aload_n 0, 1) := by decide +kernel
theorem dM_size_8 : decode cM_size 8 = .ok (.iload_n 3, 1) := by decide +kernel
theorem dM_size_9 : decode cM_size 9 = .ok (.ifCond .ne 7, 3) := by decide +kernel
theorem dM_size_12 : decode cM_size 12 = .ok (.iconst 1, 1) := by decide +kernel
theorem dM_size_13 : decode cM_size 13 = .ok (.goto 4, 3) := by decide +kernel
theorem dM_size_16 : decode cM_size 16 = .ok (.iconst 0, 1) := by decide +kernel
theorem dM_size_17 : decode cM_size 17 = .ok (.iload_n 3, 1) := by decide +kernel
theorem dM_size_18 : decode cM_size 18 = .ok (.ifCond .eq 32, 3) := by decide +kernel
theorem dM_size_21 : decode cM_size 21 = .ok (.aload_n 0, 1) := by decide +kernel
theorem dM_size_22 : decode cM_size 22 = .ok (.getfield 43, 3) := by decide +kernel
theorem dM_size_25 : decode cM_size 25 = .ok (.iload_n 3, 1) := by decide +kernel
theorem dM_size_26 : decode cM_size 26 = .ok (.ifCond .eq 12, 3) := by decide +kernel
theorem dM_size_29 : decode cM_size 29 = .ok (.bipush 8, 2) := by decide +kernel
theorem dM_size_31 : decode cM_size 31 = .ok (.iload_n 1, 1) := by decide +kernel
theorem dM_size_32 : decode cM_size 32 = .ok (.imul, 1) := by decide +kernel
theorem dM_size_33 : decode cM_size 33 = .ok (.iload_n 2, 1) := by decide +kernel
theorem dM_size_34 : decode cM_size 34 = .ok (.iadd, 1) := by decide +kernel
theorem dM_size_35 : decode cM_size 35 = .ok (.goto 4, 3) := by decide +kernel
theorem dM_size_38 : decode cM_size 38 = .ok (.iconst 0, 1) := by decide +kernel
theorem dM_size_39 : decode cM_size 39 = .ok (.iaload, 1) := by decide +kernel
theorem dM_size_40 : decode cM_size 40 = .ok (.sipush 2000, 3) := by decide +kernel
theorem dM_size_43 : decode cM_size 43 = .ok (.if_icmp .le 7, 3) := by decide +kernel
theorem dM_size_46 : decode cM_size 46 = .ok (.iconst 1, 1) := by decide +kernel
theorem dM_size_47 : decode cM_size 47 = .ok (.goto 4, 3) := by decide +kernel
theorem dM_size_50 : decode cM_size 50 = .ok (.iconst 0, 1) := by decide +kernel
theorem dM_size_51 : decode cM_size 51 = .ok (.iconst 0, 1) := by decide +kernel
theorem dM_size_52 : decode cM_size 52 = .ok (.invokevirtual 67, 3) := by decide +kernel
theorem dM_size_55 : decode cM_size 55 = .ok (.ifCond .eq 7, 3) := by decide +kernel
theorem dM_size_58 : decode cM_size 58 = .ok (.iconst 0, 1) := by decide +kernel
theorem dM_size_59 : decode cM_size 59 = .ok (.goto 14, 3) := by decide +kernel
theorem dM_size_62 : decode cM_size 62 = .ok (.aload_n 0, 1) := by decide +kernel
theorem dM_size_63 : decode cM_size 63 = .ok (.getfield 43, 3) := by decide +kernel
theorem dM_size_66 : decode cM_size 66 = .ok (.bipush 8, 2) := by decide +kernel
theorem dM_size_68 : decode cM_size 68 = .ok (.iload_n 1, 1) := by decide +kernel
theorem dM_size_69 : decode cM_size 69 = .ok (.imul, 1) := by decide +kernel
theorem dM_size_70 : decode cM_size 70 = .ok (.iload_n 2, 1) := by decide +kernel
theorem dM_size_71 : decode cM_size 71 = .ok (.iadd, 1) := by decide +kernel
theorem dM_size_72 : decode cM_size 72 = .ok (.iaload, 1) := by decide +kernel
theorem dM_size_73 : decode cM_size 73 = .ok (.ireturn, 1) := by decide +kernel
abbrev cM_find : ByteArray := prog_5_method_22_code
abbrev yM_find : MethodName := ⟨"CoverTreesModel", "find", "(III)V"⟩
abbrev kM_find : Cond := .code yM_find cM_find 8 none
abbrev wsM_find : List Cond := kM_find :: wB
theorem dM_find_0 : decode cM_find 0 = .ok (.aload_n 0, 1) := by decide +kernel
theorem dM_find_1 : decode cM_find 1 = .ok (.iload_n 1, 1) := by decide +kernel
theorem dM_find_2 : decode cM_find 2 = .ok (.putfield 101, 3) := by decide +kernel
theorem dM_find_5 : decode cM_find 5 = .ok (.iload_n 2, 1) := by decide +kernel
theorem dM_find_6 : decode cM_find 6 = .ok (.istore 4, 2) := by decide +kernel
theorem dM_find_8 : decode cM_find 8 = .ok (.iload_n 3, 1) := by decide +kernel
theorem dM_find_9 : decode cM_find 9 = .ok (.istore 5, 2) := by decide +kernel
theorem dM_find_11 : decode cM_find 11 = .ok (.aload_n 0, 1) := by decide +kernel
theorem dM_find_12 : decode cM_find 12 = .ok (.aload_n 0, 1) := by decide +kernel
theorem dM_find_13 : decode cM_find 13 = .ok (.getfield 40, 3) := by decide +kernel
theorem dM_find_16 : decode cM_find 16 = .ok (.bipush 8, 2) := by decide +kernel
theorem dM_find_18 : decode cM_find 18 = .ok (.iload_n 1, 1) := by decide +kernel
theorem dM_find_19 : decode cM_find 19 = .ok (.imul, 1) := by decide +kernel
theorem dM_find_20 : decode cM_find 20 = .ok (.iload_n 2, 1) := by decide +kernel
theorem dM_find_21 : decode cM_find 21 = .ok (.iadd, 1) := by decide +kernel
theorem dM_find_22 : decode cM_find 22 = .ok (.iaload, 1) := by decide +kernel
theorem dM_find_23 : decode cM_find 23 = .ok (.putfield 104, 3) := by decide +kernel
theorem dM_find_26 : decode cM_find 26 = .ok (.iload 5, 2) := by decide +kernel
theorem dM_find_28 : decode cM_find 28 = .ok (.aload_n 0, 1) := by decide +kernel
theorem dM_find_29 : decode cM_find 29 = .ok (.getfield 43, 3) := by decide +kernel
theorem dM_find_32 : decode cM_find 32 = .ok (.bipush 8, 2) := by decide +kernel
theorem dM_find_34 : decode cM_find 34 = .ok (.aload_n 0, 1) := by decide +kernel
theorem dM_find_35 : decode cM_find 35 = .ok (.getfield 101, 3) := by decide +kernel
theorem dM_find_38 : decode cM_find 38 = .ok (.imul, 1) := by decide +kernel
theorem dM_find_39 : decode cM_find 39 = .ok (.iload 4, 2) := by decide +kernel
theorem dM_find_41 : decode cM_find 41 = .ok (.iadd, 1) := by decide +kernel
theorem dM_find_42 : decode cM_find 42 = .ok (.iaload, 1) := by decide +kernel
theorem dM_find_43 : decode cM_find 43 = .ok (.iconst 1, 1) := by decide +kernel
theorem dM_find_44 : decode cM_find 44 = .ok (.isub, 1) := by decide +kernel
theorem dM_find_45 : decode cM_find 45 = .ok (.if_icmp .ge 152, 3) := by decide +kernel
theorem dM_find_48 : decode cM_find 48 = .ok (.aload_n 0, 1) := by decide +kernel
theorem dM_find_49 : decode cM_find 49 = .ok (.getfield 40, 3) := by decide +kernel
theorem dM_find_52 : decode cM_find 52 = .ok (.bipush 8, 2) := by decide +kernel
theorem dM_find_54 : decode cM_find 54 = .ok (.aload_n 0, 1) := by decide +kernel
theorem dM_find_55 : decode cM_find 55 = .ok (.getfield 101, 3) := by decide +kernel
theorem dM_find_58 : decode cM_find 58 = .ok (.imul, 1) := by decide +kernel
theorem dM_find_59 : decode cM_find 59 = .ok (.iload 4, 2) := by decide +kernel
theorem dM_find_61 : decode cM_find 61 = .ok (.iadd, 1) := by decide +kernel
theorem dM_find_62 : decode cM_find 62 = .ok (.iaload, 1) := by decide +kernel
theorem dM_find_63 : decode cM_find 63 = .ok (.istore 6, 2) := by decide +kernel
theorem dM_find_65 : decode cM_find 65 = .ok (.aload_n 0, 1) := by decide +kernel
theorem dM_find_66 : decode cM_find 66 = .ok (.getfield 19, 3) := by decide +kernel
theorem dM_find_69 : decode cM_find 69 = .ok (.iload 6, 2) := by decide +kernel
theorem dM_find_71 : decode cM_find 71 = .ok (.iaload, 1) := by decide +kernel
theorem dM_find_72 : decode cM_find 72 = .ok (.ifCond .ge 15, 3) := by decide +kernel
theorem dM_find_75 : decode cM_find 75 = .ok (.aload_n 0, 1) := by decide +kernel
theorem dM_find_76 : decode cM_find 76 = .ok (.getfield 22, 3) := by decide +kernel
theorem dM_find_79 : decode cM_find 79 = .ok (.iload 6, 2) := by decide +kernel
theorem dM_find_81 : decode cM_find 81 = .ok (.iaload, 1) := by decide +kernel
theorem dM_find_82 : decode cM_find 82 = .ok (.istore 4, 2) := by decide +kernel
theorem dM_find_84 : decode cM_find 84 = .ok (.goto 91, 3) := by decide +kernel
theorem dM_find_87 : decode cM_find 87 = .ok (.aload_n 0, 1) := by decide +kernel
theorem dM_find_88 : decode cM_find 88 = .ok (.getfield 43, 3) := by decide +kernel
theorem dM_find_91 : decode cM_find 91 = .ok (.bipush 8, 2) := by decide +kernel
theorem dM_find_93 : decode cM_find 93 = .ok (.aload_n 0, 1) := by decide +kernel
theorem dM_find_94 : decode cM_find 94 = .ok (.getfield 31, 3) := by decide +kernel
theorem dM_find_97 : decode cM_find 97 = .ok (.aload_n 0, 1) := by decide +kernel
theorem dM_find_98 : decode cM_find 98 = .ok (.getfield 101, 3) := by decide +kernel
theorem dM_find_101 : decode cM_find 101 = .ok (.iaload, 1) := by decide +kernel
theorem dM_find_102 : decode cM_find 102 = .ok (.imul, 1) := by decide +kernel
theorem dM_find_103 : decode cM_find 103 = .ok (.aload_n 0, 1) := by decide +kernel
theorem dM_find_104 : decode cM_find 104 = .ok (.getfield 22, 3) := by decide +kernel
theorem dM_find_107 : decode cM_find 107 = .ok (.iload 6, 2) := by decide +kernel
theorem dM_find_109 : decode cM_find 109 = .ok (.iaload, 1) := by decide +kernel
theorem dM_find_110 : decode cM_find 110 = .ok (.iadd, 1) := by decide +kernel
theorem dM_find_111 : decode cM_find 111 = .ok (.iaload, 1) := by decide +kernel
theorem dM_find_112 : decode cM_find 112 = .ok (.istore 7, 2) := by decide +kernel
theorem dM_find_114 : decode cM_find 114 = .ok (.iload 5, 2) := by decide +kernel
theorem dM_find_116 : decode cM_find 116 = .ok (.iload 7, 2) := by decide +kernel
theorem dM_find_118 : decode cM_find 118 = .ok (.if_icmp .ge 28, 3) := by decide +kernel
theorem dM_find_121 : decode cM_find 121 = .ok (.aload_n 0, 1) := by decide +kernel
theorem dM_find_122 : decode cM_find 122 = .ok (.aload_n 0, 1) := by decide +kernel
theorem dM_find_123 : decode cM_find 123 = .ok (.getfield 31, 3) := by decide +kernel
theorem dM_find_126 : decode cM_find 126 = .ok (.aload_n 0, 1) := by decide +kernel
theorem dM_find_127 : decode cM_find 127 = .ok (.getfield 101, 3) := by decide +kernel
theorem dM_find_130 : decode cM_find 130 = .ok (.iaload, 1) := by decide +kernel
theorem dM_find_131 : decode cM_find 131 = .ok (.putfield 101, 3) := by decide +kernel
theorem dM_find_134 : decode cM_find 134 = .ok (.aload_n 0, 1) := by decide +kernel
theorem dM_find_135 : decode cM_find 135 = .ok (.getfield 22, 3) := by decide +kernel
theorem dM_find_138 : decode cM_find 138 = .ok (.iload 6, 2) := by decide +kernel
theorem dM_find_140 : decode cM_find 140 = .ok (.iaload, 1) := by decide +kernel
theorem dM_find_141 : decode cM_find 141 = .ok (.istore 4, 2) := by decide +kernel
theorem dM_find_143 : decode cM_find 143 = .ok (.goto 32, 3) := by decide +kernel
theorem dM_find_146 : decode cM_find 146 = .ok (.iload 5, 2) := by decide +kernel
theorem dM_find_148 : decode cM_find 148 = .ok (.iload 7, 2) := by decide +kernel
theorem dM_find_150 : decode cM_find 150 = .ok (.isub, 1) := by decide +kernel
theorem dM_find_151 : decode cM_find 151 = .ok (.istore 5, 2) := by decide +kernel
theorem dM_find_153 : decode cM_find 153 = .ok (.aload_n 0, 1) := by decide +kernel
theorem dM_find_154 : decode cM_find 154 = .ok (.aload_n 0, 1) := by decide +kernel
theorem dM_find_155 : decode cM_find 155 = .ok (.getfield 34, 3) := by decide +kernel
theorem dM_find_158 : decode cM_find 158 = .ok (.aload_n 0, 1) := by decide +kernel
theorem dM_find_159 : decode cM_find 159 = .ok (.getfield 101, 3) := by decide +kernel
theorem dM_find_162 : decode cM_find 162 = .ok (.iaload, 1) := by decide +kernel
theorem dM_find_163 : decode cM_find 163 = .ok (.putfield 101, 3) := by decide +kernel
theorem dM_find_166 : decode cM_find 166 = .ok (.aload_n 0, 1) := by decide +kernel
theorem dM_find_167 : decode cM_find 167 = .ok (.getfield 25, 3) := by decide +kernel
theorem dM_find_170 : decode cM_find 170 = .ok (.iload 6, 2) := by decide +kernel
theorem dM_find_172 : decode cM_find 172 = .ok (.iaload, 1) := by decide +kernel
theorem dM_find_173 : decode cM_find 173 = .ok (.istore 4, 2) := by decide +kernel
theorem dM_find_175 : decode cM_find 175 = .ok (.aload_n 0, 1) := by decide +kernel
theorem dM_find_176 : decode cM_find 176 = .ok (.aload_n 0, 1) := by decide +kernel
theorem dM_find_177 : decode cM_find 177 = .ok (.getfield 40, 3) := by decide +kernel
theorem dM_find_180 : decode cM_find 180 = .ok (.bipush 8, 2) := by decide +kernel
theorem dM_find_182 : decode cM_find 182 = .ok (.aload_n 0, 1) := by decide +kernel
theorem dM_find_183 : decode cM_find 183 = .ok (.getfield 101, 3) := by decide +kernel
theorem dM_find_186 : decode cM_find 186 = .ok (.imul, 1) := by decide +kernel
theorem dM_find_187 : decode cM_find 187 = .ok (.iload 4, 2) := by decide +kernel
theorem dM_find_189 : decode cM_find 189 = .ok (.iadd, 1) := by decide +kernel
theorem dM_find_190 : decode cM_find 190 = .ok (.iaload, 1) := by decide +kernel
theorem dM_find_191 : decode cM_find 191 = .ok (.putfield 104, 3) := by decide +kernel
theorem dM_find_194 : decode cM_find 194 = .ok (.goto (-168), 3) := by decide +kernel
theorem dM_find_197 : decode cM_find 197 = .ok (.return_, 1) := by decide +kernel
abbrev cM_cover : ByteArray := prog_5_method_23_code
abbrev yM_cover : MethodName := ⟨"CoverTreesModel", "cover", "(IIII)I"⟩
abbrev kM_cover : Cond := .code yM_cover cM_cover 7 (some .int)
abbrev wsM_cover : List Cond := kM_cover :: wB
theorem dM_cover_0 : decode cM_cover 0 = .ok (.aload_n 0, 1) := by decide +kernel
theorem dM_cover_1 : decode cM_cover 1 = .ok (.iload_n 1, 1) := by decide +kernel
theorem dM_cover_2 : decode cM_cover 2 = .ok (.iload_n 2, 1) := by decide +kernel
theorem dM_cover_3 : decode cM_cover 3 = .ok (.invokevirtual 97, 3) := by decide +kernel
theorem dM_cover_6 : decode cM_cover 6 = .ok (.ifCond .eq 17, 3) := by decide +kernel
theorem dM_cover_9 : decode cM_cover 9 = .ok (.iload 4, 2) := by decide +kernel
theorem dM_cover_11 : decode cM_cover 11 = .ok (.iconst 0, 1) := by decide +kernel
theorem dM_cover_12 : decode cM_cover 12 = .ok (.iconst 1, 1) := by decide +kernel
theorem dM_cover_13 : decode cM_cover 13 = .ok (.invokestatic 63, 3) := by decide +kernel
theorem dM_cover_16 : decode cM_cover 16 = .ok (.ifCond .eq 7, 3) := by decide +kernel
theorem dM_cover_19 : decode cM_cover 19 = .ok (.iconst 1, 1) := by decide +kernel
theorem dM_cover_20 : decode cM_cover 20 = .ok (.goto 4, 3) := by decide +kernel
theorem dM_cover_23 : decode cM_cover 23 = .ok (.iconst 0, 1) := by decide +kernel
theorem dM_cover_24 : decode cM_cover 24 = .ok (.istore 5, 2) := by decide +kernel
theorem dM_cover_26 : decode cM_cover 26 = .ok (.iload 5, 2) := by decide +kernel
theorem dM_cover_28 : decode cM_cover 28 = .ok (.ifCond .eq 17, 3) := by decide +kernel
theorem dM_cover_31 : decode cM_cover 31 = .ok (.aload_n 0, 1) := by decide +kernel
theorem dM_cover_32 : decode cM_cover 32 = .ok (.getfield 43, 3) := by decide +kernel
theorem dM_cover_35 : decode cM_cover 35 = .ok (.bipush 8, 2) := by decide +kernel
theorem dM_cover_37 : decode cM_cover 37 = .ok (.iload_n 1, 1) := by decide +kernel
theorem dM_cover_38 : decode cM_cover 38 = .ok (.imul, 1) := by decide +kernel
theorem dM_cover_39 : decode cM_cover 39 = .ok (.iload_n 2, 1) := by decide +kernel
theorem dM_cover_40 : decode cM_cover 40 = .ok (.iadd, 1) := by decide +kernel
theorem dM_cover_41 : decode cM_cover 41 = .ok (.iaload, 1) := by decide +kernel
theorem dM_cover_42 : decode cM_cover 42 = .ok (.goto 4, 3) := by decide +kernel
theorem dM_cover_45 : decode cM_cover 45 = .ok (.iconst 0, 1) := by decide +kernel
theorem dM_cover_46 : decode cM_cover 46 = .ok (.istore 6, 2) := by decide +kernel
theorem dM_cover_48 : decode cM_cover 48 = .ok (.aload_n 0, 1) := by decide +kernel
theorem dM_cover_49 : decode cM_cover 49 = .ok (.iload 5, 2) := by decide +kernel
theorem dM_cover_51 : decode cM_cover 51 = .ok (.ifCond .ne 7, 3) := by decide +kernel
theorem dM_cover_54 : decode cM_cover 54 = .ok (.iconst 1, 1) := by decide +kernel
theorem dM_cover_55 : decode cM_cover 55 = .ok (.goto 4, 3) := by decide +kernel
theorem dM_cover_58 : decode cM_cover 58 = .ok (.iconst 0, 1) := by decide +kernel
theorem dM_cover_59 : decode cM_cover 59 = .ok (.iload 5, 2) := by decide +kernel
theorem dM_cover_61 : decode cM_cover 61 = .ok (.ifCond .eq 15, 3) := by decide +kernel
theorem dM_cover_64 : decode cM_cover 64 = .ok (.iload 6, 2) := by decide +kernel
theorem dM_cover_66 : decode cM_cover 66 = .ok (.sipush 2000, 3) := by decide +kernel
theorem dM_cover_69 : decode cM_cover 69 = .ok (.if_icmp .le 7, 3) := by decide +kernel
theorem dM_cover_72 : decode cM_cover 72 = .ok (.iconst 1, 1) := by decide +kernel
theorem dM_cover_73 : decode cM_cover 73 = .ok (.goto 4, 3) := by decide +kernel
theorem dM_cover_76 : decode cM_cover 76 = .ok (.iconst 0, 1) := by decide +kernel
theorem dM_cover_77 : decode cM_cover 77 = .ok (.iload 5, 2) := by decide +kernel
theorem dM_cover_79 : decode cM_cover 79 = .ok (.ifCond .eq 19, 3) := by decide +kernel
theorem dM_cover_82 : decode cM_cover 82 = .ok (.iload_n 3, 1) := by decide +kernel
theorem dM_cover_83 : decode cM_cover 83 = .ok (.iconst 0, 1) := by decide +kernel
theorem dM_cover_84 : decode cM_cover 84 = .ok (.iload 6, 2) := by decide +kernel
theorem dM_cover_86 : decode cM_cover 86 = .ok (.iconst 1, 1) := by decide +kernel
theorem dM_cover_87 : decode cM_cover 87 = .ok (.isub, 1) := by decide +kernel
theorem dM_cover_88 : decode cM_cover 88 = .ok (.invokestatic 63, 3) := by decide +kernel
theorem dM_cover_91 : decode cM_cover 91 = .ok (.ifCond .ne 7, 3) := by decide +kernel
theorem dM_cover_94 : decode cM_cover 94 = .ok (.iconst 1, 1) := by decide +kernel
theorem dM_cover_95 : decode cM_cover 95 = .ok (.goto 4, 3) := by decide +kernel
theorem dM_cover_98 : decode cM_cover 98 = .ok (.iconst 0, 1) := by decide +kernel
theorem dM_cover_99 : decode cM_cover 99 = .ok (.invokevirtual 67, 3) := by decide +kernel
theorem dM_cover_102 : decode cM_cover 102 = .ok (.ifCond .eq 5, 3) := by decide +kernel
theorem dM_cover_105 : decode cM_cover 105 = .ok (.iconst 0, 1) := by decide +kernel
theorem dM_cover_106 : decode cM_cover 106 = .ok (.ireturn, 1) := by decide +kernel
theorem dM_cover_107 : decode cM_cover 107 = .ok (.aload_n 0, 1) := by decide +kernel
theorem dM_cover_108 : decode cM_cover 108 = .ok (.iload_n 1, 1) := by decide +kernel
theorem dM_cover_109 : decode cM_cover 109 = .ok (.iload_n 2, 1) := by decide +kernel
theorem dM_cover_110 : decode cM_cover 110 = .ok (.iload_n 3, 1) := by decide +kernel
theorem dM_cover_111 : decode cM_cover 111 = .ok (.invokevirtual 107, 3) := by decide +kernel
theorem dM_cover_114 : decode cM_cover 114 = .ok (.iload 4, 2) := by decide +kernel
theorem dM_cover_116 : decode cM_cover 116 = .ok (.ifCond .ne 10, 3) := by decide +kernel
theorem dM_cover_119 : decode cM_cover 119 = .ok (.aload_n 0, 1) := by decide +kernel
theorem dM_cover_120 : decode cM_cover 120 = .ok (.getfield 104, 3) := by decide +kernel
theorem dM_cover_123 : decode cM_cover 123 = .ok (.goto 7, 3) := by decide +kernel
theorem dM_cover_126 : decode cM_cover 126 = .ok (.aload_n 0, 1) := by decide +kernel
theorem dM_cover_127 : decode cM_cover 127 = .ok (.getfield 101, 3) := by decide +kernel
theorem dM_cover_130 : decode cM_cover 130 = .ok (.ireturn, 1) := by decide +kernel
abbrev cM_leastCost : ByteArray := prog_5_method_24_code
abbrev yM_leastCost : MethodName := ⟨"CoverTreesModel", "leastCost", "(I)I"⟩
abbrev kM_leastCost : Cond := .code yM_leastCost cM_leastCost 5 (some .int)
abbrev wsM_leastCost : List Cond := kM_leastCost :: wB
theorem dM_leastCost_0 : decode cM_leastCost 0 = .ok (.iconst (-1), 1) := by decide +kernel
theorem dM_leastCost_1 : decode cM_leastCost 1 = .ok (.istore_n 2, 1) := by decide +kernel
theorem dM_leastCost_2 : decode cM_leastCost 2 = .ok (.iconst 0, 1) := by decide +kernel
theorem dM_leastCost_3 : decode cM_leastCost 3 = .ok (.istore_n 3, 1) := by decide +kernel
theorem dM_leastCost_4 : decode cM_leastCost 4 = .ok (.iload_n 3, 1) := by decide +kernel
theorem dM_leastCost_5 : decode cM_leastCost 5 = .ok (.bipush 8, 2) := by decide +kernel
theorem dM_leastCost_7 : decode cM_leastCost 7 = .ok (.if_icmp .ge 44, 3) := by decide +kernel
theorem dM_leastCost_10 : decode cM_leastCost 10 = .ok (.aload_n 0, 1) := by decide +kernel
theorem dM_leastCost_11 : decode cM_leastCost 11 = .ok (.getfield 37, 3) := by decide +kernel
theorem dM_leastCost_14 : decode cM_leastCost 14 = .ok (.bipush 8, 2) := by decide +kernel
theorem dM_leastCost_16 : decode cM_leastCost 16 = .ok (.iload_n 1, 1) := by decide +kernel
theorem dM_leastCost_17 : decode cM_leastCost 17 = .ok (.imul, 1) := by decide +kernel
theorem dM_leastCost_18 : decode cM_leastCost 18 = .ok (.iload_n 3, 1) := by decide +kernel
theorem dM_leastCost_19 : decode cM_leastCost 19 = .ok (.iadd, 1) := by decide +kernel
theorem dM_leastCost_20 : decode cM_leastCost 20 = .ok (.iaload, 1) := by decide +kernel
theorem dM_leastCost_21 : decode cM_leastCost 21 = .ok (.istore 4, 2) := by decide +kernel
theorem dM_leastCost_23 : decode cM_leastCost 23 = .ok (.iload 4, 2) := by decide +kernel
theorem dM_leastCost_25 : decode cM_leastCost 25 = .ok (.ifCond .lt 18, 3) := by decide +kernel
theorem dM_leastCost_28 : decode cM_leastCost 28 = .ok (.iload_n 2, 1) := by decide +kernel
theorem dM_leastCost_29 : decode cM_leastCost 29 = .ok (.ifCond .lt 9, 3) := by decide +kernel
theorem dM_leastCost_32 : decode cM_leastCost 32 = .ok (.iload 4, 2) := by decide +kernel
theorem dM_leastCost_34 : decode cM_leastCost 34 = .ok (.iload_n 2, 1) := by decide +kernel
theorem dM_leastCost_35 : decode cM_leastCost 35 = .ok (.if_icmp .ge 8, 3) := by decide +kernel
theorem dM_leastCost_38 : decode cM_leastCost 38 = .ok (.iload 4, 2) := by decide +kernel
theorem dM_leastCost_40 : decode cM_leastCost 40 = .ok (.goto 4, 3) := by decide +kernel
theorem dM_leastCost_43 : decode cM_leastCost 43 = .ok (.iload_n 2, 1) := by decide +kernel
theorem dM_leastCost_44 : decode cM_leastCost 44 = .ok (.istore_n 2, 1) := by decide +kernel
theorem dM_leastCost_45 : decode cM_leastCost 45 = .ok (.iinc 3 1, 3) := by decide +kernel
theorem dM_leastCost_48 : decode cM_leastCost 48 = .ok (.goto (-44), 3) := by decide +kernel
theorem dM_leastCost_51 : decode cM_leastCost 51 = .ok (.iload_n 2, 1) := by decide +kernel
theorem dM_leastCost_52 : decode cM_leastCost 52 = .ok (.ireturn, 1) := by decide +kernel
abbrev cM_isAlike : ByteArray := prog_5_method_25_code
abbrev yM_isAlike : MethodName := ⟨"CoverTreesModel", "isAlike", "(II)Z"⟩
abbrev kM_isAlike : Cond := .code yM_isAlike cM_isAlike 9 (some .boolean)
abbrev wsM_isAlike : List Cond := kM_isAlike :: wB
theorem dM_isAlike_0 : decode cM_isAlike 0 = .ok (.iconst 1, 1) := by decide +kernel
theorem dM_isAlike_1 : decode cM_isAlike 1 = .ok (.istore_n 3, 1) := by decide +kernel
theorem dM_isAlike_2 : decode cM_isAlike 2 = .ok (.aload_n 0, 1) := by decide +kernel
theorem dM_isAlike_3 : decode cM_isAlike 3 = .ok (.iload_n 1, 1) := by decide +kernel
theorem dM_isAlike_4 : decode cM_isAlike 4 = .ok (.invokevirtual 111, 3) := by decide +kernel
theorem dM_isAlike_7 : decode cM_isAlike 7 = .ok (.istore 4, 2) := by decide +kernel
theorem dM_isAlike_9 : decode cM_isAlike 9 = .ok (.aload_n 0, 1) := by decide +kernel
theorem dM_isAlike_10 : decode cM_isAlike 10 = .ok (.iload_n 2, 1) := by decide +kernel
theorem dM_isAlike_11 : decode cM_isAlike 11 = .ok (.invokevirtual 111, 3) := by decide +kernel
theorem dM_isAlike_14 : decode cM_isAlike 14 = .ok (.istore 5, 2) := by decide +kernel
theorem dM_isAlike_16 : decode cM_isAlike 16 = .ok (.iconst 0, 1) := by decide +kernel
theorem dM_isAlike_17 : decode cM_isAlike 17 = .ok (.istore 6, 2) := by decide +kernel
theorem dM_isAlike_19 : decode cM_isAlike 19 = .ok (.iload 6, 2) := by decide +kernel
theorem dM_isAlike_21 : decode cM_isAlike 21 = .ok (.bipush 8, 2) := by decide +kernel
theorem dM_isAlike_23 : decode cM_isAlike 23 = .ok (.if_icmp .ge 115, 3) := by decide +kernel
theorem dM_isAlike_26 : decode cM_isAlike 26 = .ok (.aload_n 0, 1) := by decide +kernel
theorem dM_isAlike_27 : decode cM_isAlike 27 = .ok (.getfield 37, 3) := by decide +kernel
theorem dM_isAlike_30 : decode cM_isAlike 30 = .ok (.bipush 8, 2) := by decide +kernel
theorem dM_isAlike_32 : decode cM_isAlike 32 = .ok (.iload_n 1, 1) := by decide +kernel
theorem dM_isAlike_33 : decode cM_isAlike 33 = .ok (.imul, 1) := by decide +kernel
theorem dM_isAlike_34 : decode cM_isAlike 34 = .ok (.iload 6, 2) := by decide +kernel
theorem dM_isAlike_36 : decode cM_isAlike 36 = .ok (.iadd, 1) := by decide +kernel
theorem dM_isAlike_37 : decode cM_isAlike 37 = .ok (.iaload, 1) := by decide +kernel
theorem dM_isAlike_38 : decode cM_isAlike 38 = .ok (.istore 7, 2) := by decide +kernel
theorem dM_isAlike_40 : decode cM_isAlike 40 = .ok (.aload_n 0, 1) := by decide +kernel
theorem dM_isAlike_41 : decode cM_isAlike 41 = .ok (.getfield 37, 3) := by decide +kernel
theorem dM_isAlike_44 : decode cM_isAlike 44 = .ok (.bipush 8, 2) := by decide +kernel
theorem dM_isAlike_46 : decode cM_isAlike 46 = .ok (.iload_n 2, 1) := by decide +kernel
theorem dM_isAlike_47 : decode cM_isAlike 47 = .ok (.imul, 1) := by decide +kernel
theorem dM_isAlike_48 : decode cM_isAlike 48 = .ok (.iload 6, 2) := by decide +kernel
theorem dM_isAlike_50 : decode cM_isAlike 50 = .ok (.iadd, 1) := by decide +kernel
theorem dM_isAlike_51 : decode cM_isAlike 51 = .ok (.iaload, 1) := by decide +kernel
theorem dM_isAlike_52 : decode cM_isAlike 52 = .ok (.istore 8, 2) := by decide +kernel
theorem dM_isAlike_54 : decode cM_isAlike 54 = .ok (.iload_n 3, 1) := by decide +kernel
theorem dM_isAlike_55 : decode cM_isAlike 55 = .ok (.ifCond .eq 75, 3) := by decide +kernel
theorem dM_isAlike_58 : decode cM_isAlike 58 = .ok (.iload 7, 2) := by decide +kernel
theorem dM_isAlike_60 : decode cM_isAlike 60 = .ok (.ifCond .lt 7, 3) := by decide +kernel
theorem dM_isAlike_63 : decode cM_isAlike 63 = .ok (.iconst 1, 1) := by decide +kernel
theorem dM_isAlike_64 : decode cM_isAlike 64 = .ok (.goto 4, 3) := by decide +kernel
theorem dM_isAlike_67 : decode cM_isAlike 67 = .ok (.iconst 0, 1) := by decide +kernel
theorem dM_isAlike_68 : decode cM_isAlike 68 = .ok (.iload 8, 2) := by decide +kernel
theorem dM_isAlike_70 : decode cM_isAlike 70 = .ok (.ifCond .lt 7, 3) := by decide +kernel
theorem dM_isAlike_73 : decode cM_isAlike 73 = .ok (.iconst 1, 1) := by decide +kernel
theorem dM_isAlike_74 : decode cM_isAlike 74 = .ok (.goto 4, 3) := by decide +kernel
theorem dM_isAlike_77 : decode cM_isAlike 77 = .ok (.iconst 0, 1) := by decide +kernel
theorem dM_isAlike_78 : decode cM_isAlike 78 = .ok (.if_icmp .ne 52, 3) := by decide +kernel
theorem dM_isAlike_81 : decode cM_isAlike 81 = .ok (.iload 7, 2) := by decide +kernel
theorem dM_isAlike_83 : decode cM_isAlike 83 = .ok (.ifCond .lt 43, 3) := by decide +kernel
theorem dM_isAlike_86 : decode cM_isAlike 86 = .ok (.iload 7, 2) := by decide +kernel
theorem dM_isAlike_88 : decode cM_isAlike 88 = .ok (.iload 4, 2) := by decide +kernel
theorem dM_isAlike_90 : decode cM_isAlike 90 = .ok (.isub, 1) := by decide +kernel
theorem dM_isAlike_91 : decode cM_isAlike 91 = .ok (.iload 8, 2) := by decide +kernel
theorem dM_isAlike_93 : decode cM_isAlike 93 = .ok (.iload 5, 2) := by decide +kernel
theorem dM_isAlike_95 : decode cM_isAlike 95 = .ok (.isub, 1) := by decide +kernel
theorem dM_isAlike_96 : decode cM_isAlike 96 = .ok (.if_icmp .ne 34, 3) := by decide +kernel
theorem dM_isAlike_99 : decode cM_isAlike 99 = .ok (.aload_n 0, 1) := by decide +kernel
theorem dM_isAlike_100 : decode cM_isAlike 100 = .ok (.getfield 40, 3) := by decide +kernel
theorem dM_isAlike_103 : decode cM_isAlike 103 = .ok (.bipush 8, 2) := by decide +kernel
theorem dM_isAlike_105 : decode cM_isAlike 105 = .ok (.iload_n 1, 1) := by decide +kernel
theorem dM_isAlike_106 : decode cM_isAlike 106 = .ok (.imul, 1) := by decide +kernel
theorem dM_isAlike_107 : decode cM_isAlike 107 = .ok (.iload 6, 2) := by decide +kernel
theorem dM_isAlike_109 : decode cM_isAlike 109 = .ok (.iadd, 1) := by decide +kernel
theorem dM_isAlike_110 : decode cM_isAlike 110 = .ok (.iaload, 1) := by decide +kernel
theorem dM_isAlike_111 : decode cM_isAlike 111 = .ok (.aload_n 0, 1) := by decide +kernel
theorem dM_isAlike_112 : decode cM_isAlike 112 = .ok (.getfield 40, 3) := by decide +kernel
theorem dM_isAlike_115 : decode cM_isAlike 115 = .ok (.bipush 8, 2) := by decide +kernel
theorem dM_isAlike_117 : decode cM_isAlike 117 = .ok (.iload_n 2, 1) := by decide +kernel
theorem dM_isAlike_118 : decode cM_isAlike 118 = .ok (.imul, 1) := by decide +kernel
theorem dM_isAlike_119 : decode cM_isAlike 119 = .ok (.iload 6, 2) := by decide +kernel
theorem dM_isAlike_121 : decode cM_isAlike 121 = .ok (.iadd, 1) := by decide +kernel
theorem dM_isAlike_122 : decode cM_isAlike 122 = .ok (.iaload, 1) := by decide +kernel
theorem dM_isAlike_123 : decode cM_isAlike 123 = .ok (.if_icmp .ne 7, 3) := by decide +kernel
theorem dM_isAlike_126 : decode cM_isAlike 126 = .ok (.iconst 1, 1) := by decide +kernel
theorem dM_isAlike_127 : decode cM_isAlike 127 = .ok (.goto 4, 3) := by decide +kernel
theorem dM_isAlike_130 : decode cM_isAlike 130 = .ok (.iconst 0, 1) := by decide +kernel
theorem dM_isAlike_131 : decode cM_isAlike 131 = .ok (.istore_n 3, 1) := by decide +kernel
theorem dM_isAlike_132 : decode cM_isAlike 132 = .ok (.iinc 6 1, 3) := by decide +kernel
theorem dM_isAlike_135 : decode cM_isAlike 135 = .ok (.goto (-116), 3) := by decide +kernel
theorem dM_isAlike_138 : decode cM_isAlike 138 = .ok (.iload_n 3, 1) := by decide +kernel
theorem dM_isAlike_139 : decode cM_isAlike 139 = .ok (.ireturn, 1) := by decide +kernel
abbrev cM_likeOf : ByteArray := prog_5_method_26_code
abbrev yM_likeOf : MethodName := ⟨"CoverTreesModel", "likeOf", "(I)I"⟩
abbrev kM_likeOf : Cond := .code yM_likeOf cM_likeOf 3 (some .int)
abbrev wsM_likeOf : List Cond := kM_likeOf :: wB
theorem dM_likeOf_0 : decode cM_likeOf 0 = .ok (.iconst 0, 1) := by decide +kernel
theorem dM_likeOf_1 : decode cM_likeOf 1 = .ok (.istore_n 2, 1) := by decide +kernel
theorem dM_likeOf_2 : decode cM_likeOf 2 = .ok (.aload_n 0, 1) := by decide +kernel
theorem dM_likeOf_3 : decode cM_likeOf 3 = .ok (.iload_n 1, 1) := by decide +kernel
theorem dM_likeOf_4 : decode cM_likeOf 4 = .ok (.iload_n 2, 1) := by decide +kernel
theorem dM_likeOf_5 : decode cM_likeOf 5 = .ok (.invokevirtual 115, 3) := by decide +kernel
theorem dM_likeOf_8 : decode cM_likeOf 8 = .ok (.ifCond .ne 9, 3) := by decide +kernel
theorem dM_likeOf_11 : decode cM_likeOf 11 = .ok (.iinc 2 1, 3) := by decide +kernel
theorem dM_likeOf_14 : decode cM_likeOf 14 = .ok (.goto (-12), 3) := by decide +kernel
theorem dM_likeOf_17 : decode cM_likeOf 17 = .ok (.iload_n 2, 1) := by decide +kernel
theorem dM_likeOf_18 : decode cM_likeOf 18 = .ok (.ireturn, 1) := by decide +kernel
abbrev cM_like : ByteArray := prog_5_method_27_code
abbrev yM_like : MethodName := ⟨"CoverTreesModel", "like", "(I)I"⟩
abbrev kM_like : Cond := .code yM_like cM_like 2 (some .int)
abbrev wsM_like : List Cond := kM_like :: wB
theorem dM_like_0 : decode cM_like 0 = .ok (.aload_n 0, 1) := by decide +kernel
theorem dM_like_1 : decode cM_like 1 = .ok (.aload_n 0, 1) := by decide +kernel
theorem dM_like_2 : decode cM_like 2 = .ok (.iload_n 1, 1) := by decide +kernel
theorem dM_like_3 : decode cM_like 3 = .ok (.invokevirtual 86, 3) := by decide +kernel
theorem dM_like_6 : decode cM_like 6 = .ok (.ifCond .ne 7, 3) := by decide +kernel
theorem dM_like_9 : decode cM_like 9 = .ok (.iconst 1, 1) := by decide +kernel
theorem dM_like_10 : decode cM_like 10 = .ok (.goto 4, 3) := by decide +kernel
theorem dM_like_13 : decode cM_like 13 = .ok (.iconst 0, 1) := by decide +kernel
theorem dM_like_14 : decode cM_like 14 = .ok (.iconst 0, 1) := by decide +kernel
theorem dM_like_15 : decode cM_like 15 = .ok (.iconst 0, 1) := by decide +kernel
theorem dM_like_16 : decode cM_like 16 = .ok (.invokevirtual 67, 3) := by decide +kernel
theorem dM_like_19 : decode cM_like 19 = .ok (.ifCond .eq 7, 3) := by decide +kernel
theorem dM_like_22 : decode cM_like 22 = .ok (.iconst 0, 1) := by decide +kernel
theorem dM_like_23 : decode cM_like 23 = .ok (.goto 8, 3) := by decide +kernel
theorem dM_like_26 : decode cM_like 26 = .ok (.aload_n 0, 1) := by decide +kernel
theorem dM_like_27 : decode cM_like 27 = .ok (.iload_n 1, 1) := by decide +kernel
theorem dM_like_28 : decode cM_like 28 = .ok (.invokevirtual 118, 3) := by decide +kernel
theorem dM_like_31 : decode cM_like 31 = .ok (.ireturn, 1) := by decide +kernel
abbrev cM_states : ByteArray := prog_5_method_28_code
abbrev yM_states : MethodName := ⟨"CoverTreesModel", "states", "()I"⟩
abbrev kM_states : Cond := .code yM_states cM_states 3 (some .int)
abbrev wsM_states : List Cond := kM_states :: wB
theorem dM_states_0 : decode cM_states 0 = .ok (.aload_n 0, 1) := by decide +kernel
theorem dM_states_1 : decode cM_states 1 = .ok (.iconst 0, 1) := by decide +kernel
theorem dM_states_2 : decode cM_states 2 = .ok (.putfield 50, 3) := by decide +kernel
theorem dM_states_5 : decode cM_states 5 = .ok (.iconst 0, 1) := by decide +kernel
theorem dM_states_6 : decode cM_states 6 = .ok (.istore_n 1, 1) := by decide +kernel
theorem dM_states_7 : decode cM_states 7 = .ok (.iconst 0, 1) := by decide +kernel
theorem dM_states_8 : decode cM_states 8 = .ok (.istore_n 2, 1) := by decide +kernel
theorem dM_states_9 : decode cM_states 9 = .ok (.iload_n 2, 1) := by decide +kernel
theorem dM_states_10 : decode cM_states 10 = .ok (.aload_n 0, 1) := by decide +kernel
theorem dM_states_11 : decode cM_states 11 = .ok (.getfield 60, 3) := by decide +kernel
theorem dM_states_14 : decode cM_states 14 = .ok (.if_icmp .ge 26, 3) := by decide +kernel
theorem dM_states_17 : decode cM_states 17 = .ok (.aload_n 0, 1) := by decide +kernel
theorem dM_states_18 : decode cM_states 18 = .ok (.iload_n 2, 1) := by decide +kernel
theorem dM_states_19 : decode cM_states 19 = .ok (.invokevirtual 118, 3) := by decide +kernel
theorem dM_states_22 : decode cM_states 22 = .ok (.iload_n 2, 1) := by decide +kernel
theorem dM_states_23 : decode cM_states 23 = .ok (.if_icmp .ne 9, 3) := by decide +kernel
theorem dM_states_26 : decode cM_states 26 = .ok (.iload_n 1, 1) := by decide +kernel
theorem dM_states_27 : decode cM_states 27 = .ok (.iconst 1, 1) := by decide +kernel
theorem dM_states_28 : decode cM_states 28 = .ok (.iadd, 1) := by decide +kernel
theorem dM_states_29 : decode cM_states 29 = .ok (.goto 4, 3) := by decide +kernel
theorem dM_states_32 : decode cM_states 32 = .ok (.iload_n 1, 1) := by decide +kernel
theorem dM_states_33 : decode cM_states 33 = .ok (.istore_n 1, 1) := by decide +kernel
theorem dM_states_34 : decode cM_states 34 = .ok (.iinc 2 1, 3) := by decide +kernel
theorem dM_states_37 : decode cM_states 37 = .ok (.goto (-28), 3) := by decide +kernel
theorem dM_states_40 : decode cM_states 40 = .ok (.iload_n 1, 1) := by decide +kernel
theorem dM_states_41 : decode cM_states 41 = .ok (.ireturn, 1) := by decide +kernel
abbrev cL_operator : ByteArray := method_3_code
abbrev yL_operator : MethodName := ⟨"CoverTreesLaw", "operator", "(LCoverTrees;I[J)I"⟩
abbrev kL_operator : Cond := .codeWith yL_operator cL_operator 4 (some .int) [(0, 9, 12, 13), (0, 9, 15, 15)]
abbrev wsL_operator : List Cond := kL_operator :: wB
theorem dL_operator_0 : decode cL_operator 0 = .ok (.aload_n 2, 1) := by decide +kernel
theorem dL_operator_1 : decode cL_operator 1 = .ok (.iconst 0, 1) := by decide +kernel
theorem dL_operator_2 : decode cL_operator 2 = .ok (.aload_n 0, 1) := by decide +kernel
theorem dL_operator_3 : decode cL_operator 3 = .ok (.iload_n 1, 1) := by decide +kernel
theorem dL_operator_4 : decode cL_operator 4 = .ok (.invokevirtual 7, 3) := by decide +kernel
theorem dL_operator_7 : decode cL_operator 7 = .ok (.i2l, 1) := by decide +kernel
theorem dL_operator_8 : decode cL_operator 8 = .ok (.lastore, 1) := by decide +kernel
theorem dL_operator_9 : decode cL_operator 9 = .ok (.goto 9, 3) := by decide +kernel
theorem dL_operator_12 : decode cL_operator 12 = .ok (.astore_n 3, 1) := by decide +kernel
theorem dL_operator_13 : decode cL_operator 13 = .ok (.iconst 1, 1) := by decide +kernel
theorem dL_operator_14 : decode cL_operator 14 = .ok (.ireturn, 1) := by decide +kernel
theorem dL_operator_15 : decode cL_operator 15 = .ok (.astore_n 3, 1) := by decide +kernel
theorem dL_operator_16 : decode cL_operator 16 = .ok (.iconst 2, 1) := by decide +kernel
theorem dL_operator_17 : decode cL_operator 17 = .ok (.ireturn, 1) := by decide +kernel
theorem dL_operator_18 : decode cL_operator 18 = .ok (.iconst 0, 1) := by decide +kernel
theorem dL_operator_19 : decode cL_operator 19 = .ok (.ireturn, 1) := by decide +kernel
abbrev cL_base : ByteArray := method_4_code
abbrev yL_base : MethodName := ⟨"CoverTreesLaw", "base", "(LCoverTrees;IIIII[J)I"⟩
abbrev kL_base : Cond := .codeWith yL_base cL_base 8 (some .int) [(0, 16, 19, 13), (0, 16, 23, 15)]
abbrev wsL_base : List Cond := kL_base :: wB
theorem dL_base_0 : decode cL_base 0 = .ok (.aload 6, 2) := by decide +kernel
theorem dL_base_2 : decode cL_base 2 = .ok (.iconst 0, 1) := by decide +kernel
theorem dL_base_3 : decode cL_base 3 = .ok (.aload_n 0, 1) := by decide +kernel
theorem dL_base_4 : decode cL_base 4 = .ok (.iload_n 1, 1) := by decide +kernel
theorem dL_base_5 : decode cL_base 5 = .ok (.iload_n 2, 1) := by decide +kernel
theorem dL_base_6 : decode cL_base 6 = .ok (.iload_n 3, 1) := by decide +kernel
theorem dL_base_7 : decode cL_base 7 = .ok (.iload 4, 2) := by decide +kernel
theorem dL_base_9 : decode cL_base 9 = .ok (.iload 5, 2) := by decide +kernel
theorem dL_base_11 : decode cL_base 11 = .ok (.invokevirtual 17, 3) := by decide +kernel
theorem dL_base_14 : decode cL_base 14 = .ok (.i2l, 1) := by decide +kernel
theorem dL_base_15 : decode cL_base 15 = .ok (.lastore, 1) := by decide +kernel
theorem dL_base_16 : decode cL_base 16 = .ok (.goto 11, 3) := by decide +kernel
theorem dL_base_19 : decode cL_base 19 = .ok (.astore 7, 2) := by decide +kernel
theorem dL_base_21 : decode cL_base 21 = .ok (.iconst 1, 1) := by decide +kernel
theorem dL_base_22 : decode cL_base 22 = .ok (.ireturn, 1) := by decide +kernel
theorem dL_base_23 : decode cL_base 23 = .ok (.astore 7, 2) := by decide +kernel
theorem dL_base_25 : decode cL_base 25 = .ok (.iconst 2, 1) := by decide +kernel
theorem dL_base_26 : decode cL_base 26 = .ok (.ireturn, 1) := by decide +kernel
theorem dL_base_27 : decode cL_base 27 = .ok (.iconst 0, 1) := by decide +kernel
theorem dL_base_28 : decode cL_base 28 = .ok (.ireturn, 1) := by decide +kernel
abbrev cL_chain : ByteArray := method_5_code
abbrev yL_chain : MethodName := ⟨"CoverTreesLaw", "chain", "(LCoverTrees;III[J)I"⟩
abbrev kL_chain : Cond := .codeWith yL_chain cL_chain 6 (some .int) [(0, 12, 15, 13), (0, 12, 19, 15)]
abbrev wsL_chain : List Cond := kL_chain :: wB
theorem dL_chain_0 : decode cL_chain 0 = .ok (.aload 4, 2) := by decide +kernel
theorem dL_chain_2 : decode cL_chain 2 = .ok (.iconst 0, 1) := by decide +kernel
theorem dL_chain_3 : decode cL_chain 3 = .ok (.aload_n 0, 1) := by decide +kernel
theorem dL_chain_4 : decode cL_chain 4 = .ok (.iload_n 1, 1) := by decide +kernel
theorem dL_chain_5 : decode cL_chain 5 = .ok (.iload_n 2, 1) := by decide +kernel
theorem dL_chain_6 : decode cL_chain 6 = .ok (.iload_n 3, 1) := by decide +kernel
theorem dL_chain_7 : decode cL_chain 7 = .ok (.invokevirtual 21, 3) := by decide +kernel
theorem dL_chain_10 : decode cL_chain 10 = .ok (.i2l, 1) := by decide +kernel
theorem dL_chain_11 : decode cL_chain 11 = .ok (.lastore, 1) := by decide +kernel
theorem dL_chain_12 : decode cL_chain 12 = .ok (.goto 11, 3) := by decide +kernel
theorem dL_chain_15 : decode cL_chain 15 = .ok (.astore 5, 2) := by decide +kernel
theorem dL_chain_17 : decode cL_chain 17 = .ok (.iconst 1, 1) := by decide +kernel
theorem dL_chain_18 : decode cL_chain 18 = .ok (.ireturn, 1) := by decide +kernel
theorem dL_chain_19 : decode cL_chain 19 = .ok (.astore 5, 2) := by decide +kernel
theorem dL_chain_21 : decode cL_chain 21 = .ok (.iconst 2, 1) := by decide +kernel
theorem dL_chain_22 : decode cL_chain 22 = .ok (.ireturn, 1) := by decide +kernel
theorem dL_chain_23 : decode cL_chain 23 = .ok (.iconst 0, 1) := by decide +kernel
theorem dL_chain_24 : decode cL_chain 24 = .ok (.ireturn, 1) := by decide +kernel
abbrev cL_node : ByteArray := method_6_code
abbrev yL_node : MethodName := ⟨"CoverTreesLaw", "node", "(LCoverTrees;III[J)I"⟩
abbrev kL_node : Cond := .codeWith yL_node cL_node 6 (some .int) [(0, 12, 15, 13), (0, 12, 19, 15)]
abbrev wsL_node : List Cond := kL_node :: wB
theorem dL_node_0 : decode cL_node 0 = .ok (.aload 4, 2) := by decide +kernel
theorem dL_node_2 : decode cL_node 2 = .ok (.iconst 0, 1) := by decide +kernel
theorem dL_node_3 : decode cL_node 3 = .ok (.aload_n 0, 1) := by decide +kernel
theorem dL_node_4 : decode cL_node 4 = .ok (.iload_n 1, 1) := by decide +kernel
theorem dL_node_5 : decode cL_node 5 = .ok (.iload_n 2, 1) := by decide +kernel
theorem dL_node_6 : decode cL_node 6 = .ok (.iload_n 3, 1) := by decide +kernel
theorem dL_node_7 : decode cL_node 7 = .ok (.invokevirtual 25, 3) := by decide +kernel
theorem dL_node_10 : decode cL_node 10 = .ok (.i2l, 1) := by decide +kernel
theorem dL_node_11 : decode cL_node 11 = .ok (.lastore, 1) := by decide +kernel
theorem dL_node_12 : decode cL_node 12 = .ok (.goto 11, 3) := by decide +kernel
theorem dL_node_15 : decode cL_node 15 = .ok (.astore 5, 2) := by decide +kernel
theorem dL_node_17 : decode cL_node 17 = .ok (.iconst 1, 1) := by decide +kernel
theorem dL_node_18 : decode cL_node 18 = .ok (.ireturn, 1) := by decide +kernel
theorem dL_node_19 : decode cL_node 19 = .ok (.astore 5, 2) := by decide +kernel
theorem dL_node_21 : decode cL_node 21 = .ok (.iconst 2, 1) := by decide +kernel
theorem dL_node_22 : decode cL_node 22 = .ok (.ireturn, 1) := by decide +kernel
theorem dL_node_23 : decode cL_node 23 = .ok (.iconst 0, 1) := by decide +kernel
theorem dL_node_24 : decode cL_node 24 = .ok (.ireturn, 1) := by decide +kernel
abbrev cL_cost : ByteArray := method_7_code
abbrev yL_cost : MethodName := ⟨"CoverTreesLaw", "cost", "(LCoverTrees;II[J)I"⟩
abbrev kL_cost : Cond := .codeWith yL_cost cL_cost 5 (some .int) [(0, 10, 13, 13)]
abbrev wsL_cost : List Cond := kL_cost :: wB
theorem dL_cost_0 : decode cL_cost 0 = .ok (.aload_n 3, 1) := by decide +kernel
theorem dL_cost_1 : decode cL_cost 1 = .ok (.iconst 0, 1) := by decide +kernel
theorem dL_cost_2 : decode cL_cost 2 = .ok (.aload_n 0, 1) := by decide +kernel
theorem dL_cost_3 : decode cL_cost 3 = .ok (.iload_n 1, 1) := by decide +kernel
theorem dL_cost_4 : decode cL_cost 4 = .ok (.iload_n 2, 1) := by decide +kernel
theorem dL_cost_5 : decode cL_cost 5 = .ok (.invokevirtual 28, 3) := by decide +kernel
theorem dL_cost_8 : decode cL_cost 8 = .ok (.i2l, 1) := by decide +kernel
theorem dL_cost_9 : decode cL_cost 9 = .ok (.lastore, 1) := by decide +kernel
theorem dL_cost_10 : decode cL_cost 10 = .ok (.goto 7, 3) := by decide +kernel
theorem dL_cost_13 : decode cL_cost 13 = .ok (.astore 4, 2) := by decide +kernel
theorem dL_cost_15 : decode cL_cost 15 = .ok (.iconst 1, 1) := by decide +kernel
theorem dL_cost_16 : decode cL_cost 16 = .ok (.ireturn, 1) := by decide +kernel
theorem dL_cost_17 : decode cL_cost 17 = .ok (.iconst 0, 1) := by decide +kernel
theorem dL_cost_18 : decode cL_cost 18 = .ok (.ireturn, 1) := by decide +kernel
abbrev cL_rule : ByteArray := method_8_code
abbrev yL_rule : MethodName := ⟨"CoverTreesLaw", "rule", "(LCoverTrees;II[J)I"⟩
abbrev kL_rule : Cond := .codeWith yL_rule cL_rule 5 (some .int) [(0, 10, 13, 13)]
abbrev wsL_rule : List Cond := kL_rule :: wB
theorem dL_rule_0 : decode cL_rule 0 = .ok (.aload_n 3, 1) := by decide +kernel
theorem dL_rule_1 : decode cL_rule 1 = .ok (.iconst 0, 1) := by decide +kernel
theorem dL_rule_2 : decode cL_rule 2 = .ok (.aload_n 0, 1) := by decide +kernel
theorem dL_rule_3 : decode cL_rule 3 = .ok (.iload_n 1, 1) := by decide +kernel
theorem dL_rule_4 : decode cL_rule 4 = .ok (.iload_n 2, 1) := by decide +kernel
theorem dL_rule_5 : decode cL_rule 5 = .ok (.invokevirtual 32, 3) := by decide +kernel
theorem dL_rule_8 : decode cL_rule 8 = .ok (.i2l, 1) := by decide +kernel
theorem dL_rule_9 : decode cL_rule 9 = .ok (.lastore, 1) := by decide +kernel
theorem dL_rule_10 : decode cL_rule 10 = .ok (.goto 7, 3) := by decide +kernel
theorem dL_rule_13 : decode cL_rule 13 = .ok (.astore 4, 2) := by decide +kernel
theorem dL_rule_15 : decode cL_rule 15 = .ok (.iconst 1, 1) := by decide +kernel
theorem dL_rule_16 : decode cL_rule 16 = .ok (.ireturn, 1) := by decide +kernel
theorem dL_rule_17 : decode cL_rule 17 = .ok (.iconst 0, 1) := by decide +kernel
theorem dL_rule_18 : decode cL_rule 18 = .ok (.ireturn, 1) := by decide +kernel
abbrev cL_size : ByteArray := method_9_code
abbrev yL_size : MethodName := ⟨"CoverTreesLaw", "size", "(LCoverTrees;II[J)I"⟩
abbrev kL_size : Cond := .codeWith yL_size cL_size 5 (some .int) [(0, 10, 13, 13), (0, 10, 17, 15)]
abbrev wsL_size : List Cond := kL_size :: wB
theorem dL_size_0 : decode cL_size 0 = .ok (.aload_n 3, 1) := by decide +kernel
theorem dL_size_1 : decode cL_size 1 = .ok (.iconst 0, 1) := by decide +kernel
theorem dL_size_2 : decode cL_size 2 = .ok (.aload_n 0, 1) := by decide +kernel
theorem dL_size_3 : decode cL_size 3 = .ok (.iload_n 1, 1) := by decide +kernel
theorem dL_size_4 : decode cL_size 4 = .ok (.iload_n 2, 1) := by decide +kernel
theorem dL_size_5 : decode cL_size 5 = .ok (.invokevirtual 35, 3) := by decide +kernel
theorem dL_size_8 : decode cL_size 8 = .ok (.i2l, 1) := by decide +kernel
theorem dL_size_9 : decode cL_size 9 = .ok (.lastore, 1) := by decide +kernel
theorem dL_size_10 : decode cL_size 10 = .ok (.goto 11, 3) := by decide +kernel
theorem dL_size_13 : decode cL_size 13 = .ok (.astore 4, 2) := by decide +kernel
theorem dL_size_15 : decode cL_size 15 = .ok (.iconst 1, 1) := by decide +kernel
theorem dL_size_16 : decode cL_size 16 = .ok (.ireturn, 1) := by decide +kernel
theorem dL_size_17 : decode cL_size 17 = .ok (.astore 4, 2) := by decide +kernel
theorem dL_size_19 : decode cL_size 19 = .ok (.iconst 2, 1) := by decide +kernel
theorem dL_size_20 : decode cL_size 20 = .ok (.ireturn, 1) := by decide +kernel
theorem dL_size_21 : decode cL_size 21 = .ok (.iconst 0, 1) := by decide +kernel
theorem dL_size_22 : decode cL_size 22 = .ok (.ireturn, 1) := by decide +kernel
abbrev cL_cover : ByteArray := method_10_code
abbrev yL_cover : MethodName := ⟨"CoverTreesLaw", "cover", "(LCoverTrees;IIII[J)I"⟩
abbrev kL_cover : Cond := .codeWith yL_cover cL_cover 7 (some .int) [(0, 14, 17, 13), (0, 14, 21, 15), (0, 14, 25, 42)]
abbrev wsL_cover : List Cond := kL_cover :: wB
theorem dL_cover_0 : decode cL_cover 0 = .ok (.aload 5, 2) := by decide +kernel
theorem dL_cover_2 : decode cL_cover 2 = .ok (.iconst 0, 1) := by decide +kernel
theorem dL_cover_3 : decode cL_cover 3 = .ok (.aload_n 0, 1) := by decide +kernel
theorem dL_cover_4 : decode cL_cover 4 = .ok (.iload_n 1, 1) := by decide +kernel
theorem dL_cover_5 : decode cL_cover 5 = .ok (.iload_n 2, 1) := by decide +kernel
theorem dL_cover_6 : decode cL_cover 6 = .ok (.iload_n 3, 1) := by decide +kernel
theorem dL_cover_7 : decode cL_cover 7 = .ok (.iload 4, 2) := by decide +kernel
theorem dL_cover_9 : decode cL_cover 9 = .ok (.invokevirtual 38, 3) := by decide +kernel
theorem dL_cover_12 : decode cL_cover 12 = .ok (.i2l, 1) := by decide +kernel
theorem dL_cover_13 : decode cL_cover 13 = .ok (.lastore, 1) := by decide +kernel
theorem dL_cover_14 : decode cL_cover 14 = .ok (.goto 15, 3) := by decide +kernel
theorem dL_cover_17 : decode cL_cover 17 = .ok (.astore 6, 2) := by decide +kernel
theorem dL_cover_19 : decode cL_cover 19 = .ok (.iconst 1, 1) := by decide +kernel
theorem dL_cover_20 : decode cL_cover 20 = .ok (.ireturn, 1) := by decide +kernel
theorem dL_cover_21 : decode cL_cover 21 = .ok (.astore 6, 2) := by decide +kernel
theorem dL_cover_23 : decode cL_cover 23 = .ok (.iconst 2, 1) := by decide +kernel
theorem dL_cover_24 : decode cL_cover 24 = .ok (.ireturn, 1) := by decide +kernel
theorem dL_cover_25 : decode cL_cover 25 = .ok (.astore 6, 2) := by decide +kernel
theorem dL_cover_27 : decode cL_cover 27 = .ok (.iconst 3, 1) := by decide +kernel
theorem dL_cover_28 : decode cL_cover 28 = .ok (.ireturn, 1) := by decide +kernel
theorem dL_cover_29 : decode cL_cover 29 = .ok (.iconst 0, 1) := by decide +kernel
theorem dL_cover_30 : decode cL_cover 30 = .ok (.ireturn, 1) := by decide +kernel
abbrev cL_like : ByteArray := method_11_code
abbrev yL_like : MethodName := ⟨"CoverTreesLaw", "like", "(LCoverTrees;I[J)I"⟩
abbrev kL_like : Cond := .codeWith yL_like cL_like 4 (some .int) [(0, 9, 12, 13)]
abbrev wsL_like : List Cond := kL_like :: wB
theorem dL_like_0 : decode cL_like 0 = .ok (.aload_n 2, 1) := by decide +kernel
theorem dL_like_1 : decode cL_like 1 = .ok (.iconst 0, 1) := by decide +kernel
theorem dL_like_2 : decode cL_like 2 = .ok (.aload_n 0, 1) := by decide +kernel
theorem dL_like_3 : decode cL_like 3 = .ok (.iload_n 1, 1) := by decide +kernel
theorem dL_like_4 : decode cL_like 4 = .ok (.invokevirtual 44, 3) := by decide +kernel
theorem dL_like_7 : decode cL_like 7 = .ok (.i2l, 1) := by decide +kernel
theorem dL_like_8 : decode cL_like 8 = .ok (.lastore, 1) := by decide +kernel
theorem dL_like_9 : decode cL_like 9 = .ok (.goto 6, 3) := by decide +kernel
theorem dL_like_12 : decode cL_like 12 = .ok (.astore_n 3, 1) := by decide +kernel
theorem dL_like_13 : decode cL_like 13 = .ok (.iconst 1, 1) := by decide +kernel
theorem dL_like_14 : decode cL_like 14 = .ok (.ireturn, 1) := by decide +kernel
theorem dL_like_15 : decode cL_like 15 = .ok (.iconst 0, 1) := by decide +kernel
theorem dL_like_16 : decode cL_like 16 = .ok (.ireturn, 1) := by decide +kernel
abbrev cL_law : ByteArray := code
abbrev yL_law : MethodName := ⟨"CoverTreesLaw", "law", "([I)Z"⟩
abbrev kL_law : Cond := .code yL_law cL_law 7 (some .boolean)
abbrev wsL_law : List Cond := kL_law :: wB
theorem dL_law_0 : decode cL_law 0 = .ok (.new 8, 3) := by decide +kernel
theorem dL_law_3 : decode cL_law 3 = .ok (.dup, 1) := by decide +kernel
theorem dL_law_4 : decode cL_law 4 = .ok (.invokespecial 47, 3) := by decide +kernel
theorem dL_law_7 : decode cL_law 7 = .ok (.astore_n 1, 1) := by decide +kernel
theorem dL_law_8 : decode cL_law 8 = .ok (.new 48, 3) := by decide +kernel
theorem dL_law_11 : decode cL_law 11 = .ok (.dup, 1) := by decide +kernel
theorem dL_law_12 : decode cL_law 12 = .ok (.invokespecial 50, 3) := by decide +kernel
theorem dL_law_15 : decode cL_law 15 = .ok (.astore_n 2, 1) := by decide +kernel
theorem dL_law_16 : decode cL_law 16 = .ok (.iconst 1, 1) := by decide +kernel
theorem dL_law_17 : decode cL_law 17 = .ok (.newarray .long, 2) := by decide +kernel
theorem dL_law_19 : decode cL_law 19 = .ok (.astore_n 3, 1) := by decide +kernel
theorem dL_law_20 : decode cL_law 20 = .ok (.iconst 0, 1) := by decide +kernel
theorem dL_law_21 : decode cL_law 21 = .ok (.istore 4, 2) := by decide +kernel
theorem dL_law_23 : decode cL_law 23 = .ok (.iload 4, 2) := by decide +kernel
theorem dL_law_25 : decode cL_law 25 = .ok (.aload_n 0, 1) := by decide +kernel
theorem dL_law_26 : decode cL_law 26 = .ok (.arraylength, 1) := by decide +kernel
theorem dL_law_27 : decode cL_law 27 = .ok (.bipush 6, 2) := by decide +kernel
theorem dL_law_29 : decode cL_law 29 = .ok (.isub, 1) := by decide +kernel
theorem dL_law_30 : decode cL_law 30 = .ok (.if_icmp .gt 563, 3) := by decide +kernel
theorem dL_law_33 : decode cL_law 33 = .ok (.aload_n 0, 1) := by decide +kernel
theorem dL_law_34 : decode cL_law 34 = .ok (.iload 4, 2) := by decide +kernel
theorem dL_law_36 : decode cL_law 36 = .ok (.iaload, 1) := by decide +kernel
theorem dL_law_37 : decode cL_law 37 = .ok (.bipush 15, 2) := by decide +kernel
theorem dL_law_39 : decode cL_law 39 = .ok (.iand, 1) := by decide +kernel
theorem dL_law_40 : decode cL_law 40 = .ok (.tableswitch 547 0 11 #[64, 75, 86, 114, 190, 242, 294, 334, 374, 414, 506, 519], 64) := by decide +kernel
theorem dL_law_104 : decode cL_law 104 = .ok (.aload_n 1, 1) := by decide +kernel
theorem dL_law_105 : decode cL_law 105 = .ok (.invokevirtual 51, 3) := by decide +kernel
theorem dL_law_108 : decode cL_law 108 = .ok (.aload_n 2, 1) := by decide +kernel
theorem dL_law_109 : decode cL_law 109 = .ok (.invokevirtual 54, 3) := by decide +kernel
theorem dL_law_112 : decode cL_law 112 = .ok (.goto 475, 3) := by decide +kernel
theorem dL_law_115 : decode cL_law 115 = .ok (.aload_n 1, 1) := by decide +kernel
theorem dL_law_116 : decode cL_law 116 = .ok (.invokevirtual 55, 3) := by decide +kernel
theorem dL_law_119 : decode cL_law 119 = .ok (.aload_n 2, 1) := by decide +kernel
theorem dL_law_120 : decode cL_law 120 = .ok (.invokevirtual 58, 3) := by decide +kernel
theorem dL_law_123 : decode cL_law 123 = .ok (.goto 464, 3) := by decide +kernel
theorem dL_law_126 : decode cL_law 126 = .ok (.aload_n 1, 1) := by decide +kernel
theorem dL_law_127 : decode cL_law 127 = .ok (.aload_n 0, 1) := by decide +kernel
theorem dL_law_128 : decode cL_law 128 = .ok (.iload 4, 2) := by decide +kernel
theorem dL_law_130 : decode cL_law 130 = .ok (.iconst 1, 1) := by decide +kernel
theorem dL_law_131 : decode cL_law 131 = .ok (.iadd, 1) := by decide +kernel
theorem dL_law_132 : decode cL_law 132 = .ok (.iaload, 1) := by decide +kernel
theorem dL_law_133 : decode cL_law 133 = .ok (.aload_n 3, 1) := by decide +kernel
theorem dL_law_134 : decode cL_law 134 = .ok (.invokestatic 59, 3) := by decide +kernel
theorem dL_law_137 : decode cL_law 137 = .ok (.istore 5, 2) := by decide +kernel
theorem dL_law_139 : decode cL_law 139 = .ok (.aload_n 2, 1) := by decide +kernel
theorem dL_law_140 : decode cL_law 140 = .ok (.aload_n 0, 1) := by decide +kernel
theorem dL_law_141 : decode cL_law 141 = .ok (.iload 4, 2) := by decide +kernel
theorem dL_law_143 : decode cL_law 143 = .ok (.iconst 1, 1) := by decide +kernel
theorem dL_law_144 : decode cL_law 144 = .ok (.iadd, 1) := by decide +kernel
theorem dL_law_145 : decode cL_law 145 = .ok (.iaload, 1) := by decide +kernel
theorem dL_law_146 : decode cL_law 146 = .ok (.invokevirtual 64, 3) := by decide +kernel
theorem dL_law_149 : decode cL_law 149 = .ok (.istore 6, 2) := by decide +kernel
theorem dL_law_151 : decode cL_law 151 = .ok (.goto 436, 3) := by decide +kernel
theorem dL_law_154 : decode cL_law 154 = .ok (.aload_n 1, 1) := by decide +kernel
theorem dL_law_155 : decode cL_law 155 = .ok (.aload_n 0, 1) := by decide +kernel
theorem dL_law_156 : decode cL_law 156 = .ok (.iload 4, 2) := by decide +kernel
theorem dL_law_158 : decode cL_law 158 = .ok (.iconst 1, 1) := by decide +kernel
theorem dL_law_159 : decode cL_law 159 = .ok (.iadd, 1) := by decide +kernel
theorem dL_law_160 : decode cL_law 160 = .ok (.iaload, 1) := by decide +kernel
theorem dL_law_161 : decode cL_law 161 = .ok (.aload_n 0, 1) := by decide +kernel
theorem dL_law_162 : decode cL_law 162 = .ok (.iload 4, 2) := by decide +kernel
theorem dL_law_164 : decode cL_law 164 = .ok (.iconst 2, 1) := by decide +kernel
theorem dL_law_165 : decode cL_law 165 = .ok (.iadd, 1) := by decide +kernel
theorem dL_law_166 : decode cL_law 166 = .ok (.iaload, 1) := by decide +kernel
theorem dL_law_167 : decode cL_law 167 = .ok (.aload_n 0, 1) := by decide +kernel
theorem dL_law_168 : decode cL_law 168 = .ok (.iload 4, 2) := by decide +kernel
theorem dL_law_170 : decode cL_law 170 = .ok (.iconst 3, 1) := by decide +kernel
theorem dL_law_171 : decode cL_law 171 = .ok (.iadd, 1) := by decide +kernel
theorem dL_law_172 : decode cL_law 172 = .ok (.iaload, 1) := by decide +kernel
theorem dL_law_173 : decode cL_law 173 = .ok (.aload_n 0, 1) := by decide +kernel
theorem dL_law_174 : decode cL_law 174 = .ok (.iload 4, 2) := by decide +kernel
theorem dL_law_176 : decode cL_law 176 = .ok (.iconst 4, 1) := by decide +kernel
theorem dL_law_177 : decode cL_law 177 = .ok (.iadd, 1) := by decide +kernel
theorem dL_law_178 : decode cL_law 178 = .ok (.iaload, 1) := by decide +kernel
theorem dL_law_179 : decode cL_law 179 = .ok (.aload_n 0, 1) := by decide +kernel
theorem dL_law_180 : decode cL_law 180 = .ok (.iload 4, 2) := by decide +kernel
theorem dL_law_182 : decode cL_law 182 = .ok (.iconst 5, 1) := by decide +kernel
theorem dL_law_183 : decode cL_law 183 = .ok (.iadd, 1) := by decide +kernel
theorem dL_law_184 : decode cL_law 184 = .ok (.iaload, 1) := by decide +kernel
theorem dL_law_185 : decode cL_law 185 = .ok (.aload_n 3, 1) := by decide +kernel
theorem dL_law_186 : decode cL_law 186 = .ok (.invokestatic 65, 3) := by decide +kernel
theorem dL_law_189 : decode cL_law 189 = .ok (.istore 5, 2) := by decide +kernel
theorem dL_law_191 : decode cL_law 191 = .ok (.aload_n 2, 1) := by decide +kernel
theorem dL_law_192 : decode cL_law 192 = .ok (.aload_n 0, 1) := by decide +kernel
theorem dL_law_193 : decode cL_law 193 = .ok (.iload 4, 2) := by decide +kernel
theorem dL_law_195 : decode cL_law 195 = .ok (.iconst 1, 1) := by decide +kernel
theorem dL_law_196 : decode cL_law 196 = .ok (.iadd, 1) := by decide +kernel
theorem dL_law_197 : decode cL_law 197 = .ok (.iaload, 1) := by decide +kernel
theorem dL_law_198 : decode cL_law 198 = .ok (.aload_n 0, 1) := by decide +kernel
theorem dL_law_199 : decode cL_law 199 = .ok (.iload 4, 2) := by decide +kernel
theorem dL_law_201 : decode cL_law 201 = .ok (.iconst 2, 1) := by decide +kernel
theorem dL_law_202 : decode cL_law 202 = .ok (.iadd, 1) := by decide +kernel
theorem dL_law_203 : decode cL_law 203 = .ok (.iaload, 1) := by decide +kernel
theorem dL_law_204 : decode cL_law 204 = .ok (.aload_n 0, 1) := by decide +kernel
theorem dL_law_205 : decode cL_law 205 = .ok (.iload 4, 2) := by decide +kernel
theorem dL_law_207 : decode cL_law 207 = .ok (.iconst 3, 1) := by decide +kernel
theorem dL_law_208 : decode cL_law 208 = .ok (.iadd, 1) := by decide +kernel
theorem dL_law_209 : decode cL_law 209 = .ok (.iaload, 1) := by decide +kernel
theorem dL_law_210 : decode cL_law 210 = .ok (.aload_n 0, 1) := by decide +kernel
theorem dL_law_211 : decode cL_law 211 = .ok (.iload 4, 2) := by decide +kernel
theorem dL_law_213 : decode cL_law 213 = .ok (.iconst 4, 1) := by decide +kernel
theorem dL_law_214 : decode cL_law 214 = .ok (.iadd, 1) := by decide +kernel
theorem dL_law_215 : decode cL_law 215 = .ok (.iaload, 1) := by decide +kernel
theorem dL_law_216 : decode cL_law 216 = .ok (.aload_n 0, 1) := by decide +kernel
theorem dL_law_217 : decode cL_law 217 = .ok (.iload 4, 2) := by decide +kernel
theorem dL_law_219 : decode cL_law 219 = .ok (.iconst 5, 1) := by decide +kernel
theorem dL_law_220 : decode cL_law 220 = .ok (.iadd, 1) := by decide +kernel
theorem dL_law_221 : decode cL_law 221 = .ok (.iaload, 1) := by decide +kernel
theorem dL_law_222 : decode cL_law 222 = .ok (.invokevirtual 68, 3) := by decide +kernel
theorem dL_law_225 : decode cL_law 225 = .ok (.istore 6, 2) := by decide +kernel
theorem dL_law_227 : decode cL_law 227 = .ok (.goto 360, 3) := by decide +kernel
theorem dL_law_230 : decode cL_law 230 = .ok (.aload_n 1, 1) := by decide +kernel
theorem dL_law_231 : decode cL_law 231 = .ok (.aload_n 0, 1) := by decide +kernel
theorem dL_law_232 : decode cL_law 232 = .ok (.iload 4, 2) := by decide +kernel
theorem dL_law_234 : decode cL_law 234 = .ok (.iconst 1, 1) := by decide +kernel
theorem dL_law_235 : decode cL_law 235 = .ok (.iadd, 1) := by decide +kernel
theorem dL_law_236 : decode cL_law 236 = .ok (.iaload, 1) := by decide +kernel
theorem dL_law_237 : decode cL_law 237 = .ok (.aload_n 0, 1) := by decide +kernel
theorem dL_law_238 : decode cL_law 238 = .ok (.iload 4, 2) := by decide +kernel
theorem dL_law_240 : decode cL_law 240 = .ok (.iconst 2, 1) := by decide +kernel
theorem dL_law_241 : decode cL_law 241 = .ok (.iadd, 1) := by decide +kernel
theorem dL_law_242 : decode cL_law 242 = .ok (.iaload, 1) := by decide +kernel
theorem dL_law_243 : decode cL_law 243 = .ok (.aload_n 0, 1) := by decide +kernel
theorem dL_law_244 : decode cL_law 244 = .ok (.iload 4, 2) := by decide +kernel
theorem dL_law_246 : decode cL_law 246 = .ok (.iconst 3, 1) := by decide +kernel
theorem dL_law_247 : decode cL_law 247 = .ok (.iadd, 1) := by decide +kernel
theorem dL_law_248 : decode cL_law 248 = .ok (.iaload, 1) := by decide +kernel
theorem dL_law_249 : decode cL_law 249 = .ok (.aload_n 3, 1) := by decide +kernel
theorem dL_law_250 : decode cL_law 250 = .ok (.invokestatic 69, 3) := by decide +kernel
theorem dL_law_253 : decode cL_law 253 = .ok (.istore 5, 2) := by decide +kernel
theorem dL_law_255 : decode cL_law 255 = .ok (.aload_n 2, 1) := by decide +kernel
theorem dL_law_256 : decode cL_law 256 = .ok (.aload_n 0, 1) := by decide +kernel
theorem dL_law_257 : decode cL_law 257 = .ok (.iload 4, 2) := by decide +kernel
theorem dL_law_259 : decode cL_law 259 = .ok (.iconst 1, 1) := by decide +kernel
theorem dL_law_260 : decode cL_law 260 = .ok (.iadd, 1) := by decide +kernel
theorem dL_law_261 : decode cL_law 261 = .ok (.iaload, 1) := by decide +kernel
theorem dL_law_262 : decode cL_law 262 = .ok (.aload_n 0, 1) := by decide +kernel
theorem dL_law_263 : decode cL_law 263 = .ok (.iload 4, 2) := by decide +kernel
theorem dL_law_265 : decode cL_law 265 = .ok (.iconst 2, 1) := by decide +kernel
theorem dL_law_266 : decode cL_law 266 = .ok (.iadd, 1) := by decide +kernel
theorem dL_law_267 : decode cL_law 267 = .ok (.iaload, 1) := by decide +kernel
theorem dL_law_268 : decode cL_law 268 = .ok (.aload_n 0, 1) := by decide +kernel
theorem dL_law_269 : decode cL_law 269 = .ok (.iload 4, 2) := by decide +kernel
theorem dL_law_271 : decode cL_law 271 = .ok (.iconst 3, 1) := by decide +kernel
theorem dL_law_272 : decode cL_law 272 = .ok (.iadd, 1) := by decide +kernel
theorem dL_law_273 : decode cL_law 273 = .ok (.iaload, 1) := by decide +kernel
theorem dL_law_274 : decode cL_law 274 = .ok (.invokevirtual 72, 3) := by decide +kernel
theorem dL_law_277 : decode cL_law 277 = .ok (.istore 6, 2) := by decide +kernel
theorem dL_law_279 : decode cL_law 279 = .ok (.goto 308, 3) := by decide +kernel
theorem dL_law_282 : decode cL_law 282 = .ok (.aload_n 1, 1) := by decide +kernel
theorem dL_law_283 : decode cL_law 283 = .ok (.aload_n 0, 1) := by decide +kernel
theorem dL_law_284 : decode cL_law 284 = .ok (.iload 4, 2) := by decide +kernel
theorem dL_law_286 : decode cL_law 286 = .ok (.iconst 1, 1) := by decide +kernel
theorem dL_law_287 : decode cL_law 287 = .ok (.iadd, 1) := by decide +kernel
theorem dL_law_288 : decode cL_law 288 = .ok (.iaload, 1) := by decide +kernel
theorem dL_law_289 : decode cL_law 289 = .ok (.aload_n 0, 1) := by decide +kernel
theorem dL_law_290 : decode cL_law 290 = .ok (.iload 4, 2) := by decide +kernel
theorem dL_law_292 : decode cL_law 292 = .ok (.iconst 2, 1) := by decide +kernel
theorem dL_law_293 : decode cL_law 293 = .ok (.iadd, 1) := by decide +kernel
theorem dL_law_294 : decode cL_law 294 = .ok (.iaload, 1) := by decide +kernel
theorem dL_law_295 : decode cL_law 295 = .ok (.aload_n 0, 1) := by decide +kernel
theorem dL_law_296 : decode cL_law 296 = .ok (.iload 4, 2) := by decide +kernel
theorem dL_law_298 : decode cL_law 298 = .ok (.iconst 3, 1) := by decide +kernel
theorem dL_law_299 : decode cL_law 299 = .ok (.iadd, 1) := by decide +kernel
theorem dL_law_300 : decode cL_law 300 = .ok (.iaload, 1) := by decide +kernel
theorem dL_law_301 : decode cL_law 301 = .ok (.aload_n 3, 1) := by decide +kernel
theorem dL_law_302 : decode cL_law 302 = .ok (.invokestatic 73, 3) := by decide +kernel
theorem dL_law_305 : decode cL_law 305 = .ok (.istore 5, 2) := by decide +kernel
theorem dL_law_307 : decode cL_law 307 = .ok (.aload_n 2, 1) := by decide +kernel
theorem dL_law_308 : decode cL_law 308 = .ok (.aload_n 0, 1) := by decide +kernel
theorem dL_law_309 : decode cL_law 309 = .ok (.iload 4, 2) := by decide +kernel
theorem dL_law_311 : decode cL_law 311 = .ok (.iconst 1, 1) := by decide +kernel
theorem dL_law_312 : decode cL_law 312 = .ok (.iadd, 1) := by decide +kernel
theorem dL_law_313 : decode cL_law 313 = .ok (.iaload, 1) := by decide +kernel
theorem dL_law_314 : decode cL_law 314 = .ok (.aload_n 0, 1) := by decide +kernel
theorem dL_law_315 : decode cL_law 315 = .ok (.iload 4, 2) := by decide +kernel
theorem dL_law_317 : decode cL_law 317 = .ok (.iconst 2, 1) := by decide +kernel
theorem dL_law_318 : decode cL_law 318 = .ok (.iadd, 1) := by decide +kernel
theorem dL_law_319 : decode cL_law 319 = .ok (.iaload, 1) := by decide +kernel
theorem dL_law_320 : decode cL_law 320 = .ok (.aload_n 0, 1) := by decide +kernel
theorem dL_law_321 : decode cL_law 321 = .ok (.iload 4, 2) := by decide +kernel
theorem dL_law_323 : decode cL_law 323 = .ok (.iconst 3, 1) := by decide +kernel
theorem dL_law_324 : decode cL_law 324 = .ok (.iadd, 1) := by decide +kernel
theorem dL_law_325 : decode cL_law 325 = .ok (.iaload, 1) := by decide +kernel
theorem dL_law_326 : decode cL_law 326 = .ok (.invokevirtual 75, 3) := by decide +kernel
theorem dL_law_329 : decode cL_law 329 = .ok (.istore 6, 2) := by decide +kernel
theorem dL_law_331 : decode cL_law 331 = .ok (.goto 256, 3) := by decide +kernel
theorem dL_law_334 : decode cL_law 334 = .ok (.aload_n 1, 1) := by decide +kernel
theorem dL_law_335 : decode cL_law 335 = .ok (.aload_n 0, 1) := by decide +kernel
theorem dL_law_336 : decode cL_law 336 = .ok (.iload 4, 2) := by decide +kernel
theorem dL_law_338 : decode cL_law 338 = .ok (.iconst 1, 1) := by decide +kernel
theorem dL_law_339 : decode cL_law 339 = .ok (.iadd, 1) := by decide +kernel
theorem dL_law_340 : decode cL_law 340 = .ok (.iaload, 1) := by decide +kernel
theorem dL_law_341 : decode cL_law 341 = .ok (.aload_n 0, 1) := by decide +kernel
theorem dL_law_342 : decode cL_law 342 = .ok (.iload 4, 2) := by decide +kernel
theorem dL_law_344 : decode cL_law 344 = .ok (.iconst 2, 1) := by decide +kernel
theorem dL_law_345 : decode cL_law 345 = .ok (.iadd, 1) := by decide +kernel
theorem dL_law_346 : decode cL_law 346 = .ok (.iaload, 1) := by decide +kernel
theorem dL_law_347 : decode cL_law 347 = .ok (.aload_n 3, 1) := by decide +kernel
theorem dL_law_348 : decode cL_law 348 = .ok (.invokestatic 76, 3) := by decide +kernel
theorem dL_law_351 : decode cL_law 351 = .ok (.istore 5, 2) := by decide +kernel
theorem dL_law_353 : decode cL_law 353 = .ok (.aload_n 2, 1) := by decide +kernel
theorem dL_law_354 : decode cL_law 354 = .ok (.aload_n 0, 1) := by decide +kernel
theorem dL_law_355 : decode cL_law 355 = .ok (.iload 4, 2) := by decide +kernel
theorem dL_law_357 : decode cL_law 357 = .ok (.iconst 1, 1) := by decide +kernel
theorem dL_law_358 : decode cL_law 358 = .ok (.iadd, 1) := by decide +kernel
theorem dL_law_359 : decode cL_law 359 = .ok (.iaload, 1) := by decide +kernel
theorem dL_law_360 : decode cL_law 360 = .ok (.aload_n 0, 1) := by decide +kernel
theorem dL_law_361 : decode cL_law 361 = .ok (.iload 4, 2) := by decide +kernel
theorem dL_law_363 : decode cL_law 363 = .ok (.iconst 2, 1) := by decide +kernel
theorem dL_law_364 : decode cL_law 364 = .ok (.iadd, 1) := by decide +kernel
theorem dL_law_365 : decode cL_law 365 = .ok (.iaload, 1) := by decide +kernel
theorem dL_law_366 : decode cL_law 366 = .ok (.invokevirtual 79, 3) := by decide +kernel
theorem dL_law_369 : decode cL_law 369 = .ok (.istore 6, 2) := by decide +kernel
theorem dL_law_371 : decode cL_law 371 = .ok (.goto 216, 3) := by decide +kernel
theorem dL_law_374 : decode cL_law 374 = .ok (.aload_n 1, 1) := by decide +kernel
theorem dL_law_375 : decode cL_law 375 = .ok (.aload_n 0, 1) := by decide +kernel
theorem dL_law_376 : decode cL_law 376 = .ok (.iload 4, 2) := by decide +kernel
theorem dL_law_378 : decode cL_law 378 = .ok (.iconst 1, 1) := by decide +kernel
theorem dL_law_379 : decode cL_law 379 = .ok (.iadd, 1) := by decide +kernel
theorem dL_law_380 : decode cL_law 380 = .ok (.iaload, 1) := by decide +kernel
theorem dL_law_381 : decode cL_law 381 = .ok (.aload_n 0, 1) := by decide +kernel
theorem dL_law_382 : decode cL_law 382 = .ok (.iload 4, 2) := by decide +kernel
theorem dL_law_384 : decode cL_law 384 = .ok (.iconst 2, 1) := by decide +kernel
theorem dL_law_385 : decode cL_law 385 = .ok (.iadd, 1) := by decide +kernel
theorem dL_law_386 : decode cL_law 386 = .ok (.iaload, 1) := by decide +kernel
theorem dL_law_387 : decode cL_law 387 = .ok (.aload_n 3, 1) := by decide +kernel
theorem dL_law_388 : decode cL_law 388 = .ok (.invokestatic 80, 3) := by decide +kernel
theorem dL_law_391 : decode cL_law 391 = .ok (.istore 5, 2) := by decide +kernel
theorem dL_law_393 : decode cL_law 393 = .ok (.aload_n 2, 1) := by decide +kernel
theorem dL_law_394 : decode cL_law 394 = .ok (.aload_n 0, 1) := by decide +kernel
theorem dL_law_395 : decode cL_law 395 = .ok (.iload 4, 2) := by decide +kernel
theorem dL_law_397 : decode cL_law 397 = .ok (.iconst 1, 1) := by decide +kernel
theorem dL_law_398 : decode cL_law 398 = .ok (.iadd, 1) := by decide +kernel
theorem dL_law_399 : decode cL_law 399 = .ok (.iaload, 1) := by decide +kernel
theorem dL_law_400 : decode cL_law 400 = .ok (.aload_n 0, 1) := by decide +kernel
theorem dL_law_401 : decode cL_law 401 = .ok (.iload 4, 2) := by decide +kernel
theorem dL_law_403 : decode cL_law 403 = .ok (.iconst 2, 1) := by decide +kernel
theorem dL_law_404 : decode cL_law 404 = .ok (.iadd, 1) := by decide +kernel
theorem dL_law_405 : decode cL_law 405 = .ok (.iaload, 1) := by decide +kernel
theorem dL_law_406 : decode cL_law 406 = .ok (.invokevirtual 82, 3) := by decide +kernel
theorem dL_law_409 : decode cL_law 409 = .ok (.istore 6, 2) := by decide +kernel
theorem dL_law_411 : decode cL_law 411 = .ok (.goto 176, 3) := by decide +kernel
theorem dL_law_414 : decode cL_law 414 = .ok (.aload_n 1, 1) := by decide +kernel
theorem dL_law_415 : decode cL_law 415 = .ok (.aload_n 0, 1) := by decide +kernel
theorem dL_law_416 : decode cL_law 416 = .ok (.iload 4, 2) := by decide +kernel
theorem dL_law_418 : decode cL_law 418 = .ok (.iconst 1, 1) := by decide +kernel
theorem dL_law_419 : decode cL_law 419 = .ok (.iadd, 1) := by decide +kernel
theorem dL_law_420 : decode cL_law 420 = .ok (.iaload, 1) := by decide +kernel
theorem dL_law_421 : decode cL_law 421 = .ok (.aload_n 0, 1) := by decide +kernel
theorem dL_law_422 : decode cL_law 422 = .ok (.iload 4, 2) := by decide +kernel
theorem dL_law_424 : decode cL_law 424 = .ok (.iconst 2, 1) := by decide +kernel
theorem dL_law_425 : decode cL_law 425 = .ok (.iadd, 1) := by decide +kernel
theorem dL_law_426 : decode cL_law 426 = .ok (.iaload, 1) := by decide +kernel
theorem dL_law_427 : decode cL_law 427 = .ok (.aload_n 3, 1) := by decide +kernel
theorem dL_law_428 : decode cL_law 428 = .ok (.invokestatic 83, 3) := by decide +kernel
theorem dL_law_431 : decode cL_law 431 = .ok (.istore 5, 2) := by decide +kernel
theorem dL_law_433 : decode cL_law 433 = .ok (.aload_n 2, 1) := by decide +kernel
theorem dL_law_434 : decode cL_law 434 = .ok (.aload_n 0, 1) := by decide +kernel
theorem dL_law_435 : decode cL_law 435 = .ok (.iload 4, 2) := by decide +kernel
theorem dL_law_437 : decode cL_law 437 = .ok (.iconst 1, 1) := by decide +kernel
theorem dL_law_438 : decode cL_law 438 = .ok (.iadd, 1) := by decide +kernel
theorem dL_law_439 : decode cL_law 439 = .ok (.iaload, 1) := by decide +kernel
theorem dL_law_440 : decode cL_law 440 = .ok (.aload_n 0, 1) := by decide +kernel
theorem dL_law_441 : decode cL_law 441 = .ok (.iload 4, 2) := by decide +kernel
theorem dL_law_443 : decode cL_law 443 = .ok (.iconst 2, 1) := by decide +kernel
theorem dL_law_444 : decode cL_law 444 = .ok (.iadd, 1) := by decide +kernel
theorem dL_law_445 : decode cL_law 445 = .ok (.iaload, 1) := by decide +kernel
theorem dL_law_446 : decode cL_law 446 = .ok (.invokevirtual 85, 3) := by decide +kernel
theorem dL_law_449 : decode cL_law 449 = .ok (.istore 6, 2) := by decide +kernel
theorem dL_law_451 : decode cL_law 451 = .ok (.goto 136, 3) := by decide +kernel
theorem dL_law_454 : decode cL_law 454 = .ok (.aload_n 1, 1) := by decide +kernel
theorem dL_law_455 : decode cL_law 455 = .ok (.aload_n 0, 1) := by decide +kernel
theorem dL_law_456 : decode cL_law 456 = .ok (.iload 4, 2) := by decide +kernel
theorem dL_law_458 : decode cL_law 458 = .ok (.iconst 1, 1) := by decide +kernel
theorem dL_law_459 : decode cL_law 459 = .ok (.iadd, 1) := by decide +kernel
theorem dL_law_460 : decode cL_law 460 = .ok (.iaload, 1) := by decide +kernel
theorem dL_law_461 : decode cL_law 461 = .ok (.aload_n 0, 1) := by decide +kernel
theorem dL_law_462 : decode cL_law 462 = .ok (.iload 4, 2) := by decide +kernel
theorem dL_law_464 : decode cL_law 464 = .ok (.iconst 2, 1) := by decide +kernel
theorem dL_law_465 : decode cL_law 465 = .ok (.iadd, 1) := by decide +kernel
theorem dL_law_466 : decode cL_law 466 = .ok (.iaload, 1) := by decide +kernel
theorem dL_law_467 : decode cL_law 467 = .ok (.aload_n 0, 1) := by decide +kernel
theorem dL_law_468 : decode cL_law 468 = .ok (.iload 4, 2) := by decide +kernel
theorem dL_law_470 : decode cL_law 470 = .ok (.iconst 3, 1) := by decide +kernel
theorem dL_law_471 : decode cL_law 471 = .ok (.iadd, 1) := by decide +kernel
theorem dL_law_472 : decode cL_law 472 = .ok (.iaload, 1) := by decide +kernel
theorem dL_law_473 : decode cL_law 473 = .ok (.aload_n 0, 1) := by decide +kernel
theorem dL_law_474 : decode cL_law 474 = .ok (.iload 4, 2) := by decide +kernel
theorem dL_law_476 : decode cL_law 476 = .ok (.iconst 4, 1) := by decide +kernel
theorem dL_law_477 : decode cL_law 477 = .ok (.iadd, 1) := by decide +kernel
theorem dL_law_478 : decode cL_law 478 = .ok (.iaload, 1) := by decide +kernel
theorem dL_law_479 : decode cL_law 479 = .ok (.aload_n 3, 1) := by decide +kernel
theorem dL_law_480 : decode cL_law 480 = .ok (.invokestatic 86, 3) := by decide +kernel
theorem dL_law_483 : decode cL_law 483 = .ok (.istore 5, 2) := by decide +kernel
theorem dL_law_485 : decode cL_law 485 = .ok (.aload_n 2, 1) := by decide +kernel
theorem dL_law_486 : decode cL_law 486 = .ok (.aload_n 0, 1) := by decide +kernel
theorem dL_law_487 : decode cL_law 487 = .ok (.iload 4, 2) := by decide +kernel
theorem dL_law_489 : decode cL_law 489 = .ok (.iconst 1, 1) := by decide +kernel
theorem dL_law_490 : decode cL_law 490 = .ok (.iadd, 1) := by decide +kernel
theorem dL_law_491 : decode cL_law 491 = .ok (.iaload, 1) := by decide +kernel
theorem dL_law_492 : decode cL_law 492 = .ok (.aload_n 0, 1) := by decide +kernel
theorem dL_law_493 : decode cL_law 493 = .ok (.iload 4, 2) := by decide +kernel
theorem dL_law_495 : decode cL_law 495 = .ok (.iconst 2, 1) := by decide +kernel
theorem dL_law_496 : decode cL_law 496 = .ok (.iadd, 1) := by decide +kernel
theorem dL_law_497 : decode cL_law 497 = .ok (.iaload, 1) := by decide +kernel
theorem dL_law_498 : decode cL_law 498 = .ok (.aload_n 0, 1) := by decide +kernel
theorem dL_law_499 : decode cL_law 499 = .ok (.iload 4, 2) := by decide +kernel
theorem dL_law_501 : decode cL_law 501 = .ok (.iconst 3, 1) := by decide +kernel
theorem dL_law_502 : decode cL_law 502 = .ok (.iadd, 1) := by decide +kernel
theorem dL_law_503 : decode cL_law 503 = .ok (.iaload, 1) := by decide +kernel
theorem dL_law_504 : decode cL_law 504 = .ok (.aload_n 0, 1) := by decide +kernel
theorem dL_law_505 : decode cL_law 505 = .ok (.iload 4, 2) := by decide +kernel
theorem dL_law_507 : decode cL_law 507 = .ok (.iconst 4, 1) := by decide +kernel
theorem dL_law_508 : decode cL_law 508 = .ok (.iadd, 1) := by decide +kernel
theorem dL_law_509 : decode cL_law 509 = .ok (.iaload, 1) := by decide +kernel
theorem dL_law_510 : decode cL_law 510 = .ok (.invokevirtual 89, 3) := by decide +kernel
theorem dL_law_513 : decode cL_law 513 = .ok (.istore 6, 2) := by decide +kernel
theorem dL_law_515 : decode cL_law 515 = .ok (.aload_n 2, 1) := by decide +kernel
theorem dL_law_516 : decode cL_law 516 = .ok (.invokevirtual 90, 3) := by decide +kernel
theorem dL_law_519 : decode cL_law 519 = .ok (.iload 5, 2) := by decide +kernel
theorem dL_law_521 : decode cL_law 521 = .ok (.if_icmp .eq 5, 3) := by decide +kernel
theorem dL_law_524 : decode cL_law 524 = .ok (.iconst 0, 1) := by decide +kernel
theorem dL_law_525 : decode cL_law 525 = .ok (.ireturn, 1) := by decide +kernel
theorem dL_law_526 : decode cL_law 526 = .ok (.iload 5, 2) := by decide +kernel
theorem dL_law_528 : decode cL_law 528 = .ok (.ifCond .ne 15, 3) := by decide +kernel
theorem dL_law_531 : decode cL_law 531 = .ok (.aload_n 3, 1) := by decide +kernel
theorem dL_law_532 : decode cL_law 532 = .ok (.iconst 0, 1) := by decide +kernel
theorem dL_law_533 : decode cL_law 533 = .ok (.laload, 1) := by decide +kernel
theorem dL_law_534 : decode cL_law 534 = .ok (.iload 6, 2) := by decide +kernel
theorem dL_law_536 : decode cL_law 536 = .ok (.i2l, 1) := by decide +kernel
theorem dL_law_537 : decode cL_law 537 = .ok (.lcmp, 1) := by decide +kernel
theorem dL_law_538 : decode cL_law 538 = .ok (.ifCond .eq 5, 3) := by decide +kernel
theorem dL_law_541 : decode cL_law 541 = .ok (.iconst 0, 1) := by decide +kernel
theorem dL_law_542 : decode cL_law 542 = .ok (.ireturn, 1) := by decide +kernel
theorem dL_law_543 : decode cL_law 543 = .ok (.goto 44, 3) := by decide +kernel
theorem dL_law_546 : decode cL_law 546 = .ok (.aload_n 1, 1) := by decide +kernel
theorem dL_law_547 : decode cL_law 547 = .ok (.invokevirtual 94, 3) := by decide +kernel
theorem dL_law_550 : decode cL_law 550 = .ok (.pop, 1) := by decide +kernel
theorem dL_law_551 : decode cL_law 551 = .ok (.aload_n 2, 1) := by decide +kernel
theorem dL_law_552 : decode cL_law 552 = .ok (.invokevirtual 97, 3) := by decide +kernel
theorem dL_law_555 : decode cL_law 555 = .ok (.pop, 1) := by decide +kernel
theorem dL_law_556 : decode cL_law 556 = .ok (.goto 31, 3) := by decide +kernel
theorem dL_law_559 : decode cL_law 559 = .ok (.aload_n 1, 1) := by decide +kernel
theorem dL_law_560 : decode cL_law 560 = .ok (.aload_n 0, 1) := by decide +kernel
theorem dL_law_561 : decode cL_law 561 = .ok (.iload 4, 2) := by decide +kernel
theorem dL_law_563 : decode cL_law 563 = .ok (.iconst 1, 1) := by decide +kernel
theorem dL_law_564 : decode cL_law 564 = .ok (.iadd, 1) := by decide +kernel
theorem dL_law_565 : decode cL_law 565 = .ok (.iaload, 1) := by decide +kernel
theorem dL_law_566 : decode cL_law 566 = .ok (.aload_n 3, 1) := by decide +kernel
theorem dL_law_567 : decode cL_law 567 = .ok (.invokestatic 98, 3) := by decide +kernel
theorem dL_law_570 : decode cL_law 570 = .ok (.istore 5, 2) := by decide +kernel
theorem dL_law_572 : decode cL_law 572 = .ok (.aload_n 2, 1) := by decide +kernel
theorem dL_law_573 : decode cL_law 573 = .ok (.aload_n 0, 1) := by decide +kernel
theorem dL_law_574 : decode cL_law 574 = .ok (.iload 4, 2) := by decide +kernel
theorem dL_law_576 : decode cL_law 576 = .ok (.iconst 1, 1) := by decide +kernel
theorem dL_law_577 : decode cL_law 577 = .ok (.iadd, 1) := by decide +kernel
theorem dL_law_578 : decode cL_law 578 = .ok (.iaload, 1) := by decide +kernel
theorem dL_law_579 : decode cL_law 579 = .ok (.invokevirtual 100, 3) := by decide +kernel
theorem dL_law_582 : decode cL_law 582 = .ok (.istore 6, 2) := by decide +kernel
theorem dL_law_584 : decode cL_law 584 = .ok (.goto 3, 3) := by decide +kernel
theorem dL_law_587 : decode cL_law 587 = .ok (.iinc 4 6, 3) := by decide +kernel
theorem dL_law_590 : decode cL_law 590 = .ok (.goto (-567), 3) := by decide +kernel
theorem dL_law_593 : decode cL_law 593 = .ok (.iconst 1, 1) := by decide +kernel
theorem dL_law_594 : decode cL_law 594 = .ok (.ireturn, 1) := by decide +kernel
