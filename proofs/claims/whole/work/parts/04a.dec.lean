theorem dX0_init_0 : decode cX0_init 0 = .ok (.aload_n 0, 1) := by decide +kernel
theorem dX0_init_1 : decode cX0_init 1 = .ok (.invokespecial 3, 3) := by decide +kernel
theorem dX0_init_4 : decode cX0_init 4 = .ok (.aload_n 0, 1) := by decide +kernel
theorem dX0_init_5 : decode cX0_init 5 = .ok (.sipush 3010, 3) := by decide +kernel
theorem dX0_init_8 : decode cX0_init 8 = .ok (.newarray .int, 2) := by decide +kernel
theorem dX0_init_10 : decode cX0_init 10 = .ok (.putfield 9, 3) := by decide +kernel
theorem dX0_init_13 : decode cX0_init 13 = .ok (.aload_n 0, 1) := by decide +kernel
theorem dX0_init_14 : decode cX0_init 14 = .ok (.sipush 300, 3) := by decide +kernel
theorem dX0_init_17 : decode cX0_init 17 = .ok (.newarray .int, 2) := by decide +kernel
theorem dX0_init_19 : decode cX0_init 19 = .ok (.putfield 15, 3) := by decide +kernel
theorem dX0_init_22 : decode cX0_init 22 = .ok (.aload_n 0, 1) := by decide +kernel
theorem dX0_init_23 : decode cX0_init 23 = .ok (.sipush 300, 3) := by decide +kernel
theorem dX0_init_26 : decode cX0_init 26 = .ok (.newarray .int, 2) := by decide +kernel
theorem dX0_init_28 : decode cX0_init 28 = .ok (.putfield 18, 3) := by decide +kernel
theorem dX0_init_31 : decode cX0_init 31 = .ok (.aload_n 0, 1) := by decide +kernel
theorem dX0_init_32 : decode cX0_init 32 = .ok (.sipush 300, 3) := by decide +kernel
theorem dX0_init_35 : decode cX0_init 35 = .ok (.newarray .int, 2) := by decide +kernel
theorem dX0_init_37 : decode cX0_init 37 = .ok (.putfield 21, 3) := by decide +kernel
theorem dX0_init_40 : decode cX0_init 40 = .ok (.aload_n 0, 1) := by decide +kernel
theorem dX0_init_41 : decode cX0_init 41 = .ok (.sipush 2400, 3) := by decide +kernel
theorem dX0_init_44 : decode cX0_init 44 = .ok (.newarray .int, 2) := by decide +kernel
theorem dX0_init_46 : decode cX0_init 46 = .ok (.putfield 24, 3) := by decide +kernel
theorem dX0_init_49 : decode cX0_init 49 = .ok (.aload_n 0, 1) := by decide +kernel
theorem dX0_init_50 : decode cX0_init 50 = .ok (.sipush 1024, 3) := by decide +kernel
theorem dX0_init_53 : decode cX0_init 53 = .ok (.newarray .int, 2) := by decide +kernel
theorem dX0_init_55 : decode cX0_init 55 = .ok (.putfield 27, 3) := by decide +kernel
theorem dX0_init_58 : decode cX0_init 58 = .ok (.aload_n 0, 1) := by decide +kernel
theorem dX0_init_59 : decode cX0_init 59 = .ok (.sipush 301, 3) := by decide +kernel
theorem dX0_init_62 : decode cX0_init 62 = .ok (.newarray .int, 2) := by decide +kernel
theorem dX0_init_64 : decode cX0_init 64 = .ok (.putfield 30, 3) := by decide +kernel
theorem dX0_init_67 : decode cX0_init 67 = .ok (.aload_n 0, 1) := by decide +kernel
theorem dX0_init_68 : decode cX0_init 68 = .ok (.sipush 2400, 3) := by decide +kernel
theorem dX0_init_71 : decode cX0_init 71 = .ok (.newarray .int, 2) := by decide +kernel
theorem dX0_init_73 : decode cX0_init 73 = .ok (.putfield 33, 3) := by decide +kernel
theorem dX0_init_76 : decode cX0_init 76 = .ok (.aload_n 0, 1) := by decide +kernel
theorem dX0_init_77 : decode cX0_init 77 = .ok (.sipush 300, 3) := by decide +kernel
theorem dX0_init_80 : decode cX0_init 80 = .ok (.newarray .int, 2) := by decide +kernel
theorem dX0_init_82 : decode cX0_init 82 = .ok (.putfield 36, 3) := by decide +kernel
theorem dX0_init_85 : decode cX0_init 85 = .ok (.aload_n 0, 1) := by decide +kernel
theorem dX0_init_86 : decode cX0_init 86 = .ok (.sipush 300, 3) := by decide +kernel
theorem dX0_init_89 : decode cX0_init 89 = .ok (.newarray .int, 2) := by decide +kernel
theorem dX0_init_91 : decode cX0_init 91 = .ok (.putfield 39, 3) := by decide +kernel
theorem dX0_init_94 : decode cX0_init 94 = .ok (.aload_n 0, 1) := by decide +kernel
theorem dX0_init_95 : decode cX0_init 95 = .ok (.sipush 300, 3) := by decide +kernel
theorem dX0_init_98 : decode cX0_init 98 = .ok (.newarray .int, 2) := by decide +kernel
theorem dX0_init_100 : decode cX0_init 100 = .ok (.putfield 42, 3) := by decide +kernel
theorem dX0_init_103 : decode cX0_init 103 = .ok (.aload_n 0, 1) := by decide +kernel
theorem dX0_init_104 : decode cX0_init 104 = .ok (.iconst (-1), 1) := by decide +kernel
theorem dX0_init_105 : decode cX0_init 105 = .ok (.putfield 45, 3) := by decide +kernel
theorem dX0_init_108 : decode cX0_init 108 = .ok (.aload_n 0, 1) := by decide +kernel
theorem dX0_init_109 : decode cX0_init 109 = .ok (.iconst 0, 1) := by decide +kernel
theorem dX0_init_110 : decode cX0_init 110 = .ok (.putfield 49, 3) := by decide +kernel
theorem dX0_init_113 : decode cX0_init 113 = .ok (.aload_n 0, 1) := by decide +kernel
theorem dX0_init_114 : decode cX0_init 114 = .ok (.iconst 0, 1) := by decide +kernel
theorem dX0_init_115 : decode cX0_init 115 = .ok (.putfield 52, 3) := by decide +kernel
theorem dX0_init_118 : decode cX0_init 118 = .ok (.aload_n 0, 1) := by decide +kernel
theorem dX0_init_119 : decode cX0_init 119 = .ok (.iconst 0, 1) := by decide +kernel
theorem dX0_init_120 : decode cX0_init 120 = .ok (.putfield 56, 3) := by decide +kernel
theorem dX0_init_123 : decode cX0_init 123 = .ok (.aload_n 0, 1) := by decide +kernel
theorem dX0_init_124 : decode cX0_init 124 = .ok (.iconst 0, 1) := by decide +kernel
theorem dX0_init_125 : decode cX0_init 125 = .ok (.putfield 59, 3) := by decide +kernel
theorem dX0_init_128 : decode cX0_init 128 = .ok (.aload_n 0, 1) := by decide +kernel
theorem dX0_init_129 : decode cX0_init 129 = .ok (.iconst (-1), 1) := by decide +kernel
theorem dX0_init_130 : decode cX0_init 130 = .ok (.putfield 62, 3) := by decide +kernel
theorem dX0_init_133 : decode cX0_init 133 = .ok (.aload_n 0, 1) := by decide +kernel
theorem dX0_init_134 : decode cX0_init 134 = .ok (.iconst (-1), 1) := by decide +kernel
theorem dX0_init_135 : decode cX0_init 135 = .ok (.putfield 65, 3) := by decide +kernel
theorem dX0_init_138 : decode cX0_init 138 = .ok (.return_, 1) := by decide +kernel
theorem dX0_grow_0 : decode cX0_grow 0 = .ok (.aload_n 0, 1) := by decide +kernel
theorem dX0_grow_1 : decode cX0_grow 1 = .ok (.getfield 45, 3) := by decide +kernel
theorem dX0_grow_4 : decode cX0_grow 4 = .ok (.iload_n 2, 1) := by decide +kernel
theorem dX0_grow_5 : decode cX0_grow 5 = .ok (.if_icmp .ne 4, 3) := by decide +kernel
theorem dX0_grow_8 : decode cX0_grow 8 = .ok (.return_, 1) := by decide +kernel
theorem dX0_grow_9 : decode cX0_grow 9 = .ok (.aload_n 0, 1) := by decide +kernel
theorem dX0_grow_10 : decode cX0_grow 10 = .ok (.iload_n 2, 1) := by decide +kernel
theorem dX0_grow_11 : decode cX0_grow 11 = .ok (.putfield 45, 3) := by decide +kernel
theorem dX0_grow_14 : decode cX0_grow 14 = .ok (.aload_n 0, 1) := by decide +kernel
theorem dX0_grow_15 : decode cX0_grow 15 = .ok (.iconst 0, 1) := by decide +kernel
theorem dX0_grow_16 : decode cX0_grow 16 = .ok (.putfield 49, 3) := by decide +kernel
theorem dX0_grow_19 : decode cX0_grow 19 = .ok (.aload_n 0, 1) := by decide +kernel
theorem dX0_grow_20 : decode cX0_grow 20 = .ok (.iconst 0, 1) := by decide +kernel
theorem dX0_grow_21 : decode cX0_grow 21 = .ok (.putfield 52, 3) := by decide +kernel
theorem dX0_grow_24 : decode cX0_grow 24 = .ok (.aload_n 0, 1) := by decide +kernel
theorem dX0_grow_25 : decode cX0_grow 25 = .ok (.iconst 0, 1) := by decide +kernel
theorem dX0_grow_26 : decode cX0_grow 26 = .ok (.putfield 59, 3) := by decide +kernel
theorem dX0_grow_29 : decode cX0_grow 29 = .ok (.aload_n 0, 1) := by decide +kernel
theorem dX0_grow_30 : decode cX0_grow 30 = .ok (.iconst (-1), 1) := by decide +kernel
theorem dX0_grow_31 : decode cX0_grow 31 = .ok (.putfield 62, 3) := by decide +kernel
theorem dX0_grow_34 : decode cX0_grow 34 = .ok (.aload_n 0, 1) := by decide +kernel
theorem dX0_grow_35 : decode cX0_grow 35 = .ok (.iconst (-1), 1) := by decide +kernel
theorem dX0_grow_36 : decode cX0_grow 36 = .ok (.putfield 65, 3) := by decide +kernel
theorem dX0_grow_39 : decode cX0_grow 39 = .ok (.aload_n 0, 1) := by decide +kernel
theorem dX0_grow_40 : decode cX0_grow 40 = .ok (.getfield 27, 3) := by decide +kernel
theorem dX0_grow_43 : decode cX0_grow 43 = .ok (.iconst (-1), 1) := by decide +kernel
theorem dX0_grow_44 : decode cX0_grow 44 = .ok (.invokestatic 68, 3) := by decide +kernel
theorem dX0_grow_47 : decode cX0_grow 47 = .ok (.aload_n 1, 1) := by decide +kernel
theorem dX0_grow_48 : decode cX0_grow 48 = .ok (.getfield 74, 3) := by decide +kernel
theorem dX0_grow_51 : decode cX0_grow 51 = .ok (.iconst 0, 1) := by decide +kernel
theorem dX0_grow_52 : decode cX0_grow 52 = .ok (.aload_n 0, 1) := by decide +kernel
theorem dX0_grow_53 : decode cX0_grow 53 = .ok (.getfield 9, 3) := by decide +kernel
theorem dX0_grow_56 : decode cX0_grow 56 = .ok (.iconst 0, 1) := by decide +kernel
theorem dX0_grow_57 : decode cX0_grow 57 = .ok (.bipush 10, 2) := by decide +kernel
theorem dX0_grow_59 : decode cX0_grow 59 = .ok (.invokestatic 79, 3) := by decide +kernel
theorem dX0_grow_62 : decode cX0_grow 62 = .ok (.aload_n 0, 1) := by decide +kernel
theorem dX0_grow_63 : decode cX0_grow 63 = .ok (.iconst (-1), 1) := by decide +kernel
theorem dX0_grow_64 : decode cX0_grow 64 = .ok (.iconst (-1), 1) := by decide +kernel
theorem dX0_grow_65 : decode cX0_grow 65 = .ok (.invokevirtual 85, 3) := by decide +kernel
theorem dX0_grow_68 : decode cX0_grow 68 = .ok (.pop, 1) := by decide +kernel
theorem dX0_grow_69 : decode cX0_grow 69 = .ok (.iconst 0, 1) := by decide +kernel
theorem dX0_grow_70 : decode cX0_grow 70 = .ok (.istore_n 3, 1) := by decide +kernel
theorem dX0_grow_71 : decode cX0_grow 71 = .ok (.iload_n 3, 1) := by decide +kernel
theorem dX0_grow_72 : decode cX0_grow 72 = .ok (.aload_n 0, 1) := by decide +kernel
theorem dX0_grow_73 : decode cX0_grow 73 = .ok (.getfield 49, 3) := by decide +kernel
theorem dX0_grow_76 : decode cX0_grow 76 = .ok (.if_icmp .ge 22, 3) := by decide +kernel
theorem dX0_grow_79 : decode cX0_grow 79 = .ok (.iload_n 3, 1) := by decide +kernel
theorem dX0_grow_80 : decode cX0_grow 80 = .ok (.sipush 300, 3) := by decide +kernel
theorem dX0_grow_83 : decode cX0_grow 83 = .ok (.if_icmp .ge 15, 3) := by decide +kernel
theorem dX0_grow_86 : decode cX0_grow 86 = .ok (.aload_n 0, 1) := by decide +kernel
theorem dX0_grow_87 : decode cX0_grow 87 = .ok (.aload_n 1, 1) := by decide +kernel
theorem dX0_grow_88 : decode cX0_grow 88 = .ok (.iload_n 3, 1) := by decide +kernel
theorem dX0_grow_89 : decode cX0_grow 89 = .ok (.invokevirtual 89, 3) := by decide +kernel
theorem dX0_grow_92 : decode cX0_grow 92 = .ok (.iinc 3 1, 3) := by decide +kernel
theorem dX0_grow_95 : decode cX0_grow 95 = .ok (.goto (-24), 3) := by decide +kernel
theorem dX0_grow_98 : decode cX0_grow 98 = .ok (.return_, 1) := by decide +kernel
theorem dX0_goFrom_0 : decode cX0_goFrom 0 = .ok (.aload_n 0, 1) := by decide +kernel
theorem dX0_goFrom_1 : decode cX0_goFrom 1 = .ok (.getfield 21, 3) := by decide +kernel
theorem dX0_goFrom_4 : decode cX0_goFrom 4 = .ok (.iload_n 2, 1) := by decide +kernel
theorem dX0_goFrom_5 : decode cX0_goFrom 5 = .ok (.iconst 0, 1) := by decide +kernel
theorem dX0_goFrom_6 : decode cX0_goFrom 6 = .ok (.iastore, 1) := by decide +kernel
theorem dX0_goFrom_7 : decode cX0_goFrom 7 = .ok (.iconst 0, 1) := by decide +kernel
theorem dX0_goFrom_8 : decode cX0_goFrom 8 = .ok (.istore_n 3, 1) := by decide +kernel
theorem dX0_goFrom_9 : decode cX0_goFrom 9 = .ok (.iload_n 3, 1) := by decide +kernel
theorem dX0_goFrom_10 : decode cX0_goFrom 10 = .ok (.bipush 8, 2) := by decide +kernel
theorem dX0_goFrom_12 : decode cX0_goFrom 12 = .ok (.if_icmp .ge 81, 3) := by decide +kernel
theorem dX0_goFrom_15 : decode cX0_goFrom 15 = .ok (.iconst (-1), 1) := by decide +kernel
theorem dX0_goFrom_16 : decode cX0_goFrom 16 = .ok (.istore 4, 2) := by decide +kernel
theorem dX0_goFrom_18 : decode cX0_goFrom 18 = .ok (.aload_n 1, 1) := by decide +kernel
theorem dX0_goFrom_19 : decode cX0_goFrom 19 = .ok (.iload_n 3, 1) := by decide +kernel
theorem dX0_goFrom_20 : decode cX0_goFrom 20 = .ok (.aload_n 0, 1) := by decide +kernel
theorem dX0_goFrom_21 : decode cX0_goFrom 21 = .ok (.getfield 9, 3) := by decide +kernel
theorem dX0_goFrom_24 : decode cX0_goFrom 24 = .ok (.iload_n 2, 1) := by decide +kernel
theorem dX0_goFrom_25 : decode cX0_goFrom 25 = .ok (.bipush 10, 2) := by decide +kernel
theorem dX0_goFrom_27 : decode cX0_goFrom 27 = .ok (.imul, 1) := by decide +kernel
theorem dX0_goFrom_28 : decode cX0_goFrom 28 = .ok (.invokevirtual 93, 3) := by decide +kernel
theorem dX0_goFrom_31 : decode cX0_goFrom 31 = .ok (.ifCond .eq 43, 3) := by decide +kernel
theorem dX0_goFrom_34 : decode cX0_goFrom 34 = .ok (.aload_n 0, 1) := by decide +kernel
theorem dX0_goFrom_35 : decode cX0_goFrom 35 = .ok (.getfield 21, 3) := by decide +kernel
theorem dX0_goFrom_38 : decode cX0_goFrom 38 = .ok (.iload_n 2, 1) := by decide +kernel
theorem dX0_goFrom_39 : decode cX0_goFrom 39 = .ok (.dup2, 1) := by decide +kernel
theorem dX0_goFrom_40 : decode cX0_goFrom 40 = .ok (.iaload, 1) := by decide +kernel
theorem dX0_goFrom_41 : decode cX0_goFrom 41 = .ok (.iconst 1, 1) := by decide +kernel
theorem dX0_goFrom_42 : decode cX0_goFrom 42 = .ok (.iload_n 3, 1) := by decide +kernel
theorem dX0_goFrom_43 : decode cX0_goFrom 43 = .ok (.ishl, 1) := by decide +kernel
theorem dX0_goFrom_44 : decode cX0_goFrom 44 = .ok (.ior, 1) := by decide +kernel
theorem dX0_goFrom_45 : decode cX0_goFrom 45 = .ok (.iastore, 1) := by decide +kernel
theorem dX0_goFrom_46 : decode cX0_goFrom 46 = .ok (.aload_n 1, 1) := by decide +kernel
theorem dX0_goFrom_47 : decode cX0_goFrom 47 = .ok (.iload_n 3, 1) := by decide +kernel
theorem dX0_goFrom_48 : decode cX0_goFrom 48 = .ok (.aload_n 0, 1) := by decide +kernel
theorem dX0_goFrom_49 : decode cX0_goFrom 49 = .ok (.getfield 9, 3) := by decide +kernel
theorem dX0_goFrom_52 : decode cX0_goFrom 52 = .ok (.iload_n 2, 1) := by decide +kernel
theorem dX0_goFrom_53 : decode cX0_goFrom 53 = .ok (.bipush 10, 2) := by decide +kernel
theorem dX0_goFrom_55 : decode cX0_goFrom 55 = .ok (.imul, 1) := by decide +kernel
theorem dX0_goFrom_56 : decode cX0_goFrom 56 = .ok (.aload_n 0, 1) := by decide +kernel
theorem dX0_goFrom_57 : decode cX0_goFrom 57 = .ok (.getfield 49, 3) := by decide +kernel
theorem dX0_goFrom_60 : decode cX0_goFrom 60 = .ok (.bipush 10, 2) := by decide +kernel
theorem dX0_goFrom_62 : decode cX0_goFrom 62 = .ok (.imul, 1) := by decide +kernel
theorem dX0_goFrom_63 : decode cX0_goFrom 63 = .ok (.invokevirtual 97, 3) := by decide +kernel
theorem dX0_goFrom_66 : decode cX0_goFrom 66 = .ok (.aload_n 0, 1) := by decide +kernel
theorem dX0_goFrom_67 : decode cX0_goFrom 67 = .ok (.iload_n 2, 1) := by decide +kernel
theorem dX0_goFrom_68 : decode cX0_goFrom 68 = .ok (.iload_n 3, 1) := by decide +kernel
theorem dX0_goFrom_69 : decode cX0_goFrom 69 = .ok (.invokevirtual 85, 3) := by decide +kernel
theorem dX0_goFrom_72 : decode cX0_goFrom 72 = .ok (.istore 4, 2) := by decide +kernel
theorem dX0_goFrom_74 : decode cX0_goFrom 74 = .ok (.aload_n 0, 1) := by decide +kernel
theorem dX0_goFrom_75 : decode cX0_goFrom 75 = .ok (.getfield 24, 3) := by decide +kernel
theorem dX0_goFrom_78 : decode cX0_goFrom 78 = .ok (.iload_n 2, 1) := by decide +kernel
theorem dX0_goFrom_79 : decode cX0_goFrom 79 = .ok (.bipush 8, 2) := by decide +kernel
theorem dX0_goFrom_81 : decode cX0_goFrom 81 = .ok (.imul, 1) := by decide +kernel
theorem dX0_goFrom_82 : decode cX0_goFrom 82 = .ok (.iload_n 3, 1) := by decide +kernel
theorem dX0_goFrom_83 : decode cX0_goFrom 83 = .ok (.iadd, 1) := by decide +kernel
theorem dX0_goFrom_84 : decode cX0_goFrom 84 = .ok (.iload 4, 2) := by decide +kernel
theorem dX0_goFrom_86 : decode cX0_goFrom 86 = .ok (.iastore, 1) := by decide +kernel
theorem dX0_goFrom_87 : decode cX0_goFrom 87 = .ok (.iinc 3 1, 3) := by decide +kernel
theorem dX0_goFrom_90 : decode cX0_goFrom 90 = .ok (.goto (-81), 3) := by decide +kernel
theorem dX0_goFrom_93 : decode cX0_goFrom 93 = .ok (.return_, 1) := by decide +kernel
theorem dX0_findOrAdd_0 : decode cX0_findOrAdd 0 = .ok (.aload_n 0, 1) := by decide +kernel
theorem dX0_findOrAdd_1 : decode cX0_findOrAdd 1 = .ok (.aload_n 0, 1) := by decide +kernel
theorem dX0_findOrAdd_2 : decode cX0_findOrAdd 2 = .ok (.getfield 49, 3) := by decide +kernel
theorem dX0_findOrAdd_5 : decode cX0_findOrAdd 5 = .ok (.bipush 10, 2) := by decide +kernel
theorem dX0_findOrAdd_7 : decode cX0_findOrAdd 7 = .ok (.imul, 1) := by decide +kernel
theorem dX0_findOrAdd_8 : decode cX0_findOrAdd 8 = .ok (.invokevirtual 101, 3) := by decide +kernel
theorem dX0_findOrAdd_11 : decode cX0_findOrAdd 11 = .ok (.istore_n 3, 1) := by decide +kernel
theorem dX0_findOrAdd_12 : decode cX0_findOrAdd 12 = .ok (.iconst 0, 1) := by decide +kernel
theorem dX0_findOrAdd_13 : decode cX0_findOrAdd 13 = .ok (.istore 4, 2) := by decide +kernel
theorem dX0_findOrAdd_15 : decode cX0_findOrAdd 15 = .ok (.iload 4, 2) := by decide +kernel
theorem dX0_findOrAdd_17 : decode cX0_findOrAdd 17 = .ok (.sipush 1024, 3) := by decide +kernel
theorem dX0_findOrAdd_20 : decode cX0_findOrAdd 20 = .ok (.if_icmp .ge 47, 3) := by decide +kernel
theorem dX0_findOrAdd_23 : decode cX0_findOrAdd 23 = .ok (.aload_n 0, 1) := by decide +kernel
theorem dX0_findOrAdd_24 : decode cX0_findOrAdd 24 = .ok (.getfield 27, 3) := by decide +kernel
theorem dX0_findOrAdd_27 : decode cX0_findOrAdd 27 = .ok (.iload_n 3, 1) := by decide +kernel
theorem dX0_findOrAdd_28 : decode cX0_findOrAdd 28 = .ok (.iaload, 1) := by decide +kernel
theorem dX0_findOrAdd_29 : decode cX0_findOrAdd 29 = .ok (.iconst (-1), 1) := by decide +kernel
theorem dX0_findOrAdd_30 : decode cX0_findOrAdd 30 = .ok (.if_icmp .eq 37, 3) := by decide +kernel
theorem dX0_findOrAdd_33 : decode cX0_findOrAdd 33 = .ok (.aload_n 0, 1) := by decide +kernel
theorem dX0_findOrAdd_34 : decode cX0_findOrAdd 34 = .ok (.aload_n 0, 1) := by decide +kernel
theorem dX0_findOrAdd_35 : decode cX0_findOrAdd 35 = .ok (.getfield 27, 3) := by decide +kernel
theorem dX0_findOrAdd_38 : decode cX0_findOrAdd 38 = .ok (.iload_n 3, 1) := by decide +kernel
theorem dX0_findOrAdd_39 : decode cX0_findOrAdd 39 = .ok (.iaload, 1) := by decide +kernel
theorem dX0_findOrAdd_40 : decode cX0_findOrAdd 40 = .ok (.invokevirtual 105, 3) := by decide +kernel
theorem dX0_findOrAdd_43 : decode cX0_findOrAdd 43 = .ok (.ifCond .eq 10, 3) := by decide +kernel
theorem dX0_findOrAdd_46 : decode cX0_findOrAdd 46 = .ok (.aload_n 0, 1) := by decide +kernel
theorem dX0_findOrAdd_47 : decode cX0_findOrAdd 47 = .ok (.getfield 27, 3) := by decide +kernel
theorem dX0_findOrAdd_50 : decode cX0_findOrAdd 50 = .ok (.iload_n 3, 1) := by decide +kernel
theorem dX0_findOrAdd_51 : decode cX0_findOrAdd 51 = .ok (.iaload, 1) := by decide +kernel
theorem dX0_findOrAdd_52 : decode cX0_findOrAdd 52 = .ok (.ireturn, 1) := by decide +kernel
theorem dX0_findOrAdd_53 : decode cX0_findOrAdd 53 = .ok (.iload_n 3, 1) := by decide +kernel
theorem dX0_findOrAdd_54 : decode cX0_findOrAdd 54 = .ok (.iconst 1, 1) := by decide +kernel
theorem dX0_findOrAdd_55 : decode cX0_findOrAdd 55 = .ok (.iadd, 1) := by decide +kernel
theorem dX0_findOrAdd_56 : decode cX0_findOrAdd 56 = .ok (.sipush 1023, 3) := by decide +kernel
theorem dX0_findOrAdd_59 : decode cX0_findOrAdd 59 = .ok (.iand, 1) := by decide +kernel
theorem dX0_findOrAdd_60 : decode cX0_findOrAdd 60 = .ok (.istore_n 3, 1) := by decide +kernel
theorem dX0_findOrAdd_61 : decode cX0_findOrAdd 61 = .ok (.iinc 4 1, 3) := by decide +kernel
theorem dX0_findOrAdd_64 : decode cX0_findOrAdd 64 = .ok (.goto (-49), 3) := by decide +kernel
theorem dX0_findOrAdd_67 : decode cX0_findOrAdd 67 = .ok (.aload_n 0, 1) := by decide +kernel
theorem dX0_findOrAdd_68 : decode cX0_findOrAdd 68 = .ok (.getfield 49, 3) := by decide +kernel
theorem dX0_findOrAdd_71 : decode cX0_findOrAdd 71 = .ok (.sipush 300, 3) := by decide +kernel
theorem dX0_findOrAdd_74 : decode cX0_findOrAdd 74 = .ok (.if_icmp .lt 10, 3) := by decide +kernel
theorem dX0_findOrAdd_77 : decode cX0_findOrAdd 77 = .ok (.aload_n 0, 1) := by decide +kernel
theorem dX0_findOrAdd_78 : decode cX0_findOrAdd 78 = .ok (.iconst 1, 1) := by decide +kernel
theorem dX0_findOrAdd_79 : decode cX0_findOrAdd 79 = .ok (.putfield 52, 3) := by decide +kernel
theorem dX0_findOrAdd_82 : decode cX0_findOrAdd 82 = .ok (.iconst (-1), 1) := by decide +kernel
theorem dX0_findOrAdd_83 : decode cX0_findOrAdd 83 = .ok (.ireturn, 1) := by decide +kernel
theorem dX0_findOrAdd_84 : decode cX0_findOrAdd 84 = .ok (.aload_n 0, 1) := by decide +kernel
theorem dX0_findOrAdd_85 : decode cX0_findOrAdd 85 = .ok (.getfield 27, 3) := by decide +kernel
theorem dX0_findOrAdd_88 : decode cX0_findOrAdd 88 = .ok (.iload_n 3, 1) := by decide +kernel
theorem dX0_findOrAdd_89 : decode cX0_findOrAdd 89 = .ok (.aload_n 0, 1) := by decide +kernel
theorem dX0_findOrAdd_90 : decode cX0_findOrAdd 90 = .ok (.getfield 49, 3) := by decide +kernel
theorem dX0_findOrAdd_93 : decode cX0_findOrAdd 93 = .ok (.iastore, 1) := by decide +kernel
theorem dX0_findOrAdd_94 : decode cX0_findOrAdd 94 = .ok (.aload_n 0, 1) := by decide +kernel
theorem dX0_findOrAdd_95 : decode cX0_findOrAdd 95 = .ok (.getfield 15, 3) := by decide +kernel
theorem dX0_findOrAdd_98 : decode cX0_findOrAdd 98 = .ok (.aload_n 0, 1) := by decide +kernel
theorem dX0_findOrAdd_99 : decode cX0_findOrAdd 99 = .ok (.getfield 49, 3) := by decide +kernel
theorem dX0_findOrAdd_102 : decode cX0_findOrAdd 102 = .ok (.iload_n 1, 1) := by decide +kernel
theorem dX0_findOrAdd_103 : decode cX0_findOrAdd 103 = .ok (.iastore, 1) := by decide +kernel
theorem dX0_findOrAdd_104 : decode cX0_findOrAdd 104 = .ok (.aload_n 0, 1) := by decide +kernel
theorem dX0_findOrAdd_105 : decode cX0_findOrAdd 105 = .ok (.getfield 18, 3) := by decide +kernel
theorem dX0_findOrAdd_108 : decode cX0_findOrAdd 108 = .ok (.aload_n 0, 1) := by decide +kernel
theorem dX0_findOrAdd_109 : decode cX0_findOrAdd 109 = .ok (.getfield 49, 3) := by decide +kernel
theorem dX0_findOrAdd_112 : decode cX0_findOrAdd 112 = .ok (.iload_n 2, 1) := by decide +kernel
theorem dX0_findOrAdd_113 : decode cX0_findOrAdd 113 = .ok (.iastore, 1) := by decide +kernel
theorem dX0_findOrAdd_114 : decode cX0_findOrAdd 114 = .ok (.aload_n 0, 1) := by decide +kernel
theorem dX0_findOrAdd_115 : decode cX0_findOrAdd 115 = .ok (.dup, 1) := by decide +kernel
theorem dX0_findOrAdd_116 : decode cX0_findOrAdd 116 = .ok (.getfield 49, 3) := by decide +kernel
theorem dX0_findOrAdd_119 : decode cX0_findOrAdd 119 = .ok (.iconst 1, 1) := by decide +kernel
theorem dX0_findOrAdd_120 : decode cX0_findOrAdd 120 = .ok (.iadd, 1) := by decide +kernel
theorem dX0_findOrAdd_121 : decode cX0_findOrAdd 121 = .ok (.putfield 49, 3) := by decide +kernel
theorem dX0_findOrAdd_124 : decode cX0_findOrAdd 124 = .ok (.aload_n 0, 1) := by decide +kernel
theorem dX0_findOrAdd_125 : decode cX0_findOrAdd 125 = .ok (.getfield 49, 3) := by decide +kernel
theorem dX0_findOrAdd_128 : decode cX0_findOrAdd 128 = .ok (.iconst 1, 1) := by decide +kernel
theorem dX0_findOrAdd_129 : decode cX0_findOrAdd 129 = .ok (.isub, 1) := by decide +kernel
theorem dX0_findOrAdd_130 : decode cX0_findOrAdd 130 = .ok (.ireturn, 1) := by decide +kernel
theorem dX0_slotOf_0 : decode cX0_slotOf 0 = .ok (.iconst 0, 1) := by decide +kernel
theorem dX0_slotOf_1 : decode cX0_slotOf 1 = .ok (.istore_n 2, 1) := by decide +kernel
theorem dX0_slotOf_2 : decode cX0_slotOf 2 = .ok (.iconst 0, 1) := by decide +kernel
theorem dX0_slotOf_3 : decode cX0_slotOf 3 = .ok (.istore_n 3, 1) := by decide +kernel
theorem dX0_slotOf_4 : decode cX0_slotOf 4 = .ok (.iload_n 3, 1) := by decide +kernel
theorem dX0_slotOf_5 : decode cX0_slotOf 5 = .ok (.bipush 10, 2) := by decide +kernel
theorem dX0_slotOf_7 : decode cX0_slotOf 7 = .ok (.if_icmp .ge 23, 3) := by decide +kernel
theorem dX0_slotOf_10 : decode cX0_slotOf 10 = .ok (.iload_n 2, 1) := by decide +kernel
theorem dX0_slotOf_11 : decode cX0_slotOf 11 = .ok (.bipush 31, 2) := by decide +kernel
theorem dX0_slotOf_13 : decode cX0_slotOf 13 = .ok (.imul, 1) := by decide +kernel
theorem dX0_slotOf_14 : decode cX0_slotOf 14 = .ok (.aload_n 0, 1) := by decide +kernel
theorem dX0_slotOf_15 : decode cX0_slotOf 15 = .ok (.getfield 9, 3) := by decide +kernel
theorem dX0_slotOf_18 : decode cX0_slotOf 18 = .ok (.iload_n 1, 1) := by decide +kernel
theorem dX0_slotOf_19 : decode cX0_slotOf 19 = .ok (.iload_n 3, 1) := by decide +kernel
theorem dX0_slotOf_20 : decode cX0_slotOf 20 = .ok (.iadd, 1) := by decide +kernel
theorem dX0_slotOf_21 : decode cX0_slotOf 21 = .ok (.iaload, 1) := by decide +kernel
theorem dX0_slotOf_22 : decode cX0_slotOf 22 = .ok (.iadd, 1) := by decide +kernel
theorem dX0_slotOf_23 : decode cX0_slotOf 23 = .ok (.istore_n 2, 1) := by decide +kernel
theorem dX0_slotOf_24 : decode cX0_slotOf 24 = .ok (.iinc 3 1, 3) := by decide +kernel
theorem dX0_slotOf_27 : decode cX0_slotOf 27 = .ok (.goto (-23), 3) := by decide +kernel
theorem dX0_slotOf_30 : decode cX0_slotOf 30 = .ok (.iload_n 2, 1) := by decide +kernel
theorem dX0_slotOf_31 : decode cX0_slotOf 31 = .ok (.iload_n 2, 1) := by decide +kernel
theorem dX0_slotOf_32 : decode cX0_slotOf 32 = .ok (.bipush 10, 2) := by decide +kernel
theorem dX0_slotOf_34 : decode cX0_slotOf 34 = .ok (.iushr, 1) := by decide +kernel
theorem dX0_slotOf_35 : decode cX0_slotOf 35 = .ok (.ixor, 1) := by decide +kernel
theorem dX0_slotOf_36 : decode cX0_slotOf 36 = .ok (.iload_n 2, 1) := by decide +kernel
theorem dX0_slotOf_37 : decode cX0_slotOf 37 = .ok (.bipush 20, 2) := by decide +kernel
theorem dX0_slotOf_39 : decode cX0_slotOf 39 = .ok (.iushr, 1) := by decide +kernel
theorem dX0_slotOf_40 : decode cX0_slotOf 40 = .ok (.ixor, 1) := by decide +kernel
theorem dX0_slotOf_41 : decode cX0_slotOf 41 = .ok (.sipush 1023, 3) := by decide +kernel
theorem dX0_slotOf_44 : decode cX0_slotOf 44 = .ok (.iand, 1) := by decide +kernel
theorem dX0_slotOf_45 : decode cX0_slotOf 45 = .ok (.ireturn, 1) := by decide +kernel
theorem dX0_isSame_0 : decode cX0_isSame 0 = .ok (.iconst 0, 1) := by decide +kernel
theorem dX0_isSame_1 : decode cX0_isSame 1 = .ok (.istore_n 2, 1) := by decide +kernel
theorem dX0_isSame_2 : decode cX0_isSame 2 = .ok (.iload_n 2, 1) := by decide +kernel
theorem dX0_isSame_3 : decode cX0_isSame 3 = .ok (.bipush 10, 2) := by decide +kernel
theorem dX0_isSame_5 : decode cX0_isSame 5 = .ok (.if_icmp .ge 39, 3) := by decide +kernel
theorem dX0_isSame_8 : decode cX0_isSame 8 = .ok (.aload_n 0, 1) := by decide +kernel
theorem dX0_isSame_9 : decode cX0_isSame 9 = .ok (.getfield 9, 3) := by decide +kernel
theorem dX0_isSame_12 : decode cX0_isSame 12 = .ok (.iload_n 1, 1) := by decide +kernel
theorem dX0_isSame_13 : decode cX0_isSame 13 = .ok (.bipush 10, 2) := by decide +kernel
theorem dX0_isSame_15 : decode cX0_isSame 15 = .ok (.imul, 1) := by decide +kernel
theorem dX0_isSame_16 : decode cX0_isSame 16 = .ok (.iload_n 2, 1) := by decide +kernel
theorem dX0_isSame_17 : decode cX0_isSame 17 = .ok (.iadd, 1) := by decide +kernel
theorem dX0_isSame_18 : decode cX0_isSame 18 = .ok (.iaload, 1) := by decide +kernel
theorem dX0_isSame_19 : decode cX0_isSame 19 = .ok (.aload_n 0, 1) := by decide +kernel
theorem dX0_isSame_20 : decode cX0_isSame 20 = .ok (.getfield 9, 3) := by decide +kernel
theorem dX0_isSame_23 : decode cX0_isSame 23 = .ok (.aload_n 0, 1) := by decide +kernel
theorem dX0_isSame_24 : decode cX0_isSame 24 = .ok (.getfield 49, 3) := by decide +kernel
theorem dX0_isSame_27 : decode cX0_isSame 27 = .ok (.bipush 10, 2) := by decide +kernel
theorem dX0_isSame_29 : decode cX0_isSame 29 = .ok (.imul, 1) := by decide +kernel
theorem dX0_isSame_30 : decode cX0_isSame 30 = .ok (.iload_n 2, 1) := by decide +kernel
theorem dX0_isSame_31 : decode cX0_isSame 31 = .ok (.iadd, 1) := by decide +kernel
theorem dX0_isSame_32 : decode cX0_isSame 32 = .ok (.iaload, 1) := by decide +kernel
theorem dX0_isSame_33 : decode cX0_isSame 33 = .ok (.if_icmp .eq 5, 3) := by decide +kernel
theorem dX0_isSame_36 : decode cX0_isSame 36 = .ok (.iconst 0, 1) := by decide +kernel
theorem dX0_isSame_37 : decode cX0_isSame 37 = .ok (.ireturn, 1) := by decide +kernel
theorem dX0_isSame_38 : decode cX0_isSame 38 = .ok (.iinc 2 1, 3) := by decide +kernel
theorem dX0_isSame_41 : decode cX0_isSame 41 = .ok (.goto (-39), 3) := by decide +kernel
theorem dX0_isSame_44 : decode cX0_isSame 44 = .ok (.iconst 1, 1) := by decide +kernel
theorem dX0_isSame_45 : decode cX0_isSame 45 = .ok (.ireturn, 1) := by decide +kernel
theorem dX0_depthOf_0 : decode cX0_depthOf 0 = .ok (.iconst 0, 1) := by decide +kernel
theorem dX0_depthOf_1 : decode cX0_depthOf 1 = .ok (.istore_n 2, 1) := by decide +kernel
theorem dX0_depthOf_2 : decode cX0_depthOf 2 = .ok (.aload_n 0, 1) := by decide +kernel
theorem dX0_depthOf_3 : decode cX0_depthOf 3 = .ok (.getfield 15, 3) := by decide +kernel
theorem dX0_depthOf_6 : decode cX0_depthOf 6 = .ok (.iload_n 1, 1) := by decide +kernel
theorem dX0_depthOf_7 : decode cX0_depthOf 7 = .ok (.iaload, 1) := by decide +kernel
theorem dX0_depthOf_8 : decode cX0_depthOf 8 = .ok (.istore_n 3, 1) := by decide +kernel
theorem dX0_depthOf_9 : decode cX0_depthOf 9 = .ok (.iload_n 3, 1) := by decide +kernel
theorem dX0_depthOf_10 : decode cX0_depthOf 10 = .ok (.iconst (-1), 1) := by decide +kernel
theorem dX0_depthOf_11 : decode cX0_depthOf 11 = .ok (.if_icmp .eq 23, 3) := by decide +kernel
theorem dX0_depthOf_14 : decode cX0_depthOf 14 = .ok (.iload_n 2, 1) := by decide +kernel
theorem dX0_depthOf_15 : decode cX0_depthOf 15 = .ok (.sipush 300, 3) := by decide +kernel
theorem dX0_depthOf_18 : decode cX0_depthOf 18 = .ok (.if_icmp .ge 16, 3) := by decide +kernel
theorem dX0_depthOf_21 : decode cX0_depthOf 21 = .ok (.iinc 2 1, 3) := by decide +kernel
theorem dX0_depthOf_24 : decode cX0_depthOf 24 = .ok (.aload_n 0, 1) := by decide +kernel
theorem dX0_depthOf_25 : decode cX0_depthOf 25 = .ok (.getfield 15, 3) := by decide +kernel
theorem dX0_depthOf_28 : decode cX0_depthOf 28 = .ok (.iload_n 3, 1) := by decide +kernel
theorem dX0_depthOf_29 : decode cX0_depthOf 29 = .ok (.iaload, 1) := by decide +kernel
theorem dX0_depthOf_30 : decode cX0_depthOf 30 = .ok (.istore_n 3, 1) := by decide +kernel
theorem dX0_depthOf_31 : decode cX0_depthOf 31 = .ok (.goto (-22), 3) := by decide +kernel
theorem dX0_depthOf_34 : decode cX0_depthOf 34 = .ok (.iload_n 2, 1) := by decide +kernel
theorem dX0_depthOf_35 : decode cX0_depthOf 35 = .ok (.ireturn, 1) := by decide +kernel
theorem dX0_deadOnes_0 : decode cX0_deadOnes 0 = .ok (.iconst 0, 1) := by decide +kernel
theorem dX0_deadOnes_1 : decode cX0_deadOnes 1 = .ok (.istore_n 1, 1) := by decide +kernel
theorem dX0_deadOnes_2 : decode cX0_deadOnes 2 = .ok (.iconst 0, 1) := by decide +kernel
theorem dX0_deadOnes_3 : decode cX0_deadOnes 3 = .ok (.istore_n 2, 1) := by decide +kernel
theorem dX0_deadOnes_4 : decode cX0_deadOnes 4 = .ok (.iload_n 2, 1) := by decide +kernel
theorem dX0_deadOnes_5 : decode cX0_deadOnes 5 = .ok (.aload_n 0, 1) := by decide +kernel
theorem dX0_deadOnes_6 : decode cX0_deadOnes 6 = .ok (.getfield 49, 3) := by decide +kernel
theorem dX0_deadOnes_9 : decode cX0_deadOnes 9 = .ok (.if_icmp .ge 21, 3) := by decide +kernel
theorem dX0_deadOnes_12 : decode cX0_deadOnes 12 = .ok (.aload_n 0, 1) := by decide +kernel
theorem dX0_deadOnes_13 : decode cX0_deadOnes 13 = .ok (.getfield 21, 3) := by decide +kernel
theorem dX0_deadOnes_16 : decode cX0_deadOnes 16 = .ok (.iload_n 2, 1) := by decide +kernel
theorem dX0_deadOnes_17 : decode cX0_deadOnes 17 = .ok (.iaload, 1) := by decide +kernel
theorem dX0_deadOnes_18 : decode cX0_deadOnes 18 = .ok (.ifCond .ne 6, 3) := by decide +kernel
theorem dX0_deadOnes_21 : decode cX0_deadOnes 21 = .ok (.iinc 1 1, 3) := by decide +kernel
theorem dX0_deadOnes_24 : decode cX0_deadOnes 24 = .ok (.iinc 2 1, 3) := by decide +kernel
theorem dX0_deadOnes_27 : decode cX0_deadOnes 27 = .ok (.goto (-23), 3) := by decide +kernel
theorem dX0_deadOnes_30 : decode cX0_deadOnes 30 = .ok (.iload_n 1, 1) := by decide +kernel
theorem dX0_deadOnes_31 : decode cX0_deadOnes 31 = .ok (.ireturn, 1) := by decide +kernel
theorem dX0_firstDead_0 : decode cX0_firstDead 0 = .ok (.iconst 0, 1) := by decide +kernel
theorem dX0_firstDead_1 : decode cX0_firstDead 1 = .ok (.istore_n 1, 1) := by decide +kernel
theorem dX0_firstDead_2 : decode cX0_firstDead 2 = .ok (.iload_n 1, 1) := by decide +kernel
theorem dX0_firstDead_3 : decode cX0_firstDead 3 = .ok (.aload_n 0, 1) := by decide +kernel
theorem dX0_firstDead_4 : decode cX0_firstDead 4 = .ok (.getfield 49, 3) := by decide +kernel
theorem dX0_firstDead_7 : decode cX0_firstDead 7 = .ok (.if_icmp .ge 20, 3) := by decide +kernel
theorem dX0_firstDead_10 : decode cX0_firstDead 10 = .ok (.aload_n 0, 1) := by decide +kernel
theorem dX0_firstDead_11 : decode cX0_firstDead 11 = .ok (.getfield 21, 3) := by decide +kernel
theorem dX0_firstDead_14 : decode cX0_firstDead 14 = .ok (.iload_n 1, 1) := by decide +kernel
theorem dX0_firstDead_15 : decode cX0_firstDead 15 = .ok (.iaload, 1) := by decide +kernel
theorem dX0_firstDead_16 : decode cX0_firstDead 16 = .ok (.ifCond .ne 5, 3) := by decide +kernel
theorem dX0_firstDead_19 : decode cX0_firstDead 19 = .ok (.iload_n 1, 1) := by decide +kernel
theorem dX0_firstDead_20 : decode cX0_firstDead 20 = .ok (.ireturn, 1) := by decide +kernel
theorem dX0_firstDead_21 : decode cX0_firstDead 21 = .ok (.iinc 1 1, 3) := by decide +kernel
theorem dX0_firstDead_24 : decode cX0_firstDead 24 = .ok (.goto (-22), 3) := by decide +kernel
theorem dX0_firstDead_27 : decode cX0_firstDead 27 = .ok (.iconst (-1), 1) := by decide +kernel
theorem dX0_firstDead_28 : decode cX0_firstDead 28 = .ok (.ireturn, 1) := by decide +kernel
theorem dX0_mostIn_0 : decode cX0_mostIn 0 = .ok (.iconst 0, 1) := by decide +kernel
theorem dX0_mostIn_1 : decode cX0_mostIn 1 = .ok (.istore_n 2, 1) := by decide +kernel
theorem dX0_mostIn_2 : decode cX0_mostIn 2 = .ok (.iconst 0, 1) := by decide +kernel
theorem dX0_mostIn_3 : decode cX0_mostIn 3 = .ok (.istore_n 3, 1) := by decide +kernel
theorem dX0_mostIn_4 : decode cX0_mostIn 4 = .ok (.iload_n 3, 1) := by decide +kernel
theorem dX0_mostIn_5 : decode cX0_mostIn 5 = .ok (.aload_n 0, 1) := by decide +kernel
theorem dX0_mostIn_6 : decode cX0_mostIn 6 = .ok (.getfield 49, 3) := by decide +kernel
theorem dX0_mostIn_9 : decode cX0_mostIn 9 = .ok (.if_icmp .ge 25, 3) := by decide +kernel
theorem dX0_mostIn_12 : decode cX0_mostIn 12 = .ok (.iload_n 2, 1) := by decide +kernel
theorem dX0_mostIn_13 : decode cX0_mostIn 13 = .ok (.aload_n 0, 1) := by decide +kernel
theorem dX0_mostIn_14 : decode cX0_mostIn 14 = .ok (.getfield 9, 3) := by decide +kernel
theorem dX0_mostIn_17 : decode cX0_mostIn 17 = .ok (.iload_n 3, 1) := by decide +kernel
theorem dX0_mostIn_18 : decode cX0_mostIn 18 = .ok (.bipush 10, 2) := by decide +kernel
theorem dX0_mostIn_20 : decode cX0_mostIn 20 = .ok (.imul, 1) := by decide +kernel
theorem dX0_mostIn_21 : decode cX0_mostIn 21 = .ok (.iload_n 1, 1) := by decide +kernel
theorem dX0_mostIn_22 : decode cX0_mostIn 22 = .ok (.iadd, 1) := by decide +kernel
theorem dX0_mostIn_23 : decode cX0_mostIn 23 = .ok (.iaload, 1) := by decide +kernel
theorem dX0_mostIn_24 : decode cX0_mostIn 24 = .ok (.invokestatic 109, 3) := by decide +kernel
theorem dX0_mostIn_27 : decode cX0_mostIn 27 = .ok (.istore_n 2, 1) := by decide +kernel
theorem dX0_mostIn_28 : decode cX0_mostIn 28 = .ok (.iinc 3 1, 3) := by decide +kernel
theorem dX0_mostIn_31 : decode cX0_mostIn 31 = .ok (.goto (-27), 3) := by decide +kernel
theorem dX0_mostIn_34 : decode cX0_mostIn 34 = .ok (.iload_n 2, 1) := by decide +kernel
theorem dX0_mostIn_35 : decode cX0_mostIn 35 = .ok (.ireturn, 1) := by decide +kernel
theorem dX0_liveOnes_0 : decode cX0_liveOnes 0 = .ok (.aload_n 0, 1) := by decide +kernel
theorem dX0_liveOnes_1 : decode cX0_liveOnes 1 = .ok (.getfield 65, 3) := by decide +kernel
theorem dX0_liveOnes_4 : decode cX0_liveOnes 4 = .ok (.iconst (-1), 1) := by decide +kernel
theorem dX0_liveOnes_5 : decode cX0_liveOnes 5 = .ok (.if_icmp .eq 8, 3) := by decide +kernel
theorem dX0_liveOnes_8 : decode cX0_liveOnes 8 = .ok (.aload_n 0, 1) := by decide +kernel
theorem dX0_liveOnes_9 : decode cX0_liveOnes 9 = .ok (.getfield 65, 3) := by decide +kernel
theorem dX0_liveOnes_12 : decode cX0_liveOnes 12 = .ok (.ireturn, 1) := by decide +kernel
theorem dX0_liveOnes_13 : decode cX0_liveOnes 13 = .ok (.aload_n 0, 1) := by decide +kernel
theorem dX0_liveOnes_14 : decode cX0_liveOnes 14 = .ok (.invokevirtual 114, 3) := by decide +kernel
theorem dX0_liveOnes_17 : decode cX0_liveOnes 17 = .ok (.aload_n 0, 1) := by decide +kernel
theorem dX0_liveOnes_18 : decode cX0_liveOnes 18 = .ok (.iconst 0, 1) := by decide +kernel
theorem dX0_liveOnes_19 : decode cX0_liveOnes 19 = .ok (.putfield 65, 3) := by decide +kernel
theorem dX0_liveOnes_22 : decode cX0_liveOnes 22 = .ok (.iconst 0, 1) := by decide +kernel
theorem dX0_liveOnes_23 : decode cX0_liveOnes 23 = .ok (.istore_n 2, 1) := by decide +kernel
theorem dX0_liveOnes_24 : decode cX0_liveOnes 24 = .ok (.iload_n 2, 1) := by decide +kernel
theorem dX0_liveOnes_25 : decode cX0_liveOnes 25 = .ok (.bipush 8, 2) := by decide +kernel
theorem dX0_liveOnes_27 : decode cX0_liveOnes 27 = .ok (.if_icmp .ge 37, 3) := by decide +kernel
theorem dX0_liveOnes_30 : decode cX0_liveOnes 30 = .ok (.aload_n 1, 1) := by decide +kernel
theorem dX0_liveOnes_31 : decode cX0_liveOnes 31 = .ok (.iload_n 2, 1) := by decide +kernel
theorem dX0_liveOnes_32 : decode cX0_liveOnes 32 = .ok (.invokevirtual 117, 3) := by decide +kernel
theorem dX0_liveOnes_35 : decode cX0_liveOnes 35 = .ok (.ifCond .eq 23, 3) := by decide +kernel
theorem dX0_liveOnes_38 : decode cX0_liveOnes 38 = .ok (.aload_n 0, 1) := by decide +kernel
theorem dX0_liveOnes_39 : decode cX0_liveOnes 39 = .ok (.iload_n 2, 1) := by decide +kernel
theorem dX0_liveOnes_40 : decode cX0_liveOnes 40 = .ok (.invokevirtual 120, 3) := by decide +kernel
theorem dX0_liveOnes_43 : decode cX0_liveOnes 43 = .ok (.ifCond .eq 15, 3) := by decide +kernel
theorem dX0_liveOnes_46 : decode cX0_liveOnes 46 = .ok (.aload_n 0, 1) := by decide +kernel
theorem dX0_liveOnes_47 : decode cX0_liveOnes 47 = .ok (.dup, 1) := by decide +kernel
theorem dX0_liveOnes_48 : decode cX0_liveOnes 48 = .ok (.getfield 65, 3) := by decide +kernel
theorem dX0_liveOnes_51 : decode cX0_liveOnes 51 = .ok (.iconst 1, 1) := by decide +kernel
theorem dX0_liveOnes_52 : decode cX0_liveOnes 52 = .ok (.iload_n 2, 1) := by decide +kernel
theorem dX0_liveOnes_53 : decode cX0_liveOnes 53 = .ok (.ishl, 1) := by decide +kernel
theorem dX0_liveOnes_54 : decode cX0_liveOnes 54 = .ok (.ior, 1) := by decide +kernel
theorem dX0_liveOnes_55 : decode cX0_liveOnes 55 = .ok (.putfield 65, 3) := by decide +kernel
theorem dX0_liveOnes_58 : decode cX0_liveOnes 58 = .ok (.iinc 2 1, 3) := by decide +kernel
theorem dX0_liveOnes_61 : decode cX0_liveOnes 61 = .ok (.goto (-37), 3) := by decide +kernel
theorem dX0_liveOnes_64 : decode cX0_liveOnes 64 = .ok (.aload_n 0, 1) := by decide +kernel
theorem dX0_liveOnes_65 : decode cX0_liveOnes 65 = .ok (.getfield 65, 3) := by decide +kernel
theorem dX0_liveOnes_68 : decode cX0_liveOnes 68 = .ok (.ireturn, 1) := by decide +kernel
theorem dX0_comesFromAll_0 : decode cX0_comesFromAll 0 = .ok (.aload_n 0, 1) := by decide +kernel
theorem dX0_comesFromAll_1 : decode cX0_comesFromAll 1 = .ok (.invokevirtual 123, 3) := by decide +kernel
theorem dX0_comesFromAll_4 : decode cX0_comesFromAll 4 = .ok (.iconst 0, 1) := by decide +kernel
theorem dX0_comesFromAll_5 : decode cX0_comesFromAll 5 = .ok (.istore_n 2, 1) := by decide +kernel
theorem dX0_comesFromAll_6 : decode cX0_comesFromAll 6 = .ok (.iload_n 2, 1) := by decide +kernel
theorem dX0_comesFromAll_7 : decode cX0_comesFromAll 7 = .ok (.aload_n 0, 1) := by decide +kernel
theorem dX0_comesFromAll_8 : decode cX0_comesFromAll 8 = .ok (.getfield 49, 3) := by decide +kernel
theorem dX0_comesFromAll_11 : decode cX0_comesFromAll 11 = .ok (.if_icmp .ge 28, 3) := by decide +kernel
theorem dX0_comesFromAll_14 : decode cX0_comesFromAll 14 = .ok (.aload_n 0, 1) := by decide +kernel
theorem dX0_comesFromAll_15 : decode cX0_comesFromAll 15 = .ok (.getfield 21, 3) := by decide +kernel
theorem dX0_comesFromAll_18 : decode cX0_comesFromAll 18 = .ok (.iload_n 2, 1) := by decide +kernel
theorem dX0_comesFromAll_19 : decode cX0_comesFromAll 19 = .ok (.iaload, 1) := by decide +kernel
theorem dX0_comesFromAll_20 : decode cX0_comesFromAll 20 = .ok (.iload_n 1, 1) := by decide +kernel
theorem dX0_comesFromAll_21 : decode cX0_comesFromAll 21 = .ok (.ishr, 1) := by decide +kernel
theorem dX0_comesFromAll_22 : decode cX0_comesFromAll 22 = .ok (.iconst 1, 1) := by decide +kernel
theorem dX0_comesFromAll_23 : decode cX0_comesFromAll 23 = .ok (.iand, 1) := by decide +kernel
theorem dX0_comesFromAll_24 : decode cX0_comesFromAll 24 = .ok (.iconst 1, 1) := by decide +kernel
theorem dX0_comesFromAll_25 : decode cX0_comesFromAll 25 = .ok (.if_icmp .ne 8, 3) := by decide +kernel
theorem dX0_comesFromAll_28 : decode cX0_comesFromAll 28 = .ok (.aload_n 0, 1) := by decide +kernel
theorem dX0_comesFromAll_29 : decode cX0_comesFromAll 29 = .ok (.iload_n 2, 1) := by decide +kernel
theorem dX0_comesFromAll_30 : decode cX0_comesFromAll 30 = .ok (.invokevirtual 126, 3) := by decide +kernel
theorem dX0_comesFromAll_33 : decode cX0_comesFromAll 33 = .ok (.iinc 2 1, 3) := by decide +kernel
theorem dX0_comesFromAll_36 : decode cX0_comesFromAll 36 = .ok (.goto (-30), 3) := by decide +kernel
theorem dX0_comesFromAll_39 : decode cX0_comesFromAll 39 = .ok (.aload_n 0, 1) := by decide +kernel
theorem dX0_comesFromAll_40 : decode cX0_comesFromAll 40 = .ok (.iconst 0, 1) := by decide +kernel
theorem dX0_comesFromAll_41 : decode cX0_comesFromAll 41 = .ok (.invokevirtual 130, 3) := by decide +kernel
theorem dX0_comesFromAll_44 : decode cX0_comesFromAll 44 = .ok (.aload_n 0, 1) := by decide +kernel
theorem dX0_comesFromAll_45 : decode cX0_comesFromAll 45 = .ok (.getfield 56, 3) := by decide +kernel
theorem dX0_comesFromAll_48 : decode cX0_comesFromAll 48 = .ok (.aload_n 0, 1) := by decide +kernel
theorem dX0_comesFromAll_49 : decode cX0_comesFromAll 49 = .ok (.getfield 49, 3) := by decide +kernel
theorem dX0_comesFromAll_52 : decode cX0_comesFromAll 52 = .ok (.if_icmp .ne 7, 3) := by decide +kernel
theorem dX0_comesFromAll_55 : decode cX0_comesFromAll 55 = .ok (.iconst 1, 1) := by decide +kernel
theorem dX0_comesFromAll_56 : decode cX0_comesFromAll 56 = .ok (.goto 4, 3) := by decide +kernel
theorem dX0_comesFromAll_59 : decode cX0_comesFromAll 59 = .ok (.iconst 0, 1) := by decide +kernel
theorem dX0_comesFromAll_60 : decode cX0_comesFromAll 60 = .ok (.ireturn, 1) := by decide +kernel
theorem dX0_findHomes_0 : decode cX0_findHomes 0 = .ok (.aload_n 0, 1) := by decide +kernel
theorem dX0_findHomes_1 : decode cX0_findHomes 1 = .ok (.getfield 62, 3) := by decide +kernel
theorem dX0_findHomes_4 : decode cX0_findHomes 4 = .ok (.iconst (-1), 1) := by decide +kernel
theorem dX0_findHomes_5 : decode cX0_findHomes 5 = .ok (.if_icmp .eq 4, 3) := by decide +kernel
theorem dX0_findHomes_8 : decode cX0_findHomes 8 = .ok (.return_, 1) := by decide +kernel
theorem dX0_findHomes_9 : decode cX0_findHomes 9 = .ok (.aload_n 0, 1) := by decide +kernel
theorem dX0_findHomes_10 : decode cX0_findHomes 10 = .ok (.invokevirtual 114, 3) := by decide +kernel
theorem dX0_findHomes_13 : decode cX0_findHomes 13 = .ok (.aload_n 0, 1) := by decide +kernel
theorem dX0_findHomes_14 : decode cX0_findHomes 14 = .ok (.invokevirtual 133, 3) := by decide +kernel
theorem dX0_findHomes_17 : decode cX0_findHomes 17 = .ok (.istore_n 1, 1) := by decide +kernel
theorem dX0_findHomes_18 : decode cX0_findHomes 18 = .ok (.aload_n 0, 1) := by decide +kernel
theorem dX0_findHomes_19 : decode cX0_findHomes 19 = .ok (.invokevirtual 123, 3) := by decide +kernel
theorem dX0_findHomes_22 : decode cX0_findHomes 22 = .ok (.aload_n 0, 1) := by decide +kernel
theorem dX0_findHomes_23 : decode cX0_findHomes 23 = .ok (.iload_n 1, 1) := by decide +kernel
theorem dX0_findHomes_24 : decode cX0_findHomes 24 = .ok (.invokevirtual 126, 3) := by decide +kernel
theorem dX0_findHomes_27 : decode cX0_findHomes 27 = .ok (.aload_n 0, 1) := by decide +kernel
theorem dX0_findHomes_28 : decode cX0_findHomes 28 = .ok (.iconst 0, 1) := by decide +kernel
theorem dX0_findHomes_29 : decode cX0_findHomes 29 = .ok (.invokevirtual 130, 3) := by decide +kernel
theorem dX0_findHomes_32 : decode cX0_findHomes 32 = .ok (.aload_n 0, 1) := by decide +kernel
theorem dX0_findHomes_33 : decode cX0_findHomes 33 = .ok (.getfield 56, 3) := by decide +kernel
theorem dX0_findHomes_36 : decode cX0_findHomes 36 = .ok (.aload_n 0, 1) := by decide +kernel
theorem dX0_findHomes_37 : decode cX0_findHomes 37 = .ok (.getfield 49, 3) := by decide +kernel
theorem dX0_findHomes_40 : decode cX0_findHomes 40 = .ok (.if_icmp .ne 7, 3) := by decide +kernel
theorem dX0_findHomes_43 : decode cX0_findHomes 43 = .ok (.iconst 1, 1) := by decide +kernel
theorem dX0_findHomes_44 : decode cX0_findHomes 44 = .ok (.goto 4, 3) := by decide +kernel
theorem dX0_findHomes_47 : decode cX0_findHomes 47 = .ok (.iconst 0, 1) := by decide +kernel
theorem dX0_findHomes_48 : decode cX0_findHomes 48 = .ok (.istore_n 2, 1) := by decide +kernel
theorem dX0_findHomes_49 : decode cX0_findHomes 49 = .ok (.aload_n 0, 1) := by decide +kernel
theorem dX0_findHomes_50 : decode cX0_findHomes 50 = .ok (.invokevirtual 123, 3) := by decide +kernel
theorem dX0_findHomes_53 : decode cX0_findHomes 53 = .ok (.iload_n 2, 1) := by decide +kernel
theorem dX0_findHomes_54 : decode cX0_findHomes 54 = .ok (.ifCond .eq 12, 3) := by decide +kernel
theorem dX0_findHomes_57 : decode cX0_findHomes 57 = .ok (.aload_n 0, 1) := by decide +kernel
theorem dX0_findHomes_58 : decode cX0_findHomes 58 = .ok (.iload_n 1, 1) := by decide +kernel
theorem dX0_findHomes_59 : decode cX0_findHomes 59 = .ok (.invokevirtual 126, 3) := by decide +kernel
theorem dX0_findHomes_62 : decode cX0_findHomes 62 = .ok (.aload_n 0, 1) := by decide +kernel
theorem dX0_findHomes_63 : decode cX0_findHomes 63 = .ok (.invokevirtual 137, 3) := by decide +kernel
theorem dX0_findHomes_66 : decode cX0_findHomes 66 = .ok (.aload_n 0, 1) := by decide +kernel
theorem dX0_findHomes_67 : decode cX0_findHomes 67 = .ok (.aload_n 0, 1) := by decide +kernel
theorem dX0_findHomes_68 : decode cX0_findHomes 68 = .ok (.getfield 56, 3) := by decide +kernel
theorem dX0_findHomes_71 : decode cX0_findHomes 71 = .ok (.putfield 62, 3) := by decide +kernel
theorem dX0_findHomes_74 : decode cX0_findHomes 74 = .ok (.aload_n 0, 1) := by decide +kernel
theorem dX0_findHomes_75 : decode cX0_findHomes 75 = .ok (.getfield 36, 3) := by decide +kernel
theorem dX0_findHomes_78 : decode cX0_findHomes 78 = .ok (.iconst 0, 1) := by decide +kernel
theorem dX0_findHomes_79 : decode cX0_findHomes 79 = .ok (.aload_n 0, 1) := by decide +kernel
theorem dX0_findHomes_80 : decode cX0_findHomes 80 = .ok (.getfield 42, 3) := by decide +kernel
theorem dX0_findHomes_83 : decode cX0_findHomes 83 = .ok (.iconst 0, 1) := by decide +kernel
theorem dX0_findHomes_84 : decode cX0_findHomes 84 = .ok (.aload_n 0, 1) := by decide +kernel
theorem dX0_findHomes_85 : decode cX0_findHomes 85 = .ok (.getfield 49, 3) := by decide +kernel
theorem dX0_findHomes_88 : decode cX0_findHomes 88 = .ok (.invokestatic 79, 3) := by decide +kernel
theorem dX0_findHomes_91 : decode cX0_findHomes 91 = .ok (.return_, 1) := by decide +kernel
theorem dX0_lastStart_0 : decode cX0_lastStart 0 = .ok (.iconst 0, 1) := by decide +kernel
theorem dX0_lastStart_1 : decode cX0_lastStart 1 = .ok (.istore_n 1, 1) := by decide +kernel
theorem dX0_lastStart_2 : decode cX0_lastStart 2 = .ok (.aload_n 0, 1) := by decide +kernel
theorem dX0_lastStart_3 : decode cX0_lastStart 3 = .ok (.invokevirtual 123, 3) := by decide +kernel
theorem dX0_lastStart_6 : decode cX0_lastStart 6 = .ok (.iconst 0, 1) := by decide +kernel
theorem dX0_lastStart_7 : decode cX0_lastStart 7 = .ok (.istore_n 2, 1) := by decide +kernel
theorem dX0_lastStart_8 : decode cX0_lastStart 8 = .ok (.iload_n 2, 1) := by decide +kernel
theorem dX0_lastStart_9 : decode cX0_lastStart 9 = .ok (.aload_n 0, 1) := by decide +kernel
theorem dX0_lastStart_10 : decode cX0_lastStart 10 = .ok (.getfield 49, 3) := by decide +kernel
theorem dX0_lastStart_13 : decode cX0_lastStart 13 = .ok (.if_icmp .ge 35, 3) := by decide +kernel
theorem dX0_lastStart_16 : decode cX0_lastStart 16 = .ok (.aload_n 0, 1) := by decide +kernel
theorem dX0_lastStart_17 : decode cX0_lastStart 17 = .ok (.getfield 36, 3) := by decide +kernel
theorem dX0_lastStart_20 : decode cX0_lastStart 20 = .ok (.iload_n 2, 1) := by decide +kernel
theorem dX0_lastStart_21 : decode cX0_lastStart 21 = .ok (.iaload, 1) := by decide +kernel
theorem dX0_lastStart_22 : decode cX0_lastStart 22 = .ok (.ifCond .ne 20, 3) := by decide +kernel
theorem dX0_lastStart_25 : decode cX0_lastStart 25 = .ok (.iload_n 2, 1) := by decide +kernel
theorem dX0_lastStart_26 : decode cX0_lastStart 26 = .ok (.istore_n 1, 1) := by decide +kernel
theorem dX0_lastStart_27 : decode cX0_lastStart 27 = .ok (.aload_n 0, 1) := by decide +kernel
theorem dX0_lastStart_28 : decode cX0_lastStart 28 = .ok (.getfield 56, 3) := by decide +kernel
theorem dX0_lastStart_31 : decode cX0_lastStart 31 = .ok (.istore_n 3, 1) := by decide +kernel
theorem dX0_lastStart_32 : decode cX0_lastStart 32 = .ok (.aload_n 0, 1) := by decide +kernel
theorem dX0_lastStart_33 : decode cX0_lastStart 33 = .ok (.iload_n 2, 1) := by decide +kernel
theorem dX0_lastStart_34 : decode cX0_lastStart 34 = .ok (.invokevirtual 126, 3) := by decide +kernel
theorem dX0_lastStart_37 : decode cX0_lastStart 37 = .ok (.aload_n 0, 1) := by decide +kernel
theorem dX0_lastStart_38 : decode cX0_lastStart 38 = .ok (.iload_n 3, 1) := by decide +kernel
theorem dX0_lastStart_39 : decode cX0_lastStart 39 = .ok (.invokevirtual 130, 3) := by decide +kernel
theorem dX0_lastStart_42 : decode cX0_lastStart 42 = .ok (.iinc 2 1, 3) := by decide +kernel
theorem dX0_lastStart_45 : decode cX0_lastStart 45 = .ok (.goto (-37), 3) := by decide +kernel
theorem dX0_lastStart_48 : decode cX0_lastStart 48 = .ok (.iload_n 1, 1) := by decide +kernel
theorem dX0_lastStart_49 : decode cX0_lastStart 49 = .ok (.ireturn, 1) := by decide +kernel
theorem dX0_forgetSeen_0 : decode cX0_forgetSeen 0 = .ok (.aload_n 0, 1) := by decide +kernel
theorem dX0_forgetSeen_1 : decode cX0_forgetSeen 1 = .ok (.iconst 0, 1) := by decide +kernel
theorem dX0_forgetSeen_2 : decode cX0_forgetSeen 2 = .ok (.putfield 56, 3) := by decide +kernel
theorem dX0_forgetSeen_5 : decode cX0_forgetSeen 5 = .ok (.aload_n 0, 1) := by decide +kernel
theorem dX0_forgetSeen_6 : decode cX0_forgetSeen 6 = .ok (.getfield 36, 3) := by decide +kernel
theorem dX0_forgetSeen_9 : decode cX0_forgetSeen 9 = .ok (.iconst 0, 1) := by decide +kernel
theorem dX0_forgetSeen_10 : decode cX0_forgetSeen 10 = .ok (.invokestatic 68, 3) := by decide +kernel
theorem dX0_forgetSeen_13 : decode cX0_forgetSeen 13 = .ok (.return_, 1) := by decide +kernel
theorem dX0_see_0 : decode cX0_see 0 = .ok (.aload_n 0, 1) := by decide +kernel
theorem dX0_see_1 : decode cX0_see 1 = .ok (.getfield 36, 3) := by decide +kernel
theorem dX0_see_4 : decode cX0_see 4 = .ok (.iload_n 1, 1) := by decide +kernel
theorem dX0_see_5 : decode cX0_see 5 = .ok (.iaload, 1) := by decide +kernel
theorem dX0_see_6 : decode cX0_see 6 = .ok (.ifCond .ne 40, 3) := by decide +kernel
theorem dX0_see_9 : decode cX0_see 9 = .ok (.aload_n 0, 1) := by decide +kernel
theorem dX0_see_10 : decode cX0_see 10 = .ok (.getfield 56, 3) := by decide +kernel
theorem dX0_see_13 : decode cX0_see 13 = .ok (.sipush 300, 3) := by decide +kernel
theorem dX0_see_16 : decode cX0_see 16 = .ok (.if_icmp .ge 30, 3) := by decide +kernel
theorem dX0_see_19 : decode cX0_see 19 = .ok (.aload_n 0, 1) := by decide +kernel
theorem dX0_see_20 : decode cX0_see 20 = .ok (.getfield 36, 3) := by decide +kernel
theorem dX0_see_23 : decode cX0_see 23 = .ok (.iload_n 1, 1) := by decide +kernel
theorem dX0_see_24 : decode cX0_see 24 = .ok (.iconst 1, 1) := by decide +kernel
theorem dX0_see_25 : decode cX0_see 25 = .ok (.iastore, 1) := by decide +kernel
theorem dX0_see_26 : decode cX0_see 26 = .ok (.aload_n 0, 1) := by decide +kernel
theorem dX0_see_27 : decode cX0_see 27 = .ok (.getfield 39, 3) := by decide +kernel
theorem dX0_see_30 : decode cX0_see 30 = .ok (.aload_n 0, 1) := by decide +kernel
theorem dX0_see_31 : decode cX0_see 31 = .ok (.getfield 56, 3) := by decide +kernel
theorem dX0_see_34 : decode cX0_see 34 = .ok (.iload_n 1, 1) := by decide +kernel
theorem dX0_see_35 : decode cX0_see 35 = .ok (.iastore, 1) := by decide +kernel
theorem dX0_see_36 : decode cX0_see 36 = .ok (.aload_n 0, 1) := by decide +kernel
theorem dX0_see_37 : decode cX0_see 37 = .ok (.dup, 1) := by decide +kernel
theorem dX0_see_38 : decode cX0_see 38 = .ok (.getfield 56, 3) := by decide +kernel
theorem dX0_see_41 : decode cX0_see 41 = .ok (.iconst 1, 1) := by decide +kernel
theorem dX0_see_42 : decode cX0_see 42 = .ok (.iadd, 1) := by decide +kernel
theorem dX0_see_43 : decode cX0_see 43 = .ok (.putfield 56, 3) := by decide +kernel
theorem dX0_see_46 : decode cX0_see 46 = .ok (.return_, 1) := by decide +kernel
theorem dX0_spreadBack_0 : decode cX0_spreadBack 0 = .ok (.iload_n 1, 1) := by decide +kernel
theorem dX0_spreadBack_1 : decode cX0_spreadBack 1 = .ok (.istore_n 2, 1) := by decide +kernel
theorem dX0_spreadBack_2 : decode cX0_spreadBack 2 = .ok (.iload_n 2, 1) := by decide +kernel
theorem dX0_spreadBack_3 : decode cX0_spreadBack 3 = .ok (.aload_n 0, 1) := by decide +kernel
theorem dX0_spreadBack_4 : decode cX0_spreadBack 4 = .ok (.getfield 56, 3) := by decide +kernel
theorem dX0_spreadBack_7 : decode cX0_spreadBack 7 = .ok (.if_icmp .ge 61, 3) := by decide +kernel
theorem dX0_spreadBack_10 : decode cX0_spreadBack 10 = .ok (.iload_n 2, 1) := by decide +kernel
theorem dX0_spreadBack_11 : decode cX0_spreadBack 11 = .ok (.sipush 300, 3) := by decide +kernel
theorem dX0_spreadBack_14 : decode cX0_spreadBack 14 = .ok (.if_icmp .ge 54, 3) := by decide +kernel
theorem dX0_spreadBack_17 : decode cX0_spreadBack 17 = .ok (.aload_n 0, 1) := by decide +kernel
theorem dX0_spreadBack_18 : decode cX0_spreadBack 18 = .ok (.getfield 39, 3) := by decide +kernel
theorem dX0_spreadBack_21 : decode cX0_spreadBack 21 = .ok (.iload_n 2, 1) := by decide +kernel
theorem dX0_spreadBack_22 : decode cX0_spreadBack 22 = .ok (.iaload, 1) := by decide +kernel
theorem dX0_spreadBack_23 : decode cX0_spreadBack 23 = .ok (.istore_n 3, 1) := by decide +kernel
theorem dX0_spreadBack_24 : decode cX0_spreadBack 24 = .ok (.aload_n 0, 1) := by decide +kernel
theorem dX0_spreadBack_25 : decode cX0_spreadBack 25 = .ok (.getfield 30, 3) := by decide +kernel
theorem dX0_spreadBack_28 : decode cX0_spreadBack 28 = .ok (.iload_n 3, 1) := by decide +kernel
theorem dX0_spreadBack_29 : decode cX0_spreadBack 29 = .ok (.iaload, 1) := by decide +kernel
theorem dX0_spreadBack_30 : decode cX0_spreadBack 30 = .ok (.istore 4, 2) := by decide +kernel
theorem dX0_spreadBack_32 : decode cX0_spreadBack 32 = .ok (.iload 4, 2) := by decide +kernel
theorem dX0_spreadBack_34 : decode cX0_spreadBack 34 = .ok (.aload_n 0, 1) := by decide +kernel
theorem dX0_spreadBack_35 : decode cX0_spreadBack 35 = .ok (.getfield 30, 3) := by decide +kernel
theorem dX0_spreadBack_38 : decode cX0_spreadBack 38 = .ok (.iload_n 3, 1) := by decide +kernel
theorem dX0_spreadBack_39 : decode cX0_spreadBack 39 = .ok (.iconst 1, 1) := by decide +kernel
theorem dX0_spreadBack_40 : decode cX0_spreadBack 40 = .ok (.iadd, 1) := by decide +kernel
theorem dX0_spreadBack_41 : decode cX0_spreadBack 41 = .ok (.iaload, 1) := by decide +kernel
theorem dX0_spreadBack_42 : decode cX0_spreadBack 42 = .ok (.if_icmp .ge 20, 3) := by decide +kernel
theorem dX0_spreadBack_45 : decode cX0_spreadBack 45 = .ok (.aload_n 0, 1) := by decide +kernel
theorem dX0_spreadBack_46 : decode cX0_spreadBack 46 = .ok (.aload_n 0, 1) := by decide +kernel
theorem dX0_spreadBack_47 : decode cX0_spreadBack 47 = .ok (.getfield 33, 3) := by decide +kernel
theorem dX0_spreadBack_50 : decode cX0_spreadBack 50 = .ok (.iload 4, 2) := by decide +kernel
theorem dX0_spreadBack_52 : decode cX0_spreadBack 52 = .ok (.iaload, 1) := by decide +kernel
theorem dX0_spreadBack_53 : decode cX0_spreadBack 53 = .ok (.invokevirtual 126, 3) := by decide +kernel
theorem dX0_spreadBack_56 : decode cX0_spreadBack 56 = .ok (.iinc 4 1, 3) := by decide +kernel
theorem dX0_spreadBack_59 : decode cX0_spreadBack 59 = .ok (.goto (-27), 3) := by decide +kernel
theorem dX0_spreadBack_62 : decode cX0_spreadBack 62 = .ok (.iinc 2 1, 3) := by decide +kernel
theorem dX0_spreadBack_65 : decode cX0_spreadBack 65 = .ok (.goto (-63), 3) := by decide +kernel
theorem dX0_spreadBack_68 : decode cX0_spreadBack 68 = .ok (.return_, 1) := by decide +kernel
theorem dX0_spreadOn_0 : decode cX0_spreadOn 0 = .ok (.iconst 0, 1) := by decide +kernel
theorem dX0_spreadOn_1 : decode cX0_spreadOn 1 = .ok (.istore_n 1, 1) := by decide +kernel
theorem dX0_spreadOn_2 : decode cX0_spreadOn 2 = .ok (.iload_n 1, 1) := by decide +kernel
theorem dX0_spreadOn_3 : decode cX0_spreadOn 3 = .ok (.aload_n 0, 1) := by decide +kernel
theorem dX0_spreadOn_4 : decode cX0_spreadOn 4 = .ok (.getfield 56, 3) := by decide +kernel
theorem dX0_spreadOn_7 : decode cX0_spreadOn 7 = .ok (.if_icmp .ge 67, 3) := by decide +kernel
theorem dX0_spreadOn_10 : decode cX0_spreadOn 10 = .ok (.iload_n 1, 1) := by decide +kernel
theorem dX0_spreadOn_11 : decode cX0_spreadOn 11 = .ok (.sipush 300, 3) := by decide +kernel
theorem dX0_spreadOn_14 : decode cX0_spreadOn 14 = .ok (.if_icmp .ge 60, 3) := by decide +kernel
theorem dX0_spreadOn_17 : decode cX0_spreadOn 17 = .ok (.aload_n 0, 1) := by decide +kernel
theorem dX0_spreadOn_18 : decode cX0_spreadOn 18 = .ok (.getfield 39, 3) := by decide +kernel
theorem dX0_spreadOn_21 : decode cX0_spreadOn 21 = .ok (.iload_n 1, 1) := by decide +kernel
theorem dX0_spreadOn_22 : decode cX0_spreadOn 22 = .ok (.iaload, 1) := by decide +kernel
theorem dX0_spreadOn_23 : decode cX0_spreadOn 23 = .ok (.istore_n 2, 1) := by decide +kernel
theorem dX0_spreadOn_24 : decode cX0_spreadOn 24 = .ok (.iconst 0, 1) := by decide +kernel
theorem dX0_spreadOn_25 : decode cX0_spreadOn 25 = .ok (.istore_n 3, 1) := by decide +kernel
theorem dX0_spreadOn_26 : decode cX0_spreadOn 26 = .ok (.iload_n 3, 1) := by decide +kernel
theorem dX0_spreadOn_27 : decode cX0_spreadOn 27 = .ok (.bipush 8, 2) := by decide +kernel
theorem dX0_spreadOn_29 : decode cX0_spreadOn 29 = .ok (.if_icmp .ge 39, 3) := by decide +kernel
theorem dX0_spreadOn_32 : decode cX0_spreadOn 32 = .ok (.aload_n 0, 1) := by decide +kernel
theorem dX0_spreadOn_33 : decode cX0_spreadOn 33 = .ok (.getfield 24, 3) := by decide +kernel
theorem dX0_spreadOn_36 : decode cX0_spreadOn 36 = .ok (.iload_n 2, 1) := by decide +kernel
theorem dX0_spreadOn_37 : decode cX0_spreadOn 37 = .ok (.bipush 8, 2) := by decide +kernel
theorem dX0_spreadOn_39 : decode cX0_spreadOn 39 = .ok (.imul, 1) := by decide +kernel
theorem dX0_spreadOn_40 : decode cX0_spreadOn 40 = .ok (.iload_n 3, 1) := by decide +kernel
theorem dX0_spreadOn_41 : decode cX0_spreadOn 41 = .ok (.iadd, 1) := by decide +kernel
theorem dX0_spreadOn_42 : decode cX0_spreadOn 42 = .ok (.iaload, 1) := by decide +kernel
theorem dX0_spreadOn_43 : decode cX0_spreadOn 43 = .ok (.iconst (-1), 1) := by decide +kernel
theorem dX0_spreadOn_44 : decode cX0_spreadOn 44 = .ok (.if_icmp .eq 18, 3) := by decide +kernel
theorem dX0_spreadOn_47 : decode cX0_spreadOn 47 = .ok (.aload_n 0, 1) := by decide +kernel
theorem dX0_spreadOn_48 : decode cX0_spreadOn 48 = .ok (.aload_n 0, 1) := by decide +kernel
theorem dX0_spreadOn_49 : decode cX0_spreadOn 49 = .ok (.getfield 24, 3) := by decide +kernel
theorem dX0_spreadOn_52 : decode cX0_spreadOn 52 = .ok (.iload_n 2, 1) := by decide +kernel
theorem dX0_spreadOn_53 : decode cX0_spreadOn 53 = .ok (.bipush 8, 2) := by decide +kernel
theorem dX0_spreadOn_55 : decode cX0_spreadOn 55 = .ok (.imul, 1) := by decide +kernel
theorem dX0_spreadOn_56 : decode cX0_spreadOn 56 = .ok (.iload_n 3, 1) := by decide +kernel
theorem dX0_spreadOn_57 : decode cX0_spreadOn 57 = .ok (.iadd, 1) := by decide +kernel
theorem dX0_spreadOn_58 : decode cX0_spreadOn 58 = .ok (.iaload, 1) := by decide +kernel
theorem dX0_spreadOn_59 : decode cX0_spreadOn 59 = .ok (.invokevirtual 126, 3) := by decide +kernel
theorem dX0_spreadOn_62 : decode cX0_spreadOn 62 = .ok (.iinc 3 1, 3) := by decide +kernel
theorem dX0_spreadOn_65 : decode cX0_spreadOn 65 = .ok (.goto (-39), 3) := by decide +kernel
theorem dX0_spreadOn_68 : decode cX0_spreadOn 68 = .ok (.iinc 1 1, 3) := by decide +kernel
theorem dX0_spreadOn_71 : decode cX0_spreadOn 71 = .ok (.goto (-69), 3) := by decide +kernel
theorem dX0_spreadOn_74 : decode cX0_spreadOn 74 = .ok (.return_, 1) := by decide +kernel
theorem dX0_linkBack_0 : decode cX0_linkBack 0 = .ok (.aload_n 0, 1) := by decide +kernel
theorem dX0_linkBack_1 : decode cX0_linkBack 1 = .ok (.getfield 59, 3) := by decide +kernel
theorem dX0_linkBack_4 : decode cX0_linkBack 4 = .ok (.ifCond .eq 4, 3) := by decide +kernel
theorem dX0_linkBack_7 : decode cX0_linkBack 7 = .ok (.return_, 1) := by decide +kernel
theorem dX0_linkBack_8 : decode cX0_linkBack 8 = .ok (.aload_n 0, 1) := by decide +kernel
theorem dX0_linkBack_9 : decode cX0_linkBack 9 = .ok (.iconst 1, 1) := by decide +kernel
theorem dX0_linkBack_10 : decode cX0_linkBack 10 = .ok (.putfield 59, 3) := by decide +kernel
theorem dX0_linkBack_13 : decode cX0_linkBack 13 = .ok (.aload_n 0, 1) := by decide +kernel
theorem dX0_linkBack_14 : decode cX0_linkBack 14 = .ok (.getfield 30, 3) := by decide +kernel
theorem dX0_linkBack_17 : decode cX0_linkBack 17 = .ok (.iconst 0, 1) := by decide +kernel
theorem dX0_linkBack_18 : decode cX0_linkBack 18 = .ok (.invokestatic 68, 3) := by decide +kernel
theorem dX0_linkBack_21 : decode cX0_linkBack 21 = .ok (.iconst 0, 1) := by decide +kernel
theorem dX0_linkBack_22 : decode cX0_linkBack 22 = .ok (.istore_n 1, 1) := by decide +kernel
theorem dX0_linkBack_23 : decode cX0_linkBack 23 = .ok (.iload_n 1, 1) := by decide +kernel
theorem dX0_linkBack_24 : decode cX0_linkBack 24 = .ok (.aload_n 0, 1) := by decide +kernel
theorem dX0_linkBack_25 : decode cX0_linkBack 25 = .ok (.getfield 49, 3) := by decide +kernel
theorem dX0_linkBack_28 : decode cX0_linkBack 28 = .ok (.bipush 8, 2) := by decide +kernel
theorem dX0_linkBack_30 : decode cX0_linkBack 30 = .ok (.imul, 1) := by decide +kernel
theorem dX0_linkBack_31 : decode cX0_linkBack 31 = .ok (.if_icmp .ge 34, 3) := by decide +kernel
theorem dX0_linkBack_34 : decode cX0_linkBack 34 = .ok (.aload_n 0, 1) := by decide +kernel
theorem dX0_linkBack_35 : decode cX0_linkBack 35 = .ok (.getfield 24, 3) := by decide +kernel
theorem dX0_linkBack_38 : decode cX0_linkBack 38 = .ok (.iload_n 1, 1) := by decide +kernel
theorem dX0_linkBack_39 : decode cX0_linkBack 39 = .ok (.iaload, 1) := by decide +kernel
theorem dX0_linkBack_40 : decode cX0_linkBack 40 = .ok (.iconst (-1), 1) := by decide +kernel
theorem dX0_linkBack_41 : decode cX0_linkBack 41 = .ok (.if_icmp .eq 18, 3) := by decide +kernel
theorem dX0_linkBack_44 : decode cX0_linkBack 44 = .ok (.aload_n 0, 1) := by decide +kernel
theorem dX0_linkBack_45 : decode cX0_linkBack 45 = .ok (.getfield 30, 3) := by decide +kernel
theorem dX0_linkBack_48 : decode cX0_linkBack 48 = .ok (.aload_n 0, 1) := by decide +kernel
theorem dX0_linkBack_49 : decode cX0_linkBack 49 = .ok (.getfield 24, 3) := by decide +kernel
theorem dX0_linkBack_52 : decode cX0_linkBack 52 = .ok (.iload_n 1, 1) := by decide +kernel
theorem dX0_linkBack_53 : decode cX0_linkBack 53 = .ok (.iaload, 1) := by decide +kernel
theorem dX0_linkBack_54 : decode cX0_linkBack 54 = .ok (.dup2, 1) := by decide +kernel
theorem dX0_linkBack_55 : decode cX0_linkBack 55 = .ok (.iaload, 1) := by decide +kernel
theorem dX0_linkBack_56 : decode cX0_linkBack 56 = .ok (.iconst 1, 1) := by decide +kernel
theorem dX0_linkBack_57 : decode cX0_linkBack 57 = .ok (.iadd, 1) := by decide +kernel
theorem dX0_linkBack_58 : decode cX0_linkBack 58 = .ok (.iastore, 1) := by decide +kernel
theorem dX0_linkBack_59 : decode cX0_linkBack 59 = .ok (.iinc 1 1, 3) := by decide +kernel
theorem dX0_linkBack_62 : decode cX0_linkBack 62 = .ok (.goto (-39), 3) := by decide +kernel
theorem dX0_linkBack_65 : decode cX0_linkBack 65 = .ok (.iconst 0, 1) := by decide +kernel
theorem dX0_linkBack_66 : decode cX0_linkBack 66 = .ok (.istore_n 1, 1) := by decide +kernel
theorem dX0_linkBack_67 : decode cX0_linkBack 67 = .ok (.iconst 0, 1) := by decide +kernel
theorem dX0_linkBack_68 : decode cX0_linkBack 68 = .ok (.istore_n 2, 1) := by decide +kernel
theorem dX0_linkBack_69 : decode cX0_linkBack 69 = .ok (.iload_n 2, 1) := by decide +kernel
theorem dX0_linkBack_70 : decode cX0_linkBack 70 = .ok (.aload_n 0, 1) := by decide +kernel
theorem dX0_linkBack_71 : decode cX0_linkBack 71 = .ok (.getfield 49, 3) := by decide +kernel
theorem dX0_linkBack_74 : decode cX0_linkBack 74 = .ok (.if_icmp .gt 25, 3) := by decide +kernel
theorem dX0_linkBack_77 : decode cX0_linkBack 77 = .ok (.iload_n 1, 1) := by decide +kernel
theorem dX0_linkBack_78 : decode cX0_linkBack 78 = .ok (.aload_n 0, 1) := by decide +kernel
theorem dX0_linkBack_79 : decode cX0_linkBack 79 = .ok (.getfield 30, 3) := by decide +kernel
theorem dX0_linkBack_82 : decode cX0_linkBack 82 = .ok (.iload_n 2, 1) := by decide +kernel
theorem dX0_linkBack_83 : decode cX0_linkBack 83 = .ok (.iaload, 1) := by decide +kernel
theorem dX0_linkBack_84 : decode cX0_linkBack 84 = .ok (.iadd, 1) := by decide +kernel
theorem dX0_linkBack_85 : decode cX0_linkBack 85 = .ok (.istore_n 1, 1) := by decide +kernel
theorem dX0_linkBack_86 : decode cX0_linkBack 86 = .ok (.aload_n 0, 1) := by decide +kernel
theorem dX0_linkBack_87 : decode cX0_linkBack 87 = .ok (.getfield 30, 3) := by decide +kernel
theorem dX0_linkBack_90 : decode cX0_linkBack 90 = .ok (.iload_n 2, 1) := by decide +kernel
theorem dX0_linkBack_91 : decode cX0_linkBack 91 = .ok (.iload_n 1, 1) := by decide +kernel
theorem dX0_linkBack_92 : decode cX0_linkBack 92 = .ok (.iastore, 1) := by decide +kernel
theorem dX0_linkBack_93 : decode cX0_linkBack 93 = .ok (.iinc 2 1, 3) := by decide +kernel
theorem dX0_linkBack_96 : decode cX0_linkBack 96 = .ok (.goto (-27), 3) := by decide +kernel
theorem dX0_linkBack_99 : decode cX0_linkBack 99 = .ok (.iconst 0, 1) := by decide +kernel
theorem dX0_linkBack_100 : decode cX0_linkBack 100 = .ok (.istore_n 2, 1) := by decide +kernel
theorem dX0_linkBack_101 : decode cX0_linkBack 101 = .ok (.iload_n 2, 1) := by decide +kernel
theorem dX0_linkBack_102 : decode cX0_linkBack 102 = .ok (.aload_n 0, 1) := by decide +kernel
theorem dX0_linkBack_103 : decode cX0_linkBack 103 = .ok (.getfield 49, 3) := by decide +kernel
theorem dX0_linkBack_106 : decode cX0_linkBack 106 = .ok (.bipush 8, 2) := by decide +kernel
theorem dX0_linkBack_108 : decode cX0_linkBack 108 = .ok (.imul, 1) := by decide +kernel
theorem dX0_linkBack_109 : decode cX0_linkBack 109 = .ok (.if_icmp .ge 54, 3) := by decide +kernel
theorem dX0_linkBack_112 : decode cX0_linkBack 112 = .ok (.aload_n 0, 1) := by decide +kernel
theorem dX0_linkBack_113 : decode cX0_linkBack 113 = .ok (.getfield 24, 3) := by decide +kernel
theorem dX0_linkBack_116 : decode cX0_linkBack 116 = .ok (.iload_n 2, 1) := by decide +kernel
theorem dX0_linkBack_117 : decode cX0_linkBack 117 = .ok (.iaload, 1) := by decide +kernel
theorem dX0_linkBack_118 : decode cX0_linkBack 118 = .ok (.iconst (-1), 1) := by decide +kernel
theorem dX0_linkBack_119 : decode cX0_linkBack 119 = .ok (.if_icmp .eq 38, 3) := by decide +kernel
theorem dX0_linkBack_122 : decode cX0_linkBack 122 = .ok (.aload_n 0, 1) := by decide +kernel
theorem dX0_linkBack_123 : decode cX0_linkBack 123 = .ok (.getfield 30, 3) := by decide +kernel
theorem dX0_linkBack_126 : decode cX0_linkBack 126 = .ok (.aload_n 0, 1) := by decide +kernel
theorem dX0_linkBack_127 : decode cX0_linkBack 127 = .ok (.getfield 24, 3) := by decide +kernel
theorem dX0_linkBack_130 : decode cX0_linkBack 130 = .ok (.iload_n 2, 1) := by decide +kernel
theorem dX0_linkBack_131 : decode cX0_linkBack 131 = .ok (.iaload, 1) := by decide +kernel
theorem dX0_linkBack_132 : decode cX0_linkBack 132 = .ok (.dup2, 1) := by decide +kernel
theorem dX0_linkBack_133 : decode cX0_linkBack 133 = .ok (.iaload, 1) := by decide +kernel
theorem dX0_linkBack_134 : decode cX0_linkBack 134 = .ok (.iconst 1, 1) := by decide +kernel
theorem dX0_linkBack_135 : decode cX0_linkBack 135 = .ok (.isub, 1) := by decide +kernel
theorem dX0_linkBack_136 : decode cX0_linkBack 136 = .ok (.iastore, 1) := by decide +kernel
theorem dX0_linkBack_137 : decode cX0_linkBack 137 = .ok (.aload_n 0, 1) := by decide +kernel
theorem dX0_linkBack_138 : decode cX0_linkBack 138 = .ok (.getfield 33, 3) := by decide +kernel
theorem dX0_linkBack_141 : decode cX0_linkBack 141 = .ok (.aload_n 0, 1) := by decide +kernel
theorem dX0_linkBack_142 : decode cX0_linkBack 142 = .ok (.getfield 30, 3) := by decide +kernel
theorem dX0_linkBack_145 : decode cX0_linkBack 145 = .ok (.aload_n 0, 1) := by decide +kernel
theorem dX0_linkBack_146 : decode cX0_linkBack 146 = .ok (.getfield 24, 3) := by decide +kernel
theorem dX0_linkBack_149 : decode cX0_linkBack 149 = .ok (.iload_n 2, 1) := by decide +kernel
theorem dX0_linkBack_150 : decode cX0_linkBack 150 = .ok (.iaload, 1) := by decide +kernel
theorem dX0_linkBack_151 : decode cX0_linkBack 151 = .ok (.iaload, 1) := by decide +kernel
theorem dX0_linkBack_152 : decode cX0_linkBack 152 = .ok (.iload_n 2, 1) := by decide +kernel
theorem dX0_linkBack_153 : decode cX0_linkBack 153 = .ok (.bipush 8, 2) := by decide +kernel
theorem dX0_linkBack_155 : decode cX0_linkBack 155 = .ok (.idiv, 1) := by decide +kernel
theorem dX0_linkBack_156 : decode cX0_linkBack 156 = .ok (.iastore, 1) := by decide +kernel
theorem dX0_linkBack_157 : decode cX0_linkBack 157 = .ok (.iinc 2 1, 3) := by decide +kernel
theorem dX0_linkBack_160 : decode cX0_linkBack 160 = .ok (.goto (-59), 3) := by decide +kernel
theorem dX0_linkBack_163 : decode cX0_linkBack 163 = .ok (.return_, 1) := by decide +kernel
theorem dX1_init_0 : decode cX1_init 0 = .ok (.aload_n 0, 1) := by decide +kernel
theorem dX1_init_1 : decode cX1_init 1 = .ok (.invokespecial 3, 3) := by decide +kernel
theorem dX1_init_4 : decode cX1_init 4 = .ok (.aload_n 0, 1) := by decide +kernel
theorem dX1_init_5 : decode cX1_init 5 = .ok (.bipush 80, 2) := by decide +kernel
theorem dX1_init_7 : decode cX1_init 7 = .ok (.newarray .int, 2) := by decide +kernel
theorem dX1_init_9 : decode cX1_init 9 = .ok (.putfield 9, 3) := by decide +kernel
theorem dX1_init_12 : decode cX1_init 12 = .ok (.aload_n 0, 1) := by decide +kernel
theorem dX1_init_13 : decode cX1_init 13 = .ok (.bipush 80, 2) := by decide +kernel
theorem dX1_init_15 : decode cX1_init 15 = .ok (.newarray .int, 2) := by decide +kernel
theorem dX1_init_17 : decode cX1_init 17 = .ok (.putfield 15, 3) := by decide +kernel
theorem dX1_init_20 : decode cX1_init 20 = .ok (.aload_n 0, 1) := by decide +kernel
theorem dX1_init_21 : decode cX1_init 21 = .ok (.bipush 10, 2) := by decide +kernel
theorem dX1_init_23 : decode cX1_init 23 = .ok (.newarray .int, 2) := by decide +kernel
theorem dX1_init_25 : decode cX1_init 25 = .ok (.putfield 18, 3) := by decide +kernel
theorem dX1_init_28 : decode cX1_init 28 = .ok (.aload_n 0, 1) := by decide +kernel
theorem dX1_init_29 : decode cX1_init 29 = .ok (.iconst 0, 1) := by decide +kernel
theorem dX1_init_30 : decode cX1_init 30 = .ok (.putfield 21, 3) := by decide +kernel
theorem dX1_init_33 : decode cX1_init 33 = .ok (.aload_n 0, 1) := by decide +kernel
theorem dX1_init_34 : decode cX1_init 34 = .ok (.iconst 0, 1) := by decide +kernel
theorem dX1_init_35 : decode cX1_init 35 = .ok (.putfield 25, 3) := by decide +kernel
theorem dX1_init_38 : decode cX1_init 38 = .ok (.aload_n 0, 1) := by decide +kernel
theorem dX1_init_39 : decode cX1_init 39 = .ok (.iconst 0, 1) := by decide +kernel
theorem dX1_init_40 : decode cX1_init 40 = .ok (.putfield 28, 3) := by decide +kernel
theorem dX1_init_43 : decode cX1_init 43 = .ok (.aload_n 0, 1) := by decide +kernel
theorem dX1_init_44 : decode cX1_init 44 = .ok (.iconst 0, 1) := by decide +kernel
theorem dX1_init_45 : decode cX1_init 45 = .ok (.putfield 31, 3) := by decide +kernel
theorem dX1_init_48 : decode cX1_init 48 = .ok (.aload_n 0, 1) := by decide +kernel
theorem dX1_init_49 : decode cX1_init 49 = .ok (.iconst 0, 1) := by decide +kernel
theorem dX1_init_50 : decode cX1_init 50 = .ok (.putfield 34, 3) := by decide +kernel
theorem dX1_init_53 : decode cX1_init 53 = .ok (.aload_n 0, 1) := by decide +kernel
theorem dX1_init_54 : decode cX1_init 54 = .ok (.iconst 0, 1) := by decide +kernel
theorem dX1_init_55 : decode cX1_init 55 = .ok (.putfield 37, 3) := by decide +kernel
theorem dX1_init_58 : decode cX1_init 58 = .ok (.return_, 1) := by decide +kernel
theorem dX1_clear_0 : decode cX1_clear 0 = .ok (.aload_n 0, 1) := by decide +kernel
theorem dX1_clear_1 : decode cX1_clear 1 = .ok (.getfield 9, 3) := by decide +kernel
theorem dX1_clear_4 : decode cX1_clear 4 = .ok (.iconst 0, 1) := by decide +kernel
theorem dX1_clear_5 : decode cX1_clear 5 = .ok (.invokestatic 40, 3) := by decide +kernel
theorem dX1_clear_8 : decode cX1_clear 8 = .ok (.aload_n 0, 1) := by decide +kernel
theorem dX1_clear_9 : decode cX1_clear 9 = .ok (.getfield 15, 3) := by decide +kernel
theorem dX1_clear_12 : decode cX1_clear 12 = .ok (.iconst 0, 1) := by decide +kernel
theorem dX1_clear_13 : decode cX1_clear 13 = .ok (.invokestatic 40, 3) := by decide +kernel
theorem dX1_clear_16 : decode cX1_clear 16 = .ok (.aload_n 0, 1) := by decide +kernel
theorem dX1_clear_17 : decode cX1_clear 17 = .ok (.getfield 18, 3) := by decide +kernel
theorem dX1_clear_20 : decode cX1_clear 20 = .ok (.iconst 0, 1) := by decide +kernel
theorem dX1_clear_21 : decode cX1_clear 21 = .ok (.invokestatic 40, 3) := by decide +kernel
theorem dX1_clear_24 : decode cX1_clear 24 = .ok (.aload_n 0, 1) := by decide +kernel
theorem dX1_clear_25 : decode cX1_clear 25 = .ok (.iconst 0, 1) := by decide +kernel
theorem dX1_clear_26 : decode cX1_clear 26 = .ok (.putfield 21, 3) := by decide +kernel
theorem dX1_clear_29 : decode cX1_clear 29 = .ok (.aload_n 0, 1) := by decide +kernel
theorem dX1_clear_30 : decode cX1_clear 30 = .ok (.iconst 0, 1) := by decide +kernel
theorem dX1_clear_31 : decode cX1_clear 31 = .ok (.putfield 25, 3) := by decide +kernel
theorem dX1_clear_34 : decode cX1_clear 34 = .ok (.aload_n 0, 1) := by decide +kernel
theorem dX1_clear_35 : decode cX1_clear 35 = .ok (.iconst 0, 1) := by decide +kernel
theorem dX1_clear_36 : decode cX1_clear 36 = .ok (.putfield 28, 3) := by decide +kernel
theorem dX1_clear_39 : decode cX1_clear 39 = .ok (.aload_n 0, 1) := by decide +kernel
theorem dX1_clear_40 : decode cX1_clear 40 = .ok (.iconst 0, 1) := by decide +kernel
theorem dX1_clear_41 : decode cX1_clear 41 = .ok (.putfield 31, 3) := by decide +kernel
theorem dX1_clear_44 : decode cX1_clear 44 = .ok (.return_, 1) := by decide +kernel
theorem dX1_copyFrom_0 : decode cX1_copyFrom 0 = .ok (.aload_n 1, 1) := by decide +kernel
theorem dX1_copyFrom_1 : decode cX1_copyFrom 1 = .ok (.getfield 9, 3) := by decide +kernel
theorem dX1_copyFrom_4 : decode cX1_copyFrom 4 = .ok (.iconst 0, 1) := by decide +kernel
theorem dX1_copyFrom_5 : decode cX1_copyFrom 5 = .ok (.aload_n 0, 1) := by decide +kernel
theorem dX1_copyFrom_6 : decode cX1_copyFrom 6 = .ok (.getfield 9, 3) := by decide +kernel
theorem dX1_copyFrom_9 : decode cX1_copyFrom 9 = .ok (.iconst 0, 1) := by decide +kernel
theorem dX1_copyFrom_10 : decode cX1_copyFrom 10 = .ok (.bipush 80, 2) := by decide +kernel
theorem dX1_copyFrom_12 : decode cX1_copyFrom 12 = .ok (.invokestatic 46, 3) := by decide +kernel
theorem dX1_copyFrom_15 : decode cX1_copyFrom 15 = .ok (.aload_n 1, 1) := by decide +kernel
theorem dX1_copyFrom_16 : decode cX1_copyFrom 16 = .ok (.getfield 15, 3) := by decide +kernel
theorem dX1_copyFrom_19 : decode cX1_copyFrom 19 = .ok (.iconst 0, 1) := by decide +kernel
theorem dX1_copyFrom_20 : decode cX1_copyFrom 20 = .ok (.aload_n 0, 1) := by decide +kernel
theorem dX1_copyFrom_21 : decode cX1_copyFrom 21 = .ok (.getfield 15, 3) := by decide +kernel
theorem dX1_copyFrom_24 : decode cX1_copyFrom 24 = .ok (.iconst 0, 1) := by decide +kernel
theorem dX1_copyFrom_25 : decode cX1_copyFrom 25 = .ok (.bipush 80, 2) := by decide +kernel
theorem dX1_copyFrom_27 : decode cX1_copyFrom 27 = .ok (.invokestatic 46, 3) := by decide +kernel
theorem dX1_copyFrom_30 : decode cX1_copyFrom 30 = .ok (.aload_n 1, 1) := by decide +kernel
theorem dX1_copyFrom_31 : decode cX1_copyFrom 31 = .ok (.getfield 18, 3) := by decide +kernel
theorem dX1_copyFrom_34 : decode cX1_copyFrom 34 = .ok (.iconst 0, 1) := by decide +kernel
theorem dX1_copyFrom_35 : decode cX1_copyFrom 35 = .ok (.aload_n 0, 1) := by decide +kernel
theorem dX1_copyFrom_36 : decode cX1_copyFrom 36 = .ok (.getfield 18, 3) := by decide +kernel
theorem dX1_copyFrom_39 : decode cX1_copyFrom 39 = .ok (.iconst 0, 1) := by decide +kernel
theorem dX1_copyFrom_40 : decode cX1_copyFrom 40 = .ok (.bipush 10, 2) := by decide +kernel
theorem dX1_copyFrom_42 : decode cX1_copyFrom 42 = .ok (.invokestatic 46, 3) := by decide +kernel
theorem dX1_copyFrom_45 : decode cX1_copyFrom 45 = .ok (.aload_n 0, 1) := by decide +kernel
theorem dX1_copyFrom_46 : decode cX1_copyFrom 46 = .ok (.aload_n 1, 1) := by decide +kernel
theorem dX1_copyFrom_47 : decode cX1_copyFrom 47 = .ok (.getfield 21, 3) := by decide +kernel
theorem dX1_copyFrom_50 : decode cX1_copyFrom 50 = .ok (.putfield 21, 3) := by decide +kernel
theorem dX1_copyFrom_53 : decode cX1_copyFrom 53 = .ok (.aload_n 0, 1) := by decide +kernel
theorem dX1_copyFrom_54 : decode cX1_copyFrom 54 = .ok (.aload_n 1, 1) := by decide +kernel
theorem dX1_copyFrom_55 : decode cX1_copyFrom 55 = .ok (.getfield 25, 3) := by decide +kernel
theorem dX1_copyFrom_58 : decode cX1_copyFrom 58 = .ok (.putfield 25, 3) := by decide +kernel
theorem dX1_copyFrom_61 : decode cX1_copyFrom 61 = .ok (.aload_n 0, 1) := by decide +kernel
theorem dX1_copyFrom_62 : decode cX1_copyFrom 62 = .ok (.aload_n 1, 1) := by decide +kernel
theorem dX1_copyFrom_63 : decode cX1_copyFrom 63 = .ok (.getfield 28, 3) := by decide +kernel
theorem dX1_copyFrom_66 : decode cX1_copyFrom 66 = .ok (.putfield 28, 3) := by decide +kernel
theorem dX1_copyFrom_69 : decode cX1_copyFrom 69 = .ok (.aload_n 0, 1) := by decide +kernel
theorem dX1_copyFrom_70 : decode cX1_copyFrom 70 = .ok (.aload_n 1, 1) := by decide +kernel
theorem dX1_copyFrom_71 : decode cX1_copyFrom 71 = .ok (.getfield 31, 3) := by decide +kernel
theorem dX1_copyFrom_74 : decode cX1_copyFrom 74 = .ok (.putfield 31, 3) := by decide +kernel
theorem dX1_copyFrom_77 : decode cX1_copyFrom 77 = .ok (.aload_n 0, 1) := by decide +kernel
theorem dX1_copyFrom_78 : decode cX1_copyFrom 78 = .ok (.aload_n 1, 1) := by decide +kernel
theorem dX1_copyFrom_79 : decode cX1_copyFrom 79 = .ok (.getfield 34, 3) := by decide +kernel
theorem dX1_copyFrom_82 : decode cX1_copyFrom 82 = .ok (.putfield 34, 3) := by decide +kernel
theorem dX1_copyFrom_85 : decode cX1_copyFrom 85 = .ok (.aload_n 0, 1) := by decide +kernel
theorem dX1_copyFrom_86 : decode cX1_copyFrom 86 = .ok (.aload_n 1, 1) := by decide +kernel
theorem dX1_copyFrom_87 : decode cX1_copyFrom 87 = .ok (.getfield 37, 3) := by decide +kernel
theorem dX1_copyFrom_90 : decode cX1_copyFrom 90 = .ok (.putfield 37, 3) := by decide +kernel
theorem dX1_copyFrom_93 : decode cX1_copyFrom 93 = .ok (.return_, 1) := by decide +kernel
theorem dX1_addPlace_0 : decode cX1_addPlace 0 = .ok (.aload_n 0, 1) := by decide +kernel
theorem dX1_addPlace_1 : decode cX1_addPlace 1 = .ok (.getfield 21, 3) := by decide +kernel
theorem dX1_addPlace_4 : decode cX1_addPlace 4 = .ok (.bipush 10, 2) := by decide +kernel
theorem dX1_addPlace_6 : decode cX1_addPlace 6 = .ok (.if_icmp .ge 38, 3) := by decide +kernel
theorem dX1_addPlace_9 : decode cX1_addPlace 9 = .ok (.aload_n 0, 1) := by decide +kernel
theorem dX1_addPlace_10 : decode cX1_addPlace 10 = .ok (.getfield 18, 3) := by decide +kernel
theorem dX1_addPlace_13 : decode cX1_addPlace 13 = .ok (.aload_n 0, 1) := by decide +kernel
theorem dX1_addPlace_14 : decode cX1_addPlace 14 = .ok (.getfield 21, 3) := by decide +kernel
theorem dX1_addPlace_17 : decode cX1_addPlace 17 = .ok (.iload_n 1, 1) := by decide +kernel
theorem dX1_addPlace_18 : decode cX1_addPlace 18 = .ok (.iastore, 1) := by decide +kernel
theorem dX1_addPlace_19 : decode cX1_addPlace 19 = .ok (.aload_n 0, 1) := by decide +kernel
theorem dX1_addPlace_20 : decode cX1_addPlace 20 = .ok (.dup, 1) := by decide +kernel
theorem dX1_addPlace_21 : decode cX1_addPlace 21 = .ok (.getfield 28, 3) := by decide +kernel
theorem dX1_addPlace_24 : decode cX1_addPlace 24 = .ok (.iconst 1, 1) := by decide +kernel
theorem dX1_addPlace_25 : decode cX1_addPlace 25 = .ok (.aload_n 0, 1) := by decide +kernel
theorem dX1_addPlace_26 : decode cX1_addPlace 26 = .ok (.getfield 21, 3) := by decide +kernel
theorem dX1_addPlace_29 : decode cX1_addPlace 29 = .ok (.ishl, 1) := by decide +kernel
theorem dX1_addPlace_30 : decode cX1_addPlace 30 = .ok (.ior, 1) := by decide +kernel
theorem dX1_addPlace_31 : decode cX1_addPlace 31 = .ok (.putfield 28, 3) := by decide +kernel
theorem dX1_addPlace_34 : decode cX1_addPlace 34 = .ok (.aload_n 0, 1) := by decide +kernel
theorem dX1_addPlace_35 : decode cX1_addPlace 35 = .ok (.dup, 1) := by decide +kernel
theorem dX1_addPlace_36 : decode cX1_addPlace 36 = .ok (.getfield 21, 3) := by decide +kernel
theorem dX1_addPlace_39 : decode cX1_addPlace 39 = .ok (.iconst 1, 1) := by decide +kernel
theorem dX1_addPlace_40 : decode cX1_addPlace 40 = .ok (.iadd, 1) := by decide +kernel
theorem dX1_addPlace_41 : decode cX1_addPlace 41 = .ok (.putfield 21, 3) := by decide +kernel
theorem dX1_addPlace_44 : decode cX1_addPlace 44 = .ok (.return_, 1) := by decide +kernel
theorem dX1_addStep_0 : decode cX1_addStep 0 = .ok (.aload_n 0, 1) := by decide +kernel
theorem dX1_addStep_1 : decode cX1_addStep 1 = .ok (.getfield 25, 3) := by decide +kernel
theorem dX1_addStep_4 : decode cX1_addStep 4 = .ok (.bipush 8, 2) := by decide +kernel
theorem dX1_addStep_6 : decode cX1_addStep 6 = .ok (.if_icmp .ge 28, 3) := by decide +kernel
theorem dX1_addStep_9 : decode cX1_addStep 9 = .ok (.aload_n 0, 1) := by decide +kernel
theorem dX1_addStep_10 : decode cX1_addStep 10 = .ok (.dup, 1) := by decide +kernel
theorem dX1_addStep_11 : decode cX1_addStep 11 = .ok (.getfield 31, 3) := by decide +kernel
theorem dX1_addStep_14 : decode cX1_addStep 14 = .ok (.iconst 1, 1) := by decide +kernel
theorem dX1_addStep_15 : decode cX1_addStep 15 = .ok (.aload_n 0, 1) := by decide +kernel
theorem dX1_addStep_16 : decode cX1_addStep 16 = .ok (.getfield 25, 3) := by decide +kernel
theorem dX1_addStep_19 : decode cX1_addStep 19 = .ok (.ishl, 1) := by decide +kernel
theorem dX1_addStep_20 : decode cX1_addStep 20 = .ok (.ior, 1) := by decide +kernel
theorem dX1_addStep_21 : decode cX1_addStep 21 = .ok (.putfield 31, 3) := by decide +kernel
theorem dX1_addStep_24 : decode cX1_addStep 24 = .ok (.aload_n 0, 1) := by decide +kernel
theorem dX1_addStep_25 : decode cX1_addStep 25 = .ok (.dup, 1) := by decide +kernel
theorem dX1_addStep_26 : decode cX1_addStep 26 = .ok (.getfield 25, 3) := by decide +kernel
theorem dX1_addStep_29 : decode cX1_addStep 29 = .ok (.iconst 1, 1) := by decide +kernel
theorem dX1_addStep_30 : decode cX1_addStep 30 = .ok (.iadd, 1) := by decide +kernel
theorem dX1_addStep_31 : decode cX1_addStep 31 = .ok (.putfield 25, 3) := by decide +kernel
theorem dX1_addStep_34 : decode cX1_addStep 34 = .ok (.return_, 1) := by decide +kernel
theorem dX1_dropPlace_0 : decode cX1_dropPlace 0 = .ok (.iconst 0, 1) := by decide +kernel
theorem dX1_dropPlace_1 : decode cX1_dropPlace 1 = .ok (.istore_n 2, 1) := by decide +kernel
theorem dX1_dropPlace_2 : decode cX1_dropPlace 2 = .ok (.iload_n 2, 1) := by decide +kernel
theorem dX1_dropPlace_3 : decode cX1_dropPlace 3 = .ok (.bipush 8, 2) := by decide +kernel
theorem dX1_dropPlace_5 : decode cX1_dropPlace 5 = .ok (.if_icmp .ge 33, 3) := by decide +kernel
theorem dX1_dropPlace_8 : decode cX1_dropPlace 8 = .ok (.aload_n 0, 1) := by decide +kernel
theorem dX1_dropPlace_9 : decode cX1_dropPlace 9 = .ok (.getfield 9, 3) := by decide +kernel
theorem dX1_dropPlace_12 : decode cX1_dropPlace 12 = .ok (.iload_n 2, 1) := by decide +kernel
theorem dX1_dropPlace_13 : decode cX1_dropPlace 13 = .ok (.bipush 10, 2) := by decide +kernel
theorem dX1_dropPlace_15 : decode cX1_dropPlace 15 = .ok (.imul, 1) := by decide +kernel
theorem dX1_dropPlace_16 : decode cX1_dropPlace 16 = .ok (.iload_n 1, 1) := by decide +kernel
theorem dX1_dropPlace_17 : decode cX1_dropPlace 17 = .ok (.iadd, 1) := by decide +kernel
theorem dX1_dropPlace_18 : decode cX1_dropPlace 18 = .ok (.iconst 0, 1) := by decide +kernel
theorem dX1_dropPlace_19 : decode cX1_dropPlace 19 = .ok (.iastore, 1) := by decide +kernel
theorem dX1_dropPlace_20 : decode cX1_dropPlace 20 = .ok (.aload_n 0, 1) := by decide +kernel
theorem dX1_dropPlace_21 : decode cX1_dropPlace 21 = .ok (.getfield 15, 3) := by decide +kernel
theorem dX1_dropPlace_24 : decode cX1_dropPlace 24 = .ok (.iload_n 2, 1) := by decide +kernel
theorem dX1_dropPlace_25 : decode cX1_dropPlace 25 = .ok (.bipush 10, 2) := by decide +kernel
theorem dX1_dropPlace_27 : decode cX1_dropPlace 27 = .ok (.imul, 1) := by decide +kernel
theorem dX1_dropPlace_28 : decode cX1_dropPlace 28 = .ok (.iload_n 1, 1) := by decide +kernel
theorem dX1_dropPlace_29 : decode cX1_dropPlace 29 = .ok (.iadd, 1) := by decide +kernel
theorem dX1_dropPlace_30 : decode cX1_dropPlace 30 = .ok (.iconst 0, 1) := by decide +kernel
theorem dX1_dropPlace_31 : decode cX1_dropPlace 31 = .ok (.iastore, 1) := by decide +kernel
theorem dX1_dropPlace_32 : decode cX1_dropPlace 32 = .ok (.iinc 2 1, 3) := by decide +kernel
theorem dX1_dropPlace_35 : decode cX1_dropPlace 35 = .ok (.goto (-33), 3) := by decide +kernel
theorem dX1_dropPlace_38 : decode cX1_dropPlace 38 = .ok (.aload_n 0, 1) := by decide +kernel
theorem dX1_dropPlace_39 : decode cX1_dropPlace 39 = .ok (.getfield 18, 3) := by decide +kernel
theorem dX1_dropPlace_42 : decode cX1_dropPlace 42 = .ok (.iload_n 1, 1) := by decide +kernel
theorem dX1_dropPlace_43 : decode cX1_dropPlace 43 = .ok (.iconst 0, 1) := by decide +kernel
theorem dX1_dropPlace_44 : decode cX1_dropPlace 44 = .ok (.iastore, 1) := by decide +kernel
theorem dX1_dropPlace_45 : decode cX1_dropPlace 45 = .ok (.aload_n 0, 1) := by decide +kernel
theorem dX1_dropPlace_46 : decode cX1_dropPlace 46 = .ok (.dup, 1) := by decide +kernel
theorem dX1_dropPlace_47 : decode cX1_dropPlace 47 = .ok (.getfield 28, 3) := by decide +kernel
theorem dX1_dropPlace_50 : decode cX1_dropPlace 50 = .ok (.iconst 1, 1) := by decide +kernel
theorem dX1_dropPlace_51 : decode cX1_dropPlace 51 = .ok (.iload_n 1, 1) := by decide +kernel
theorem dX1_dropPlace_52 : decode cX1_dropPlace 52 = .ok (.ishl, 1) := by decide +kernel
theorem dX1_dropPlace_53 : decode cX1_dropPlace 53 = .ok (.iconst (-1), 1) := by decide +kernel
theorem dX1_dropPlace_54 : decode cX1_dropPlace 54 = .ok (.ixor, 1) := by decide +kernel
theorem dX1_dropPlace_55 : decode cX1_dropPlace 55 = .ok (.iand, 1) := by decide +kernel
theorem dX1_dropPlace_56 : decode cX1_dropPlace 56 = .ok (.putfield 28, 3) := by decide +kernel
theorem dX1_dropPlace_59 : decode cX1_dropPlace 59 = .ok (.return_, 1) := by decide +kernel
theorem dX1_dropStep_0 : decode cX1_dropStep 0 = .ok (.iconst 0, 1) := by decide +kernel
theorem dX1_dropStep_1 : decode cX1_dropStep 1 = .ok (.istore_n 2, 1) := by decide +kernel
theorem dX1_dropStep_2 : decode cX1_dropStep 2 = .ok (.iload_n 2, 1) := by decide +kernel
theorem dX1_dropStep_3 : decode cX1_dropStep 3 = .ok (.bipush 10, 2) := by decide +kernel
theorem dX1_dropStep_5 : decode cX1_dropStep 5 = .ok (.if_icmp .ge 33, 3) := by decide +kernel
theorem dX1_dropStep_8 : decode cX1_dropStep 8 = .ok (.aload_n 0, 1) := by decide +kernel
theorem dX1_dropStep_9 : decode cX1_dropStep 9 = .ok (.getfield 9, 3) := by decide +kernel
theorem dX1_dropStep_12 : decode cX1_dropStep 12 = .ok (.iload_n 1, 1) := by decide +kernel
theorem dX1_dropStep_13 : decode cX1_dropStep 13 = .ok (.bipush 10, 2) := by decide +kernel
theorem dX1_dropStep_15 : decode cX1_dropStep 15 = .ok (.imul, 1) := by decide +kernel
theorem dX1_dropStep_16 : decode cX1_dropStep 16 = .ok (.iload_n 2, 1) := by decide +kernel
theorem dX1_dropStep_17 : decode cX1_dropStep 17 = .ok (.iadd, 1) := by decide +kernel
theorem dX1_dropStep_18 : decode cX1_dropStep 18 = .ok (.iconst 0, 1) := by decide +kernel
theorem dX1_dropStep_19 : decode cX1_dropStep 19 = .ok (.iastore, 1) := by decide +kernel
theorem dX1_dropStep_20 : decode cX1_dropStep 20 = .ok (.aload_n 0, 1) := by decide +kernel
theorem dX1_dropStep_21 : decode cX1_dropStep 21 = .ok (.getfield 15, 3) := by decide +kernel
theorem dX1_dropStep_24 : decode cX1_dropStep 24 = .ok (.iload_n 1, 1) := by decide +kernel
theorem dX1_dropStep_25 : decode cX1_dropStep 25 = .ok (.bipush 10, 2) := by decide +kernel
theorem dX1_dropStep_27 : decode cX1_dropStep 27 = .ok (.imul, 1) := by decide +kernel
theorem dX1_dropStep_28 : decode cX1_dropStep 28 = .ok (.iload_n 2, 1) := by decide +kernel
theorem dX1_dropStep_29 : decode cX1_dropStep 29 = .ok (.iadd, 1) := by decide +kernel
theorem dX1_dropStep_30 : decode cX1_dropStep 30 = .ok (.iconst 0, 1) := by decide +kernel
theorem dX1_dropStep_31 : decode cX1_dropStep 31 = .ok (.iastore, 1) := by decide +kernel
theorem dX1_dropStep_32 : decode cX1_dropStep 32 = .ok (.iinc 2 1, 3) := by decide +kernel
theorem dX1_dropStep_35 : decode cX1_dropStep 35 = .ok (.goto (-33), 3) := by decide +kernel
theorem dX1_dropStep_38 : decode cX1_dropStep 38 = .ok (.aload_n 0, 1) := by decide +kernel
theorem dX1_dropStep_39 : decode cX1_dropStep 39 = .ok (.dup, 1) := by decide +kernel
theorem dX1_dropStep_40 : decode cX1_dropStep 40 = .ok (.getfield 31, 3) := by decide +kernel
theorem dX1_dropStep_43 : decode cX1_dropStep 43 = .ok (.iconst 1, 1) := by decide +kernel
theorem dX1_dropStep_44 : decode cX1_dropStep 44 = .ok (.iload_n 1, 1) := by decide +kernel
theorem dX1_dropStep_45 : decode cX1_dropStep 45 = .ok (.ishl, 1) := by decide +kernel
theorem dX1_dropStep_46 : decode cX1_dropStep 46 = .ok (.iconst (-1), 1) := by decide +kernel
theorem dX1_dropStep_47 : decode cX1_dropStep 47 = .ok (.ixor, 1) := by decide +kernel
theorem dX1_dropStep_48 : decode cX1_dropStep 48 = .ok (.iand, 1) := by decide +kernel
theorem dX1_dropStep_49 : decode cX1_dropStep 49 = .ok (.putfield 31, 3) := by decide +kernel
theorem dX1_dropStep_52 : decode cX1_dropStep 52 = .ok (.return_, 1) := by decide +kernel
theorem dX1_hasPlace_0 : decode cX1_hasPlace 0 = .ok (.iload_n 1, 1) := by decide +kernel
theorem dX1_hasPlace_1 : decode cX1_hasPlace 1 = .ok (.ifCond .lt 25, 3) := by decide +kernel
theorem dX1_hasPlace_4 : decode cX1_hasPlace 4 = .ok (.iload_n 1, 1) := by decide +kernel
theorem dX1_hasPlace_5 : decode cX1_hasPlace 5 = .ok (.bipush 10, 2) := by decide +kernel
theorem dX1_hasPlace_7 : decode cX1_hasPlace 7 = .ok (.if_icmp .ge 19, 3) := by decide +kernel
theorem dX1_hasPlace_10 : decode cX1_hasPlace 10 = .ok (.aload_n 0, 1) := by decide +kernel
theorem dX1_hasPlace_11 : decode cX1_hasPlace 11 = .ok (.getfield 28, 3) := by decide +kernel
theorem dX1_hasPlace_14 : decode cX1_hasPlace 14 = .ok (.iload_n 1, 1) := by decide +kernel
theorem dX1_hasPlace_15 : decode cX1_hasPlace 15 = .ok (.ishr, 1) := by decide +kernel
theorem dX1_hasPlace_16 : decode cX1_hasPlace 16 = .ok (.iconst 1, 1) := by decide +kernel
theorem dX1_hasPlace_17 : decode cX1_hasPlace 17 = .ok (.iand, 1) := by decide +kernel
theorem dX1_hasPlace_18 : decode cX1_hasPlace 18 = .ok (.iconst 1, 1) := by decide +kernel
theorem dX1_hasPlace_19 : decode cX1_hasPlace 19 = .ok (.if_icmp .ne 7, 3) := by decide +kernel
theorem dX1_hasPlace_22 : decode cX1_hasPlace 22 = .ok (.iconst 1, 1) := by decide +kernel
theorem dX1_hasPlace_23 : decode cX1_hasPlace 23 = .ok (.goto 4, 3) := by decide +kernel
theorem dX1_hasPlace_26 : decode cX1_hasPlace 26 = .ok (.iconst 0, 1) := by decide +kernel
theorem dX1_hasPlace_27 : decode cX1_hasPlace 27 = .ok (.ireturn, 1) := by decide +kernel
theorem dX1_hasStep_0 : decode cX1_hasStep 0 = .ok (.iload_n 1, 1) := by decide +kernel
theorem dX1_hasStep_1 : decode cX1_hasStep 1 = .ok (.ifCond .lt 25, 3) := by decide +kernel
theorem dX1_hasStep_4 : decode cX1_hasStep 4 = .ok (.iload_n 1, 1) := by decide +kernel
theorem dX1_hasStep_5 : decode cX1_hasStep 5 = .ok (.bipush 8, 2) := by decide +kernel
theorem dX1_hasStep_7 : decode cX1_hasStep 7 = .ok (.if_icmp .ge 19, 3) := by decide +kernel
theorem dX1_hasStep_10 : decode cX1_hasStep 10 = .ok (.aload_n 0, 1) := by decide +kernel
theorem dX1_hasStep_11 : decode cX1_hasStep 11 = .ok (.getfield 31, 3) := by decide +kernel
theorem dX1_hasStep_14 : decode cX1_hasStep 14 = .ok (.iload_n 1, 1) := by decide +kernel
theorem dX1_hasStep_15 : decode cX1_hasStep 15 = .ok (.ishr, 1) := by decide +kernel
theorem dX1_hasStep_16 : decode cX1_hasStep 16 = .ok (.iconst 1, 1) := by decide +kernel
theorem dX1_hasStep_17 : decode cX1_hasStep 17 = .ok (.iand, 1) := by decide +kernel
theorem dX1_hasStep_18 : decode cX1_hasStep 18 = .ok (.iconst 1, 1) := by decide +kernel
theorem dX1_hasStep_19 : decode cX1_hasStep 19 = .ok (.if_icmp .ne 7, 3) := by decide +kernel
theorem dX1_hasStep_22 : decode cX1_hasStep 22 = .ok (.iconst 1, 1) := by decide +kernel
theorem dX1_hasStep_23 : decode cX1_hasStep 23 = .ok (.goto 4, 3) := by decide +kernel
theorem dX1_hasStep_26 : decode cX1_hasStep 26 = .ok (.iconst 0, 1) := by decide +kernel
theorem dX1_hasStep_27 : decode cX1_hasStep 27 = .ok (.ireturn, 1) := by decide +kernel
theorem dX1_change_0 : decode cX1_change 0 = .ok (.iload_n 1, 1) := by decide +kernel
theorem dX1_change_1 : decode cX1_change 1 = .ok (.bipush 10, 2) := by decide +kernel
theorem dX1_change_3 : decode cX1_change 3 = .ok (.imul, 1) := by decide +kernel
theorem dX1_change_4 : decode cX1_change 4 = .ok (.iload_n 2, 1) := by decide +kernel
theorem dX1_change_5 : decode cX1_change 5 = .ok (.iadd, 1) := by decide +kernel
theorem dX1_change_6 : decode cX1_change 6 = .ok (.istore_n 3, 1) := by decide +kernel
theorem dX1_change_7 : decode cX1_change 7 = .ok (.aload_n 0, 1) := by decide +kernel
theorem dX1_change_8 : decode cX1_change 8 = .ok (.getfield 15, 3) := by decide +kernel
theorem dX1_change_11 : decode cX1_change 11 = .ok (.iload_n 3, 1) := by decide +kernel
theorem dX1_change_12 : decode cX1_change 12 = .ok (.iaload, 1) := by decide +kernel
theorem dX1_change_13 : decode cX1_change 13 = .ok (.aload_n 0, 1) := by decide +kernel
theorem dX1_change_14 : decode cX1_change 14 = .ok (.getfield 9, 3) := by decide +kernel
theorem dX1_change_17 : decode cX1_change 17 = .ok (.iload_n 3, 1) := by decide +kernel
theorem dX1_change_18 : decode cX1_change 18 = .ok (.iaload, 1) := by decide +kernel
theorem dX1_change_19 : decode cX1_change 19 = .ok (.isub, 1) := by decide +kernel
theorem dX1_change_20 : decode cX1_change 20 = .ok (.ireturn, 1) := by decide +kernel
theorem dX1_changesNothing_0 : decode cX1_changesNothing 0 = .ok (.iconst 0, 1) := by decide +kernel
theorem dX1_changesNothing_1 : decode cX1_changesNothing 1 = .ok (.istore_n 2, 1) := by decide +kernel
theorem dX1_changesNothing_2 : decode cX1_changesNothing 2 = .ok (.iload_n 2, 1) := by decide +kernel
theorem dX1_changesNothing_3 : decode cX1_changesNothing 3 = .ok (.aload_n 0, 1) := by decide +kernel
theorem dX1_changesNothing_4 : decode cX1_changesNothing 4 = .ok (.getfield 21, 3) := by decide +kernel
theorem dX1_changesNothing_7 : decode cX1_changesNothing 7 = .ok (.if_icmp .ge 20, 3) := by decide +kernel
theorem dX1_changesNothing_10 : decode cX1_changesNothing 10 = .ok (.aload_n 0, 1) := by decide +kernel
theorem dX1_changesNothing_11 : decode cX1_changesNothing 11 = .ok (.iload_n 1, 1) := by decide +kernel
theorem dX1_changesNothing_12 : decode cX1_changesNothing 12 = .ok (.iload_n 2, 1) := by decide +kernel
theorem dX1_changesNothing_13 : decode cX1_changesNothing 13 = .ok (.invokevirtual 52, 3) := by decide +kernel
theorem dX1_changesNothing_16 : decode cX1_changesNothing 16 = .ok (.ifCond .eq 5, 3) := by decide +kernel
theorem dX1_changesNothing_19 : decode cX1_changesNothing 19 = .ok (.iconst 0, 1) := by decide +kernel
theorem dX1_changesNothing_20 : decode cX1_changesNothing 20 = .ok (.ireturn, 1) := by decide +kernel
theorem dX1_changesNothing_21 : decode cX1_changesNothing 21 = .ok (.iinc 2 1, 3) := by decide +kernel
theorem dX1_changesNothing_24 : decode cX1_changesNothing 24 = .ok (.goto (-22), 3) := by decide +kernel
theorem dX1_changesNothing_27 : decode cX1_changesNothing 27 = .ok (.iconst 1, 1) := by decide +kernel
theorem dX1_changesNothing_28 : decode cX1_changesNothing 28 = .ok (.ireturn, 1) := by decide +kernel
theorem dX1_changeAlike_0 : decode cX1_changeAlike 0 = .ok (.iconst 0, 1) := by decide +kernel
theorem dX1_changeAlike_1 : decode cX1_changeAlike 1 = .ok (.istore_n 3, 1) := by decide +kernel
theorem dX1_changeAlike_2 : decode cX1_changeAlike 2 = .ok (.iload_n 3, 1) := by decide +kernel
theorem dX1_changeAlike_3 : decode cX1_changeAlike 3 = .ok (.aload_n 0, 1) := by decide +kernel
theorem dX1_changeAlike_4 : decode cX1_changeAlike 4 = .ok (.getfield 21, 3) := by decide +kernel
theorem dX1_changeAlike_7 : decode cX1_changeAlike 7 = .ok (.if_icmp .ge 26, 3) := by decide +kernel
theorem dX1_changeAlike_10 : decode cX1_changeAlike 10 = .ok (.aload_n 0, 1) := by decide +kernel
theorem dX1_changeAlike_11 : decode cX1_changeAlike 11 = .ok (.iload_n 1, 1) := by decide +kernel
theorem dX1_changeAlike_12 : decode cX1_changeAlike 12 = .ok (.iload_n 3, 1) := by decide +kernel
theorem dX1_changeAlike_13 : decode cX1_changeAlike 13 = .ok (.invokevirtual 52, 3) := by decide +kernel
theorem dX1_changeAlike_16 : decode cX1_changeAlike 16 = .ok (.aload_n 0, 1) := by decide +kernel
theorem dX1_changeAlike_17 : decode cX1_changeAlike 17 = .ok (.iload_n 2, 1) := by decide +kernel
theorem dX1_changeAlike_18 : decode cX1_changeAlike 18 = .ok (.iload_n 3, 1) := by decide +kernel
theorem dX1_changeAlike_19 : decode cX1_changeAlike 19 = .ok (.invokevirtual 52, 3) := by decide +kernel
theorem dX1_changeAlike_22 : decode cX1_changeAlike 22 = .ok (.if_icmp .eq 5, 3) := by decide +kernel
theorem dX1_changeAlike_25 : decode cX1_changeAlike 25 = .ok (.iconst 0, 1) := by decide +kernel
theorem dX1_changeAlike_26 : decode cX1_changeAlike 26 = .ok (.ireturn, 1) := by decide +kernel
theorem dX1_changeAlike_27 : decode cX1_changeAlike 27 = .ok (.iinc 3 1, 3) := by decide +kernel
theorem dX1_changeAlike_30 : decode cX1_changeAlike 30 = .ok (.goto (-28), 3) := by decide +kernel
theorem dX1_changeAlike_33 : decode cX1_changeAlike 33 = .ok (.iconst 1, 1) := by decide +kernel
theorem dX1_changeAlike_34 : decode cX1_changeAlike 34 = .ok (.ireturn, 1) := by decide +kernel
theorem dX1_allTokens_0 : decode cX1_allTokens 0 = .ok (.iconst 0, 1) := by decide +kernel
theorem dX1_allTokens_1 : decode cX1_allTokens 1 = .ok (.istore_n 1, 1) := by decide +kernel
theorem dX1_allTokens_2 : decode cX1_allTokens 2 = .ok (.iconst 0, 1) := by decide +kernel
theorem dX1_allTokens_3 : decode cX1_allTokens 3 = .ok (.istore_n 2, 1) := by decide +kernel
theorem dX1_allTokens_4 : decode cX1_allTokens 4 = .ok (.iload_n 2, 1) := by decide +kernel
theorem dX1_allTokens_5 : decode cX1_allTokens 5 = .ok (.aload_n 0, 1) := by decide +kernel
theorem dX1_allTokens_6 : decode cX1_allTokens 6 = .ok (.getfield 21, 3) := by decide +kernel
theorem dX1_allTokens_9 : decode cX1_allTokens 9 = .ok (.if_icmp .ge 18, 3) := by decide +kernel
theorem dX1_allTokens_12 : decode cX1_allTokens 12 = .ok (.iload_n 1, 1) := by decide +kernel
theorem dX1_allTokens_13 : decode cX1_allTokens 13 = .ok (.aload_n 0, 1) := by decide +kernel
theorem dX1_allTokens_14 : decode cX1_allTokens 14 = .ok (.getfield 18, 3) := by decide +kernel
theorem dX1_allTokens_17 : decode cX1_allTokens 17 = .ok (.iload_n 2, 1) := by decide +kernel
theorem dX1_allTokens_18 : decode cX1_allTokens 18 = .ok (.iaload, 1) := by decide +kernel
theorem dX1_allTokens_19 : decode cX1_allTokens 19 = .ok (.iadd, 1) := by decide +kernel
theorem dX1_allTokens_20 : decode cX1_allTokens 20 = .ok (.istore_n 1, 1) := by decide +kernel
theorem dX1_allTokens_21 : decode cX1_allTokens 21 = .ok (.iinc 2 1, 3) := by decide +kernel
theorem dX1_allTokens_24 : decode cX1_allTokens 24 = .ok (.goto (-20), 3) := by decide +kernel
theorem dX1_allTokens_27 : decode cX1_allTokens 27 = .ok (.iload_n 1, 1) := by decide +kernel
theorem dX1_allTokens_28 : decode cX1_allTokens 28 = .ok (.ireturn, 1) := by decide +kernel
theorem dX1_markedPlaces_0 : decode cX1_markedPlaces 0 = .ok (.iconst 0, 1) := by decide +kernel
theorem dX1_markedPlaces_1 : decode cX1_markedPlaces 1 = .ok (.istore_n 1, 1) := by decide +kernel
theorem dX1_markedPlaces_2 : decode cX1_markedPlaces 2 = .ok (.iconst 0, 1) := by decide +kernel
theorem dX1_markedPlaces_3 : decode cX1_markedPlaces 3 = .ok (.istore_n 2, 1) := by decide +kernel
theorem dX1_markedPlaces_4 : decode cX1_markedPlaces 4 = .ok (.iload_n 2, 1) := by decide +kernel
theorem dX1_markedPlaces_5 : decode cX1_markedPlaces 5 = .ok (.aload_n 0, 1) := by decide +kernel
theorem dX1_markedPlaces_6 : decode cX1_markedPlaces 6 = .ok (.getfield 21, 3) := by decide +kernel
theorem dX1_markedPlaces_9 : decode cX1_markedPlaces 9 = .ok (.if_icmp .ge 24, 3) := by decide +kernel
theorem dX1_markedPlaces_12 : decode cX1_markedPlaces 12 = .ok (.aload_n 0, 1) := by decide +kernel
theorem dX1_markedPlaces_13 : decode cX1_markedPlaces 13 = .ok (.getfield 18, 3) := by decide +kernel
theorem dX1_markedPlaces_16 : decode cX1_markedPlaces 16 = .ok (.iload_n 2, 1) := by decide +kernel
theorem dX1_markedPlaces_17 : decode cX1_markedPlaces 17 = .ok (.iaload, 1) := by decide +kernel
theorem dX1_markedPlaces_18 : decode cX1_markedPlaces 18 = .ok (.ifCond .le 9, 3) := by decide +kernel
theorem dX1_markedPlaces_21 : decode cX1_markedPlaces 21 = .ok (.iload_n 1, 1) := by decide +kernel
theorem dX1_markedPlaces_22 : decode cX1_markedPlaces 22 = .ok (.iconst 1, 1) := by decide +kernel
theorem dX1_markedPlaces_23 : decode cX1_markedPlaces 23 = .ok (.iload_n 2, 1) := by decide +kernel
theorem dX1_markedPlaces_24 : decode cX1_markedPlaces 24 = .ok (.ishl, 1) := by decide +kernel
theorem dX1_markedPlaces_25 : decode cX1_markedPlaces 25 = .ok (.ior, 1) := by decide +kernel
theorem dX1_markedPlaces_26 : decode cX1_markedPlaces 26 = .ok (.istore_n 1, 1) := by decide +kernel
theorem dX1_markedPlaces_27 : decode cX1_markedPlaces 27 = .ok (.iinc 2 1, 3) := by decide +kernel
theorem dX1_markedPlaces_30 : decode cX1_markedPlaces 30 = .ok (.goto (-26), 3) := by decide +kernel
theorem dX1_markedPlaces_33 : decode cX1_markedPlaces 33 = .ok (.iload_n 1, 1) := by decide +kernel
theorem dX1_markedPlaces_34 : decode cX1_markedPlaces 34 = .ok (.ireturn, 1) := by decide +kernel
theorem dX1_takenFrom_0 : decode cX1_takenFrom 0 = .ok (.aload_n 0, 1) := by decide +kernel
theorem dX1_takenFrom_1 : decode cX1_takenFrom 1 = .ok (.aload_n 0, 1) := by decide +kernel
theorem dX1_takenFrom_2 : decode cX1_takenFrom 2 = .ok (.getfield 9, 3) := by decide +kernel
theorem dX1_takenFrom_5 : decode cX1_takenFrom 5 = .ok (.iload_n 1, 1) := by decide +kernel
theorem dX1_takenFrom_6 : decode cX1_takenFrom 6 = .ok (.invokevirtual 56, 3) := by decide +kernel
theorem dX1_takenFrom_9 : decode cX1_takenFrom 9 = .ok (.ireturn, 1) := by decide +kernel
theorem dX1_givenTo_0 : decode cX1_givenTo 0 = .ok (.aload_n 0, 1) := by decide +kernel
theorem dX1_givenTo_1 : decode cX1_givenTo 1 = .ok (.aload_n 0, 1) := by decide +kernel
theorem dX1_givenTo_2 : decode cX1_givenTo 2 = .ok (.getfield 15, 3) := by decide +kernel
theorem dX1_givenTo_5 : decode cX1_givenTo 5 = .ok (.iload_n 1, 1) := by decide +kernel
theorem dX1_givenTo_6 : decode cX1_givenTo 6 = .ok (.invokevirtual 56, 3) := by decide +kernel
theorem dX1_givenTo_9 : decode cX1_givenTo 9 = .ok (.ireturn, 1) := by decide +kernel
theorem dX1_placesWith_0 : decode cX1_placesWith 0 = .ok (.iconst 0, 1) := by decide +kernel
theorem dX1_placesWith_1 : decode cX1_placesWith 1 = .ok (.istore_n 3, 1) := by decide +kernel
theorem dX1_placesWith_2 : decode cX1_placesWith 2 = .ok (.iconst 0, 1) := by decide +kernel
theorem dX1_placesWith_3 : decode cX1_placesWith 3 = .ok (.istore 4, 2) := by decide +kernel
theorem dX1_placesWith_5 : decode cX1_placesWith 5 = .ok (.iload 4, 2) := by decide +kernel
theorem dX1_placesWith_7 : decode cX1_placesWith 7 = .ok (.aload_n 0, 1) := by decide +kernel
theorem dX1_placesWith_8 : decode cX1_placesWith 8 = .ok (.getfield 21, 3) := by decide +kernel
theorem dX1_placesWith_11 : decode cX1_placesWith 11 = .ok (.if_icmp .ge 28, 3) := by decide +kernel
theorem dX1_placesWith_14 : decode cX1_placesWith 14 = .ok (.aload_n 1, 1) := by decide +kernel
theorem dX1_placesWith_15 : decode cX1_placesWith 15 = .ok (.iload_n 2, 1) := by decide +kernel
theorem dX1_placesWith_16 : decode cX1_placesWith 16 = .ok (.bipush 10, 2) := by decide +kernel
theorem dX1_placesWith_18 : decode cX1_placesWith 18 = .ok (.imul, 1) := by decide +kernel
theorem dX1_placesWith_19 : decode cX1_placesWith 19 = .ok (.iload 4, 2) := by decide +kernel
theorem dX1_placesWith_21 : decode cX1_placesWith 21 = .ok (.iadd, 1) := by decide +kernel
theorem dX1_placesWith_22 : decode cX1_placesWith 22 = .ok (.iaload, 1) := by decide +kernel
theorem dX1_placesWith_23 : decode cX1_placesWith 23 = .ok (.ifCond .le 10, 3) := by decide +kernel
theorem dX1_placesWith_26 : decode cX1_placesWith 26 = .ok (.iload_n 3, 1) := by decide +kernel
theorem dX1_placesWith_27 : decode cX1_placesWith 27 = .ok (.iconst 1, 1) := by decide +kernel
theorem dX1_placesWith_28 : decode cX1_placesWith 28 = .ok (.iload 4, 2) := by decide +kernel
theorem dX1_placesWith_30 : decode cX1_placesWith 30 = .ok (.ishl, 1) := by decide +kernel
theorem dX1_placesWith_31 : decode cX1_placesWith 31 = .ok (.ior, 1) := by decide +kernel
theorem dX1_placesWith_32 : decode cX1_placesWith 32 = .ok (.istore_n 3, 1) := by decide +kernel
theorem dX1_placesWith_33 : decode cX1_placesWith 33 = .ok (.iinc 4 1, 3) := by decide +kernel
theorem dX1_placesWith_36 : decode cX1_placesWith 36 = .ok (.goto (-31), 3) := by decide +kernel
theorem dX1_placesWith_39 : decode cX1_placesWith 39 = .ok (.iload_n 3, 1) := by decide +kernel
theorem dX1_placesWith_40 : decode cX1_placesWith 40 = .ok (.ireturn, 1) := by decide +kernel
theorem dX1_allows_0 : decode cX1_allows 0 = .ok (.aload_n 0, 1) := by decide +kernel
theorem dX1_allows_1 : decode cX1_allows 1 = .ok (.iload_n 1, 1) := by decide +kernel
theorem dX1_allows_2 : decode cX1_allows 2 = .ok (.invokevirtual 60, 3) := by decide +kernel
theorem dX1_allows_5 : decode cX1_allows 5 = .ok (.ifCond .ne 5, 3) := by decide +kernel
theorem dX1_allows_8 : decode cX1_allows 8 = .ok (.iconst 0, 1) := by decide +kernel
theorem dX1_allows_9 : decode cX1_allows 9 = .ok (.ireturn, 1) := by decide +kernel
theorem dX1_allows_10 : decode cX1_allows 10 = .ok (.iload_n 1, 1) := by decide +kernel
theorem dX1_allows_11 : decode cX1_allows 11 = .ok (.bipush 10, 2) := by decide +kernel
theorem dX1_allows_13 : decode cX1_allows 13 = .ok (.imul, 1) := by decide +kernel
theorem dX1_allows_14 : decode cX1_allows 14 = .ok (.istore 4, 2) := by decide +kernel
theorem dX1_allows_16 : decode cX1_allows 16 = .ok (.iconst 0, 1) := by decide +kernel
theorem dX1_allows_17 : decode cX1_allows 17 = .ok (.istore 5, 2) := by decide +kernel
theorem dX1_allows_19 : decode cX1_allows 19 = .ok (.iload 5, 2) := by decide +kernel
theorem dX1_allows_21 : decode cX1_allows 21 = .ok (.aload_n 0, 1) := by decide +kernel
theorem dX1_allows_22 : decode cX1_allows 22 = .ok (.getfield 21, 3) := by decide +kernel
theorem dX1_allows_25 : decode cX1_allows 25 = .ok (.if_icmp .ge 54, 3) := by decide +kernel
theorem dX1_allows_28 : decode cX1_allows 28 = .ok (.aload_n 2, 1) := by decide +kernel
theorem dX1_allows_29 : decode cX1_allows 29 = .ok (.iload_n 3, 1) := by decide +kernel
theorem dX1_allows_30 : decode cX1_allows 30 = .ok (.iload 5, 2) := by decide +kernel
theorem dX1_allows_32 : decode cX1_allows 32 = .ok (.iadd, 1) := by decide +kernel
theorem dX1_allows_33 : decode cX1_allows 33 = .ok (.iaload, 1) := by decide +kernel
theorem dX1_allows_34 : decode cX1_allows 34 = .ok (.aload_n 0, 1) := by decide +kernel
theorem dX1_allows_35 : decode cX1_allows 35 = .ok (.getfield 9, 3) := by decide +kernel
theorem dX1_allows_38 : decode cX1_allows 38 = .ok (.iload 4, 2) := by decide +kernel
theorem dX1_allows_40 : decode cX1_allows 40 = .ok (.iload 5, 2) := by decide +kernel
theorem dX1_allows_42 : decode cX1_allows 42 = .ok (.iadd, 1) := by decide +kernel
theorem dX1_allows_43 : decode cX1_allows 43 = .ok (.iaload, 1) := by decide +kernel
theorem dX1_allows_44 : decode cX1_allows 44 = .ok (.isub, 1) := by decide +kernel
theorem dX1_allows_45 : decode cX1_allows 45 = .ok (.istore 6, 2) := by decide +kernel
theorem dX1_allows_47 : decode cX1_allows 47 = .ok (.iload 6, 2) := by decide +kernel
theorem dX1_allows_49 : decode cX1_allows 49 = .ok (.ifCond .lt 22, 3) := by decide +kernel
theorem dX1_allows_52 : decode cX1_allows 52 = .ok (.iload 6, 2) := by decide +kernel
theorem dX1_allows_54 : decode cX1_allows 54 = .ok (.aload_n 0, 1) := by decide +kernel
theorem dX1_allows_55 : decode cX1_allows 55 = .ok (.getfield 15, 3) := by decide +kernel
theorem dX1_allows_58 : decode cX1_allows 58 = .ok (.iload 4, 2) := by decide +kernel
theorem dX1_allows_60 : decode cX1_allows 60 = .ok (.iload 5, 2) := by decide +kernel
theorem dX1_allows_62 : decode cX1_allows 62 = .ok (.iadd, 1) := by decide +kernel
theorem dX1_allows_63 : decode cX1_allows 63 = .ok (.iaload, 1) := by decide +kernel
theorem dX1_allows_64 : decode cX1_allows 64 = .ok (.iadd, 1) := by decide +kernel
theorem dX1_allows_65 : decode cX1_allows 65 = .ok (.sipush 999, 3) := by decide +kernel
theorem dX1_allows_68 : decode cX1_allows 68 = .ok (.if_icmp .le 5, 3) := by decide +kernel
theorem dX1_allows_71 : decode cX1_allows 71 = .ok (.iconst 0, 1) := by decide +kernel
theorem dX1_allows_72 : decode cX1_allows 72 = .ok (.ireturn, 1) := by decide +kernel
theorem dX1_allows_73 : decode cX1_allows 73 = .ok (.iinc 5 1, 3) := by decide +kernel
theorem dX1_allows_76 : decode cX1_allows 76 = .ok (.goto (-57), 3) := by decide +kernel
theorem dX1_allows_79 : decode cX1_allows 79 = .ok (.iconst 1, 1) := by decide +kernel
theorem dX1_allows_80 : decode cX1_allows 80 = .ok (.ireturn, 1) := by decide +kernel
theorem dX1_move_0 : decode cX1_move 0 = .ok (.aload_n 0, 1) := by decide +kernel
theorem dX1_move_1 : decode cX1_move 1 = .ok (.iload_n 1, 1) := by decide +kernel
theorem dX1_move_2 : decode cX1_move 2 = .ok (.invokevirtual 60, 3) := by decide +kernel
theorem dX1_move_5 : decode cX1_move 5 = .ok (.ifCond .ne 4, 3) := by decide +kernel
theorem dX1_move_8 : decode cX1_move 8 = .ok (.return_, 1) := by decide +kernel
theorem dX1_move_9 : decode cX1_move 9 = .ok (.iconst 0, 1) := by decide +kernel
theorem dX1_move_10 : decode cX1_move 10 = .ok (.istore 5, 2) := by decide +kernel
theorem dX1_move_12 : decode cX1_move 12 = .ok (.iload 5, 2) := by decide +kernel
theorem dX1_move_14 : decode cX1_move 14 = .ok (.bipush 10, 2) := by decide +kernel
theorem dX1_move_16 : decode cX1_move 16 = .ok (.if_icmp .ge 30, 3) := by decide +kernel
theorem dX1_move_19 : decode cX1_move 19 = .ok (.aload_n 2, 1) := by decide +kernel
theorem dX1_move_20 : decode cX1_move 20 = .ok (.iload 4, 2) := by decide +kernel
theorem dX1_move_22 : decode cX1_move 22 = .ok (.iload 5, 2) := by decide +kernel
theorem dX1_move_24 : decode cX1_move 24 = .ok (.iadd, 1) := by decide +kernel
theorem dX1_move_25 : decode cX1_move 25 = .ok (.aload_n 2, 1) := by decide +kernel
theorem dX1_move_26 : decode cX1_move 26 = .ok (.iload_n 3, 1) := by decide +kernel
theorem dX1_move_27 : decode cX1_move 27 = .ok (.iload 5, 2) := by decide +kernel
theorem dX1_move_29 : decode cX1_move 29 = .ok (.iadd, 1) := by decide +kernel
theorem dX1_move_30 : decode cX1_move 30 = .ok (.iaload, 1) := by decide +kernel
theorem dX1_move_31 : decode cX1_move 31 = .ok (.aload_n 0, 1) := by decide +kernel
theorem dX1_move_32 : decode cX1_move 32 = .ok (.iload_n 1, 1) := by decide +kernel
theorem dX1_move_33 : decode cX1_move 33 = .ok (.iload 5, 2) := by decide +kernel
theorem dX1_move_35 : decode cX1_move 35 = .ok (.invokevirtual 52, 3) := by decide +kernel
theorem dX1_move_38 : decode cX1_move 38 = .ok (.iadd, 1) := by decide +kernel
theorem dX1_move_39 : decode cX1_move 39 = .ok (.iastore, 1) := by decide +kernel
theorem dX1_move_40 : decode cX1_move 40 = .ok (.iinc 5 1, 3) := by decide +kernel
theorem dX1_move_43 : decode cX1_move 43 = .ok (.goto (-31), 3) := by decide +kernel
theorem dX1_move_46 : decode cX1_move 46 = .ok (.return_, 1) := by decide +kernel
theorem dX1_allowed_0 : decode cX1_allowed 0 = .ok (.iconst 0, 1) := by decide +kernel
theorem dX1_allowed_1 : decode cX1_allowed 1 = .ok (.istore_n 1, 1) := by decide +kernel
theorem dX1_allowed_2 : decode cX1_allowed 2 = .ok (.iconst 0, 1) := by decide +kernel
theorem dX1_allowed_3 : decode cX1_allowed 3 = .ok (.istore_n 2, 1) := by decide +kernel
theorem dX1_allowed_4 : decode cX1_allowed 4 = .ok (.iload_n 2, 1) := by decide +kernel
theorem dX1_allowed_5 : decode cX1_allowed 5 = .ok (.aload_n 0, 1) := by decide +kernel
theorem dX1_allowed_6 : decode cX1_allowed 6 = .ok (.getfield 25, 3) := by decide +kernel
theorem dX1_allowed_9 : decode cX1_allowed 9 = .ok (.if_icmp .ge 28, 3) := by decide +kernel
theorem dX1_allowed_12 : decode cX1_allowed 12 = .ok (.aload_n 0, 1) := by decide +kernel
theorem dX1_allowed_13 : decode cX1_allowed 13 = .ok (.iload_n 2, 1) := by decide +kernel
theorem dX1_allowed_14 : decode cX1_allowed 14 = .ok (.aload_n 0, 1) := by decide +kernel
theorem dX1_allowed_15 : decode cX1_allowed 15 = .ok (.getfield 18, 3) := by decide +kernel
theorem dX1_allowed_18 : decode cX1_allowed 18 = .ok (.iconst 0, 1) := by decide +kernel
theorem dX1_allowed_19 : decode cX1_allowed 19 = .ok (.invokevirtual 64, 3) := by decide +kernel
theorem dX1_allowed_22 : decode cX1_allowed 22 = .ok (.ifCond .eq 9, 3) := by decide +kernel
theorem dX1_allowed_25 : decode cX1_allowed 25 = .ok (.iload_n 1, 1) := by decide +kernel
theorem dX1_allowed_26 : decode cX1_allowed 26 = .ok (.iconst 1, 1) := by decide +kernel
theorem dX1_allowed_27 : decode cX1_allowed 27 = .ok (.iload_n 2, 1) := by decide +kernel
theorem dX1_allowed_28 : decode cX1_allowed 28 = .ok (.ishl, 1) := by decide +kernel
theorem dX1_allowed_29 : decode cX1_allowed 29 = .ok (.ior, 1) := by decide +kernel
theorem dX1_allowed_30 : decode cX1_allowed 30 = .ok (.istore_n 1, 1) := by decide +kernel
theorem dX1_allowed_31 : decode cX1_allowed 31 = .ok (.iinc 2 1, 3) := by decide +kernel
theorem dX1_allowed_34 : decode cX1_allowed 34 = .ok (.goto (-30), 3) := by decide +kernel
theorem dX1_allowed_37 : decode cX1_allowed 37 = .ok (.iload_n 1, 1) := by decide +kernel
theorem dX1_allowed_38 : decode cX1_allowed 38 = .ok (.ireturn, 1) := by decide +kernel
theorem dX1_eachStepMovesOne_0 : decode cX1_eachStepMovesOne 0 = .ok (.iconst 0, 1) := by decide +kernel
theorem dX1_eachStepMovesOne_1 : decode cX1_eachStepMovesOne 1 = .ok (.istore_n 1, 1) := by decide +kernel
theorem dX1_eachStepMovesOne_2 : decode cX1_eachStepMovesOne 2 = .ok (.iload_n 1, 1) := by decide +kernel
theorem dX1_eachStepMovesOne_3 : decode cX1_eachStepMovesOne 3 = .ok (.aload_n 0, 1) := by decide +kernel
theorem dX1_eachStepMovesOne_4 : decode cX1_eachStepMovesOne 4 = .ok (.getfield 25, 3) := by decide +kernel
theorem dX1_eachStepMovesOne_7 : decode cX1_eachStepMovesOne 7 = .ok (.if_icmp .ge 45, 3) := by decide +kernel
theorem dX1_eachStepMovesOne_10 : decode cX1_eachStepMovesOne 10 = .ok (.aload_n 0, 1) := by decide +kernel
theorem dX1_eachStepMovesOne_11 : decode cX1_eachStepMovesOne 11 = .ok (.iload_n 1, 1) := by decide +kernel
theorem dX1_eachStepMovesOne_12 : decode cX1_eachStepMovesOne 12 = .ok (.invokevirtual 60, 3) := by decide +kernel
theorem dX1_eachStepMovesOne_15 : decode cX1_eachStepMovesOne 15 = .ok (.ifCond .eq 31, 3) := by decide +kernel
theorem dX1_eachStepMovesOne_18 : decode cX1_eachStepMovesOne 18 = .ok (.aload_n 0, 1) := by decide +kernel
theorem dX1_eachStepMovesOne_19 : decode cX1_eachStepMovesOne 19 = .ok (.aload_n 0, 1) := by decide +kernel
theorem dX1_eachStepMovesOne_20 : decode cX1_eachStepMovesOne 20 = .ok (.getfield 9, 3) := by decide +kernel
theorem dX1_eachStepMovesOne_23 : decode cX1_eachStepMovesOne 23 = .ok (.iload_n 1, 1) := by decide +kernel
theorem dX1_eachStepMovesOne_24 : decode cX1_eachStepMovesOne 24 = .ok (.invokevirtual 68, 3) := by decide +kernel
theorem dX1_eachStepMovesOne_27 : decode cX1_eachStepMovesOne 27 = .ok (.iconst 1, 1) := by decide +kernel
theorem dX1_eachStepMovesOne_28 : decode cX1_eachStepMovesOne 28 = .ok (.if_icmp .ne 16, 3) := by decide +kernel
theorem dX1_eachStepMovesOne_31 : decode cX1_eachStepMovesOne 31 = .ok (.aload_n 0, 1) := by decide +kernel
theorem dX1_eachStepMovesOne_32 : decode cX1_eachStepMovesOne 32 = .ok (.aload_n 0, 1) := by decide +kernel
theorem dX1_eachStepMovesOne_33 : decode cX1_eachStepMovesOne 33 = .ok (.getfield 15, 3) := by decide +kernel
theorem dX1_eachStepMovesOne_36 : decode cX1_eachStepMovesOne 36 = .ok (.iload_n 1, 1) := by decide +kernel
theorem dX1_eachStepMovesOne_37 : decode cX1_eachStepMovesOne 37 = .ok (.invokevirtual 68, 3) := by decide +kernel
theorem dX1_eachStepMovesOne_40 : decode cX1_eachStepMovesOne 40 = .ok (.iconst 1, 1) := by decide +kernel
theorem dX1_eachStepMovesOne_41 : decode cX1_eachStepMovesOne 41 = .ok (.if_icmp .eq 5, 3) := by decide +kernel
theorem dX1_eachStepMovesOne_44 : decode cX1_eachStepMovesOne 44 = .ok (.iconst 0, 1) := by decide +kernel
theorem dX1_eachStepMovesOne_45 : decode cX1_eachStepMovesOne 45 = .ok (.ireturn, 1) := by decide +kernel
theorem dX1_eachStepMovesOne_46 : decode cX1_eachStepMovesOne 46 = .ok (.iinc 1 1, 3) := by decide +kernel
theorem dX1_eachStepMovesOne_49 : decode cX1_eachStepMovesOne 49 = .ok (.goto (-47), 3) := by decide +kernel
theorem dX1_eachStepMovesOne_52 : decode cX1_eachStepMovesOne 52 = .ok (.iconst 1, 1) := by decide +kernel
theorem dX1_eachStepMovesOne_53 : decode cX1_eachStepMovesOne 53 = .ok (.ireturn, 1) := by decide +kernel
theorem dX1_allOfStep_0 : decode cX1_allOfStep 0 = .ok (.iconst 0, 1) := by decide +kernel
theorem dX1_allOfStep_1 : decode cX1_allOfStep 1 = .ok (.istore_n 3, 1) := by decide +kernel
theorem dX1_allOfStep_2 : decode cX1_allOfStep 2 = .ok (.iconst 0, 1) := by decide +kernel
theorem dX1_allOfStep_3 : decode cX1_allOfStep 3 = .ok (.istore 4, 2) := by decide +kernel
theorem dX1_allOfStep_5 : decode cX1_allOfStep 5 = .ok (.iload 4, 2) := by decide +kernel
theorem dX1_allOfStep_7 : decode cX1_allOfStep 7 = .ok (.aload_n 0, 1) := by decide +kernel
theorem dX1_allOfStep_8 : decode cX1_allOfStep 8 = .ok (.getfield 21, 3) := by decide +kernel
theorem dX1_allOfStep_11 : decode cX1_allOfStep 11 = .ok (.if_icmp .ge 21, 3) := by decide +kernel
theorem dX1_allOfStep_14 : decode cX1_allOfStep 14 = .ok (.iload_n 3, 1) := by decide +kernel
theorem dX1_allOfStep_15 : decode cX1_allOfStep 15 = .ok (.aload_n 1, 1) := by decide +kernel
theorem dX1_allOfStep_16 : decode cX1_allOfStep 16 = .ok (.iload_n 2, 1) := by decide +kernel
theorem dX1_allOfStep_17 : decode cX1_allOfStep 17 = .ok (.bipush 10, 2) := by decide +kernel
theorem dX1_allOfStep_19 : decode cX1_allOfStep 19 = .ok (.imul, 1) := by decide +kernel
theorem dX1_allOfStep_20 : decode cX1_allOfStep 20 = .ok (.iload 4, 2) := by decide +kernel
theorem dX1_allOfStep_22 : decode cX1_allOfStep 22 = .ok (.iadd, 1) := by decide +kernel
theorem dX1_allOfStep_23 : decode cX1_allOfStep 23 = .ok (.iaload, 1) := by decide +kernel
theorem dX1_allOfStep_24 : decode cX1_allOfStep 24 = .ok (.iadd, 1) := by decide +kernel
theorem dX1_allOfStep_25 : decode cX1_allOfStep 25 = .ok (.istore_n 3, 1) := by decide +kernel
theorem dX1_allOfStep_26 : decode cX1_allOfStep 26 = .ok (.iinc 4 1, 3) := by decide +kernel
theorem dX1_allOfStep_29 : decode cX1_allOfStep 29 = .ok (.goto (-24), 3) := by decide +kernel
theorem dX1_allOfStep_32 : decode cX1_allOfStep 32 = .ok (.iload_n 3, 1) := by decide +kernel
theorem dX1_allOfStep_33 : decode cX1_allOfStep 33 = .ok (.ireturn, 1) := by decide +kernel
theorem dX1_eachPlaceIsPassed_0 : decode cX1_eachPlaceIsPassed 0 = .ok (.iconst 0, 1) := by decide +kernel
theorem dX1_eachPlaceIsPassed_1 : decode cX1_eachPlaceIsPassed 1 = .ok (.istore_n 1, 1) := by decide +kernel
theorem dX1_eachPlaceIsPassed_2 : decode cX1_eachPlaceIsPassed 2 = .ok (.iload_n 1, 1) := by decide +kernel
theorem dX1_eachPlaceIsPassed_3 : decode cX1_eachPlaceIsPassed 3 = .ok (.aload_n 0, 1) := by decide +kernel
theorem dX1_eachPlaceIsPassed_4 : decode cX1_eachPlaceIsPassed 4 = .ok (.getfield 21, 3) := by decide +kernel
theorem dX1_eachPlaceIsPassed_7 : decode cX1_eachPlaceIsPassed 7 = .ok (.if_icmp .ge 45, 3) := by decide +kernel
theorem dX1_eachPlaceIsPassed_10 : decode cX1_eachPlaceIsPassed 10 = .ok (.aload_n 0, 1) := by decide +kernel
theorem dX1_eachPlaceIsPassed_11 : decode cX1_eachPlaceIsPassed 11 = .ok (.iload_n 1, 1) := by decide +kernel
theorem dX1_eachPlaceIsPassed_12 : decode cX1_eachPlaceIsPassed 12 = .ok (.invokevirtual 71, 3) := by decide +kernel
theorem dX1_eachPlaceIsPassed_15 : decode cX1_eachPlaceIsPassed 15 = .ok (.ifCond .eq 31, 3) := by decide +kernel
theorem dX1_eachPlaceIsPassed_18 : decode cX1_eachPlaceIsPassed 18 = .ok (.aload_n 0, 1) := by decide +kernel
theorem dX1_eachPlaceIsPassed_19 : decode cX1_eachPlaceIsPassed 19 = .ok (.aload_n 0, 1) := by decide +kernel
theorem dX1_eachPlaceIsPassed_20 : decode cX1_eachPlaceIsPassed 20 = .ok (.getfield 9, 3) := by decide +kernel
theorem dX1_eachPlaceIsPassed_23 : decode cX1_eachPlaceIsPassed 23 = .ok (.iload_n 1, 1) := by decide +kernel
theorem dX1_eachPlaceIsPassed_24 : decode cX1_eachPlaceIsPassed 24 = .ok (.invokevirtual 74, 3) := by decide +kernel
theorem dX1_eachPlaceIsPassed_27 : decode cX1_eachPlaceIsPassed 27 = .ok (.iconst 1, 1) := by decide +kernel
theorem dX1_eachPlaceIsPassed_28 : decode cX1_eachPlaceIsPassed 28 = .ok (.if_icmp .ne 16, 3) := by decide +kernel
theorem dX1_eachPlaceIsPassed_31 : decode cX1_eachPlaceIsPassed 31 = .ok (.aload_n 0, 1) := by decide +kernel
theorem dX1_eachPlaceIsPassed_32 : decode cX1_eachPlaceIsPassed 32 = .ok (.aload_n 0, 1) := by decide +kernel
theorem dX1_eachPlaceIsPassed_33 : decode cX1_eachPlaceIsPassed 33 = .ok (.getfield 15, 3) := by decide +kernel
theorem dX1_eachPlaceIsPassed_36 : decode cX1_eachPlaceIsPassed 36 = .ok (.iload_n 1, 1) := by decide +kernel
theorem dX1_eachPlaceIsPassed_37 : decode cX1_eachPlaceIsPassed 37 = .ok (.invokevirtual 74, 3) := by decide +kernel
theorem dX1_eachPlaceIsPassed_40 : decode cX1_eachPlaceIsPassed 40 = .ok (.iconst 1, 1) := by decide +kernel
theorem dX1_eachPlaceIsPassed_41 : decode cX1_eachPlaceIsPassed 41 = .ok (.if_icmp .eq 5, 3) := by decide +kernel
theorem dX1_eachPlaceIsPassed_44 : decode cX1_eachPlaceIsPassed 44 = .ok (.iconst 0, 1) := by decide +kernel
theorem dX1_eachPlaceIsPassed_45 : decode cX1_eachPlaceIsPassed 45 = .ok (.ireturn, 1) := by decide +kernel
theorem dX1_eachPlaceIsPassed_46 : decode cX1_eachPlaceIsPassed 46 = .ok (.iinc 1 1, 3) := by decide +kernel
theorem dX1_eachPlaceIsPassed_49 : decode cX1_eachPlaceIsPassed 49 = .ok (.goto (-47), 3) := by decide +kernel
theorem dX1_eachPlaceIsPassed_52 : decode cX1_eachPlaceIsPassed 52 = .ok (.iconst 1, 1) := by decide +kernel
theorem dX1_eachPlaceIsPassed_53 : decode cX1_eachPlaceIsPassed 53 = .ok (.ireturn, 1) := by decide +kernel
theorem dX1_allOfPlace_0 : decode cX1_allOfPlace 0 = .ok (.iconst 0, 1) := by decide +kernel
theorem dX1_allOfPlace_1 : decode cX1_allOfPlace 1 = .ok (.istore_n 3, 1) := by decide +kernel
theorem dX1_allOfPlace_2 : decode cX1_allOfPlace 2 = .ok (.iconst 0, 1) := by decide +kernel
theorem dX1_allOfPlace_3 : decode cX1_allOfPlace 3 = .ok (.istore 4, 2) := by decide +kernel
theorem dX1_allOfPlace_5 : decode cX1_allOfPlace 5 = .ok (.iload 4, 2) := by decide +kernel
theorem dX1_allOfPlace_7 : decode cX1_allOfPlace 7 = .ok (.aload_n 0, 1) := by decide +kernel
theorem dX1_allOfPlace_8 : decode cX1_allOfPlace 8 = .ok (.getfield 25, 3) := by decide +kernel
theorem dX1_allOfPlace_11 : decode cX1_allOfPlace 11 = .ok (.if_icmp .ge 21, 3) := by decide +kernel
theorem dX1_allOfPlace_14 : decode cX1_allOfPlace 14 = .ok (.iload_n 3, 1) := by decide +kernel
theorem dX1_allOfPlace_15 : decode cX1_allOfPlace 15 = .ok (.aload_n 1, 1) := by decide +kernel
theorem dX1_allOfPlace_16 : decode cX1_allOfPlace 16 = .ok (.iload 4, 2) := by decide +kernel
theorem dX1_allOfPlace_18 : decode cX1_allOfPlace 18 = .ok (.bipush 10, 2) := by decide +kernel
theorem dX1_allOfPlace_20 : decode cX1_allOfPlace 20 = .ok (.imul, 1) := by decide +kernel
theorem dX1_allOfPlace_21 : decode cX1_allOfPlace 21 = .ok (.iload_n 2, 1) := by decide +kernel
theorem dX1_allOfPlace_22 : decode cX1_allOfPlace 22 = .ok (.iadd, 1) := by decide +kernel
theorem dX1_allOfPlace_23 : decode cX1_allOfPlace 23 = .ok (.iaload, 1) := by decide +kernel
theorem dX1_allOfPlace_24 : decode cX1_allOfPlace 24 = .ok (.iadd, 1) := by decide +kernel
theorem dX1_allOfPlace_25 : decode cX1_allOfPlace 25 = .ok (.istore_n 3, 1) := by decide +kernel
theorem dX1_allOfPlace_26 : decode cX1_allOfPlace 26 = .ok (.iinc 4 1, 3) := by decide +kernel
theorem dX1_allOfPlace_29 : decode cX1_allOfPlace 29 = .ok (.goto (-24), 3) := by decide +kernel
theorem dX1_allOfPlace_32 : decode cX1_allOfPlace 32 = .ok (.iload_n 3, 1) := by decide +kernel
theorem dX1_allOfPlace_33 : decode cX1_allOfPlace 33 = .ok (.ireturn, 1) := by decide +kernel
theorem dX1_rivalsTakeAlike_0 : decode cX1_rivalsTakeAlike 0 = .ok (.iconst 0, 1) := by decide +kernel
theorem dX1_rivalsTakeAlike_1 : decode cX1_rivalsTakeAlike 1 = .ok (.istore_n 1, 1) := by decide +kernel
theorem dX1_rivalsTakeAlike_2 : decode cX1_rivalsTakeAlike 2 = .ok (.iload_n 1, 1) := by decide +kernel
theorem dX1_rivalsTakeAlike_3 : decode cX1_rivalsTakeAlike 3 = .ok (.aload_n 0, 1) := by decide +kernel
theorem dX1_rivalsTakeAlike_4 : decode cX1_rivalsTakeAlike 4 = .ok (.getfield 25, 3) := by decide +kernel
theorem dX1_rivalsTakeAlike_7 : decode cX1_rivalsTakeAlike 7 = .ok (.if_icmp .ge 56, 3) := by decide +kernel
theorem dX1_rivalsTakeAlike_10 : decode cX1_rivalsTakeAlike 10 = .ok (.iload_n 1, 1) := by decide +kernel
theorem dX1_rivalsTakeAlike_11 : decode cX1_rivalsTakeAlike 11 = .ok (.iconst 1, 1) := by decide +kernel
theorem dX1_rivalsTakeAlike_12 : decode cX1_rivalsTakeAlike 12 = .ok (.iadd, 1) := by decide +kernel
theorem dX1_rivalsTakeAlike_13 : decode cX1_rivalsTakeAlike 13 = .ok (.istore_n 2, 1) := by decide +kernel
theorem dX1_rivalsTakeAlike_14 : decode cX1_rivalsTakeAlike 14 = .ok (.iload_n 2, 1) := by decide +kernel
theorem dX1_rivalsTakeAlike_15 : decode cX1_rivalsTakeAlike 15 = .ok (.aload_n 0, 1) := by decide +kernel
theorem dX1_rivalsTakeAlike_16 : decode cX1_rivalsTakeAlike 16 = .ok (.getfield 25, 3) := by decide +kernel
theorem dX1_rivalsTakeAlike_19 : decode cX1_rivalsTakeAlike 19 = .ok (.if_icmp .ge 38, 3) := by decide +kernel
theorem dX1_rivalsTakeAlike_22 : decode cX1_rivalsTakeAlike 22 = .ok (.aload_n 0, 1) := by decide +kernel
theorem dX1_rivalsTakeAlike_23 : decode cX1_rivalsTakeAlike 23 = .ok (.iload_n 1, 1) := by decide +kernel
theorem dX1_rivalsTakeAlike_24 : decode cX1_rivalsTakeAlike 24 = .ok (.invokevirtual 77, 3) := by decide +kernel
theorem dX1_rivalsTakeAlike_27 : decode cX1_rivalsTakeAlike 27 = .ok (.aload_n 0, 1) := by decide +kernel
theorem dX1_rivalsTakeAlike_28 : decode cX1_rivalsTakeAlike 28 = .ok (.iload_n 2, 1) := by decide +kernel
theorem dX1_rivalsTakeAlike_29 : decode cX1_rivalsTakeAlike 29 = .ok (.invokevirtual 77, 3) := by decide +kernel
theorem dX1_rivalsTakeAlike_32 : decode cX1_rivalsTakeAlike 32 = .ok (.iand, 1) := by decide +kernel
theorem dX1_rivalsTakeAlike_33 : decode cX1_rivalsTakeAlike 33 = .ok (.ifCond .eq 18, 3) := by decide +kernel
theorem dX1_rivalsTakeAlike_36 : decode cX1_rivalsTakeAlike 36 = .ok (.aload_n 0, 1) := by decide +kernel
theorem dX1_rivalsTakeAlike_37 : decode cX1_rivalsTakeAlike 37 = .ok (.aload_n 0, 1) := by decide +kernel
theorem dX1_rivalsTakeAlike_38 : decode cX1_rivalsTakeAlike 38 = .ok (.getfield 9, 3) := by decide +kernel
theorem dX1_rivalsTakeAlike_41 : decode cX1_rivalsTakeAlike 41 = .ok (.iload_n 1, 1) := by decide +kernel
theorem dX1_rivalsTakeAlike_42 : decode cX1_rivalsTakeAlike 42 = .ok (.iload_n 2, 1) := by decide +kernel
theorem dX1_rivalsTakeAlike_43 : decode cX1_rivalsTakeAlike 43 = .ok (.invokevirtual 81, 3) := by decide +kernel
theorem dX1_rivalsTakeAlike_46 : decode cX1_rivalsTakeAlike 46 = .ok (.ifCond .ne 5, 3) := by decide +kernel
theorem dX1_rivalsTakeAlike_49 : decode cX1_rivalsTakeAlike 49 = .ok (.iconst 0, 1) := by decide +kernel
theorem dX1_rivalsTakeAlike_50 : decode cX1_rivalsTakeAlike 50 = .ok (.ireturn, 1) := by decide +kernel
theorem dX1_rivalsTakeAlike_51 : decode cX1_rivalsTakeAlike 51 = .ok (.iinc 2 1, 3) := by decide +kernel
theorem dX1_rivalsTakeAlike_54 : decode cX1_rivalsTakeAlike 54 = .ok (.goto (-40), 3) := by decide +kernel
theorem dX1_rivalsTakeAlike_57 : decode cX1_rivalsTakeAlike 57 = .ok (.iinc 1 1, 3) := by decide +kernel
theorem dX1_rivalsTakeAlike_60 : decode cX1_rivalsTakeAlike 60 = .ok (.goto (-58), 3) := by decide +kernel
theorem dX1_rivalsTakeAlike_63 : decode cX1_rivalsTakeAlike 63 = .ok (.iconst 1, 1) := by decide +kernel
theorem dX1_rivalsTakeAlike_64 : decode cX1_rivalsTakeAlike 64 = .ok (.ireturn, 1) := by decide +kernel
theorem dX1_sameOfSteps_0 : decode cX1_sameOfSteps 0 = .ok (.iconst 0, 1) := by decide +kernel
theorem dX1_sameOfSteps_1 : decode cX1_sameOfSteps 1 = .ok (.istore 4, 2) := by decide +kernel
theorem dX1_sameOfSteps_3 : decode cX1_sameOfSteps 3 = .ok (.iload 4, 2) := by decide +kernel
theorem dX1_sameOfSteps_5 : decode cX1_sameOfSteps 5 = .ok (.aload_n 0, 1) := by decide +kernel
theorem dX1_sameOfSteps_6 : decode cX1_sameOfSteps 6 = .ok (.getfield 21, 3) := by decide +kernel
theorem dX1_sameOfSteps_9 : decode cX1_sameOfSteps 9 = .ok (.if_icmp .ge 32, 3) := by decide +kernel
theorem dX1_sameOfSteps_12 : decode cX1_sameOfSteps 12 = .ok (.aload_n 1, 1) := by decide +kernel
theorem dX1_sameOfSteps_13 : decode cX1_sameOfSteps 13 = .ok (.iload_n 2, 1) := by decide +kernel
theorem dX1_sameOfSteps_14 : decode cX1_sameOfSteps 14 = .ok (.bipush 10, 2) := by decide +kernel
theorem dX1_sameOfSteps_16 : decode cX1_sameOfSteps 16 = .ok (.imul, 1) := by decide +kernel
theorem dX1_sameOfSteps_17 : decode cX1_sameOfSteps 17 = .ok (.iload 4, 2) := by decide +kernel
theorem dX1_sameOfSteps_19 : decode cX1_sameOfSteps 19 = .ok (.iadd, 1) := by decide +kernel
theorem dX1_sameOfSteps_20 : decode cX1_sameOfSteps 20 = .ok (.iaload, 1) := by decide +kernel
theorem dX1_sameOfSteps_21 : decode cX1_sameOfSteps 21 = .ok (.aload_n 1, 1) := by decide +kernel
theorem dX1_sameOfSteps_22 : decode cX1_sameOfSteps 22 = .ok (.iload_n 3, 1) := by decide +kernel
theorem dX1_sameOfSteps_23 : decode cX1_sameOfSteps 23 = .ok (.bipush 10, 2) := by decide +kernel
theorem dX1_sameOfSteps_25 : decode cX1_sameOfSteps 25 = .ok (.imul, 1) := by decide +kernel
theorem dX1_sameOfSteps_26 : decode cX1_sameOfSteps 26 = .ok (.iload 4, 2) := by decide +kernel
theorem dX1_sameOfSteps_28 : decode cX1_sameOfSteps 28 = .ok (.iadd, 1) := by decide +kernel
theorem dX1_sameOfSteps_29 : decode cX1_sameOfSteps 29 = .ok (.iaload, 1) := by decide +kernel
theorem dX1_sameOfSteps_30 : decode cX1_sameOfSteps 30 = .ok (.if_icmp .eq 5, 3) := by decide +kernel
theorem dX1_sameOfSteps_33 : decode cX1_sameOfSteps 33 = .ok (.iconst 0, 1) := by decide +kernel
theorem dX1_sameOfSteps_34 : decode cX1_sameOfSteps 34 = .ok (.ireturn, 1) := by decide +kernel
theorem dX1_sameOfSteps_35 : decode cX1_sameOfSteps 35 = .ok (.iinc 4 1, 3) := by decide +kernel
theorem dX1_sameOfSteps_38 : decode cX1_sameOfSteps 38 = .ok (.goto (-35), 3) := by decide +kernel
theorem dX1_sameOfSteps_41 : decode cX1_sameOfSteps 41 = .ok (.iconst 1, 1) := by decide +kernel
theorem dX1_sameOfSteps_42 : decode cX1_sameOfSteps 42 = .ok (.ireturn, 1) := by decide +kernel
theorem dX1_sameOfPlaces_0 : decode cX1_sameOfPlaces 0 = .ok (.iconst 0, 1) := by decide +kernel
theorem dX1_sameOfPlaces_1 : decode cX1_sameOfPlaces 1 = .ok (.istore 4, 2) := by decide +kernel
theorem dX1_sameOfPlaces_3 : decode cX1_sameOfPlaces 3 = .ok (.iload 4, 2) := by decide +kernel
theorem dX1_sameOfPlaces_5 : decode cX1_sameOfPlaces 5 = .ok (.aload_n 0, 1) := by decide +kernel
theorem dX1_sameOfPlaces_6 : decode cX1_sameOfPlaces 6 = .ok (.getfield 25, 3) := by decide +kernel
theorem dX1_sameOfPlaces_9 : decode cX1_sameOfPlaces 9 = .ok (.if_icmp .ge 32, 3) := by decide +kernel
theorem dX1_sameOfPlaces_12 : decode cX1_sameOfPlaces 12 = .ok (.aload_n 1, 1) := by decide +kernel
theorem dX1_sameOfPlaces_13 : decode cX1_sameOfPlaces 13 = .ok (.iload 4, 2) := by decide +kernel
theorem dX1_sameOfPlaces_15 : decode cX1_sameOfPlaces 15 = .ok (.bipush 10, 2) := by decide +kernel
theorem dX1_sameOfPlaces_17 : decode cX1_sameOfPlaces 17 = .ok (.imul, 1) := by decide +kernel
theorem dX1_sameOfPlaces_18 : decode cX1_sameOfPlaces 18 = .ok (.iload_n 2, 1) := by decide +kernel
theorem dX1_sameOfPlaces_19 : decode cX1_sameOfPlaces 19 = .ok (.iadd, 1) := by decide +kernel
theorem dX1_sameOfPlaces_20 : decode cX1_sameOfPlaces 20 = .ok (.iaload, 1) := by decide +kernel
theorem dX1_sameOfPlaces_21 : decode cX1_sameOfPlaces 21 = .ok (.aload_n 1, 1) := by decide +kernel
theorem dX1_sameOfPlaces_22 : decode cX1_sameOfPlaces 22 = .ok (.iload 4, 2) := by decide +kernel
theorem dX1_sameOfPlaces_24 : decode cX1_sameOfPlaces 24 = .ok (.bipush 10, 2) := by decide +kernel
theorem dX1_sameOfPlaces_26 : decode cX1_sameOfPlaces 26 = .ok (.imul, 1) := by decide +kernel
theorem dX1_sameOfPlaces_27 : decode cX1_sameOfPlaces 27 = .ok (.iload_n 3, 1) := by decide +kernel
theorem dX1_sameOfPlaces_28 : decode cX1_sameOfPlaces 28 = .ok (.iadd, 1) := by decide +kernel
theorem dX1_sameOfPlaces_29 : decode cX1_sameOfPlaces 29 = .ok (.iaload, 1) := by decide +kernel
theorem dX1_sameOfPlaces_30 : decode cX1_sameOfPlaces 30 = .ok (.if_icmp .eq 5, 3) := by decide +kernel
theorem dX1_sameOfPlaces_33 : decode cX1_sameOfPlaces 33 = .ok (.iconst 0, 1) := by decide +kernel
theorem dX1_sameOfPlaces_34 : decode cX1_sameOfPlaces 34 = .ok (.ireturn, 1) := by decide +kernel
theorem dX1_sameOfPlaces_35 : decode cX1_sameOfPlaces 35 = .ok (.iinc 4 1, 3) := by decide +kernel
theorem dX1_sameOfPlaces_38 : decode cX1_sameOfPlaces 38 = .ok (.goto (-35), 3) := by decide +kernel
theorem dX1_sameOfPlaces_41 : decode cX1_sameOfPlaces 41 = .ok (.iconst 1, 1) := by decide +kernel
theorem dX1_sameOfPlaces_42 : decode cX1_sameOfPlaces 42 = .ok (.ireturn, 1) := by decide +kernel
theorem dX1_onlyStepWith_0 : decode cX1_onlyStepWith 0 = .ok (.iconst (-1), 1) := by decide +kernel
theorem dX1_onlyStepWith_1 : decode cX1_onlyStepWith 1 = .ok (.istore_n 3, 1) := by decide +kernel
theorem dX1_onlyStepWith_2 : decode cX1_onlyStepWith 2 = .ok (.iconst 0, 1) := by decide +kernel
theorem dX1_onlyStepWith_3 : decode cX1_onlyStepWith 3 = .ok (.istore 4, 2) := by decide +kernel
theorem dX1_onlyStepWith_5 : decode cX1_onlyStepWith 5 = .ok (.iload 4, 2) := by decide +kernel
theorem dX1_onlyStepWith_7 : decode cX1_onlyStepWith 7 = .ok (.aload_n 0, 1) := by decide +kernel
theorem dX1_onlyStepWith_8 : decode cX1_onlyStepWith 8 = .ok (.getfield 25, 3) := by decide +kernel
theorem dX1_onlyStepWith_11 : decode cX1_onlyStepWith 11 = .ok (.if_icmp .ge 34, 3) := by decide +kernel
theorem dX1_onlyStepWith_14 : decode cX1_onlyStepWith 14 = .ok (.aload_n 1, 1) := by decide +kernel
theorem dX1_onlyStepWith_15 : decode cX1_onlyStepWith 15 = .ok (.iload 4, 2) := by decide +kernel
theorem dX1_onlyStepWith_17 : decode cX1_onlyStepWith 17 = .ok (.bipush 10, 2) := by decide +kernel
theorem dX1_onlyStepWith_19 : decode cX1_onlyStepWith 19 = .ok (.imul, 1) := by decide +kernel
theorem dX1_onlyStepWith_20 : decode cX1_onlyStepWith 20 = .ok (.iload_n 2, 1) := by decide +kernel
theorem dX1_onlyStepWith_21 : decode cX1_onlyStepWith 21 = .ok (.iadd, 1) := by decide +kernel
theorem dX1_onlyStepWith_22 : decode cX1_onlyStepWith 22 = .ok (.iaload, 1) := by decide +kernel
theorem dX1_onlyStepWith_23 : decode cX1_onlyStepWith 23 = .ok (.ifCond .ne 6, 3) := by decide +kernel
theorem dX1_onlyStepWith_26 : decode cX1_onlyStepWith 26 = .ok (.goto 13, 3) := by decide +kernel
theorem dX1_onlyStepWith_29 : decode cX1_onlyStepWith 29 = .ok (.iload_n 3, 1) := by decide +kernel
theorem dX1_onlyStepWith_30 : decode cX1_onlyStepWith 30 = .ok (.iconst (-1), 1) := by decide +kernel
theorem dX1_onlyStepWith_31 : decode cX1_onlyStepWith 31 = .ok (.if_icmp .eq 5, 3) := by decide +kernel
theorem dX1_onlyStepWith_34 : decode cX1_onlyStepWith 34 = .ok (.iconst (-1), 1) := by decide +kernel
theorem dX1_onlyStepWith_35 : decode cX1_onlyStepWith 35 = .ok (.ireturn, 1) := by decide +kernel
theorem dX1_onlyStepWith_36 : decode cX1_onlyStepWith 36 = .ok (.iload 4, 2) := by decide +kernel
theorem dX1_onlyStepWith_38 : decode cX1_onlyStepWith 38 = .ok (.istore_n 3, 1) := by decide +kernel
theorem dX1_onlyStepWith_39 : decode cX1_onlyStepWith 39 = .ok (.iinc 4 1, 3) := by decide +kernel
theorem dX1_onlyStepWith_42 : decode cX1_onlyStepWith 42 = .ok (.goto (-37), 3) := by decide +kernel
theorem dX1_onlyStepWith_45 : decode cX1_onlyStepWith 45 = .ok (.iload_n 3, 1) := by decide +kernel
theorem dX1_onlyStepWith_46 : decode cX1_onlyStepWith 46 = .ok (.ireturn, 1) := by decide +kernel
theorem dX2_init_0 : decode cX2_init 0 = .ok (.aload_n 0, 1) := by decide +kernel
theorem dX2_init_1 : decode cX2_init 1 = .ok (.invokespecial 3, 3) := by decide +kernel
theorem dX2_init_4 : decode cX2_init 4 = .ok (.aload_n 0, 1) := by decide +kernel
theorem dX2_init_5 : decode cX2_init 5 = .ok (.bipush 12, 2) := by decide +kernel
theorem dX2_init_7 : decode cX2_init 7 = .ok (.anewarray 9, 3) := by decide +kernel
theorem dX2_init_10 : decode cX2_init 10 = .ok (.putfield 11, 3) := by decide +kernel
theorem dX2_init_13 : decode cX2_init 13 = .ok (.aload_n 0, 1) := by decide +kernel
theorem dX2_init_14 : decode cX2_init 14 = .ok (.iconst 0, 1) := by decide +kernel
theorem dX2_init_15 : decode cX2_init 15 = .ok (.putfield 17, 3) := by decide +kernel
theorem dX2_init_18 : decode cX2_init 18 = .ok (.aload_n 0, 1) := by decide +kernel
theorem dX2_init_19 : decode cX2_init 19 = .ok (.iconst 0, 1) := by decide +kernel
theorem dX2_init_20 : decode cX2_init 20 = .ok (.putfield 21, 3) := by decide +kernel
theorem dX2_init_23 : decode cX2_init 23 = .ok (.iconst 0, 1) := by decide +kernel
theorem dX2_init_24 : decode cX2_init 24 = .ok (.istore_n 1, 1) := by decide +kernel
theorem dX2_init_25 : decode cX2_init 25 = .ok (.iload_n 1, 1) := by decide +kernel
theorem dX2_init_26 : decode cX2_init 26 = .ok (.bipush 12, 2) := by decide +kernel
theorem dX2_init_28 : decode cX2_init 28 = .ok (.if_icmp .ge 22, 3) := by decide +kernel
theorem dX2_init_31 : decode cX2_init 31 = .ok (.aload_n 0, 1) := by decide +kernel
theorem dX2_init_32 : decode cX2_init 32 = .ok (.getfield 11, 3) := by decide +kernel
theorem dX2_init_35 : decode cX2_init 35 = .ok (.iload_n 1, 1) := by decide +kernel
theorem dX2_init_36 : decode cX2_init 36 = .ok (.new 9, 3) := by decide +kernel
theorem dX2_init_39 : decode cX2_init 39 = .ok (.dup, 1) := by decide +kernel
theorem dX2_init_40 : decode cX2_init 40 = .ok (.invokespecial 24, 3) := by decide +kernel
theorem dX2_init_43 : decode cX2_init 43 = .ok (.aastore, 1) := by decide +kernel
theorem dX2_init_44 : decode cX2_init 44 = .ok (.iinc 1 1, 3) := by decide +kernel
theorem dX2_init_47 : decode cX2_init 47 = .ok (.goto (-22), 3) := by decide +kernel
theorem dX2_init_50 : decode cX2_init 50 = .ok (.return_, 1) := by decide +kernel
theorem dX2_forget_0 : decode cX2_forget 0 = .ok (.aload_n 0, 1) := by decide +kernel
theorem dX2_forget_1 : decode cX2_forget 1 = .ok (.iconst 0, 1) := by decide +kernel
theorem dX2_forget_2 : decode cX2_forget 2 = .ok (.putfield 21, 3) := by decide +kernel
theorem dX2_forget_5 : decode cX2_forget 5 = .ok (.return_, 1) := by decide +kernel
theorem dX2_keep_0 : decode cX2_keep 0 = .ok (.aload_n 0, 1) := by decide +kernel
theorem dX2_keep_1 : decode cX2_keep 1 = .ok (.getfield 21, 3) := by decide +kernel
theorem dX2_keep_4 : decode cX2_keep 4 = .ok (.bipush 12, 2) := by decide +kernel
theorem dX2_keep_6 : decode cX2_keep 6 = .ok (.if_icmp .ne 19, 3) := by decide +kernel
theorem dX2_keep_9 : decode cX2_keep 9 = .ok (.aload_n 0, 1) := by decide +kernel
theorem dX2_keep_10 : decode cX2_keep 10 = .ok (.aload_n 0, 1) := by decide +kernel
theorem dX2_keep_11 : decode cX2_keep 11 = .ok (.getfield 17, 3) := by decide +kernel
theorem dX2_keep_14 : decode cX2_keep 14 = .ok (.iconst 1, 1) := by decide +kernel
theorem dX2_keep_15 : decode cX2_keep 15 = .ok (.iadd, 1) := by decide +kernel
theorem dX2_keep_16 : decode cX2_keep 16 = .ok (.bipush 12, 2) := by decide +kernel
theorem dX2_keep_18 : decode cX2_keep 18 = .ok (.irem, 1) := by decide +kernel
theorem dX2_keep_19 : decode cX2_keep 19 = .ok (.putfield 17, 3) := by decide +kernel
theorem dX2_keep_22 : decode cX2_keep 22 = .ok (.goto 13, 3) := by decide +kernel
theorem dX2_keep_25 : decode cX2_keep 25 = .ok (.aload_n 0, 1) := by decide +kernel
theorem dX2_keep_26 : decode cX2_keep 26 = .ok (.dup, 1) := by decide +kernel
theorem dX2_keep_27 : decode cX2_keep 27 = .ok (.getfield 21, 3) := by decide +kernel
theorem dX2_keep_30 : decode cX2_keep 30 = .ok (.iconst 1, 1) := by decide +kernel
theorem dX2_keep_31 : decode cX2_keep 31 = .ok (.iadd, 1) := by decide +kernel
theorem dX2_keep_32 : decode cX2_keep 32 = .ok (.putfield 21, 3) := by decide +kernel
theorem dX2_keep_35 : decode cX2_keep 35 = .ok (.aload_n 0, 1) := by decide +kernel
theorem dX2_keep_36 : decode cX2_keep 36 = .ok (.getfield 11, 3) := by decide +kernel
theorem dX2_keep_39 : decode cX2_keep 39 = .ok (.aload_n 0, 1) := by decide +kernel
theorem dX2_keep_40 : decode cX2_keep 40 = .ok (.getfield 17, 3) := by decide +kernel
theorem dX2_keep_43 : decode cX2_keep 43 = .ok (.aload_n 0, 1) := by decide +kernel
theorem dX2_keep_44 : decode cX2_keep 44 = .ok (.getfield 21, 3) := by decide +kernel
theorem dX2_keep_47 : decode cX2_keep 47 = .ok (.iadd, 1) := by decide +kernel
theorem dX2_keep_48 : decode cX2_keep 48 = .ok (.iconst 1, 1) := by decide +kernel
theorem dX2_keep_49 : decode cX2_keep 49 = .ok (.isub, 1) := by decide +kernel
theorem dX2_keep_50 : decode cX2_keep 50 = .ok (.bipush 12, 2) := by decide +kernel
theorem dX2_keep_52 : decode cX2_keep 52 = .ok (.irem, 1) := by decide +kernel
theorem dX2_keep_53 : decode cX2_keep 53 = .ok (.aaload, 1) := by decide +kernel
theorem dX2_keep_54 : decode cX2_keep 54 = .ok (.aload_n 1, 1) := by decide +kernel
theorem dX2_keep_55 : decode cX2_keep 55 = .ok (.invokevirtual 25, 3) := by decide +kernel
theorem dX2_keep_58 : decode cX2_keep 58 = .ok (.return_, 1) := by decide +kernel
theorem dX2_restore_0 : decode cX2_restore 0 = .ok (.aload_n 0, 1) := by decide +kernel
theorem dX2_restore_1 : decode cX2_restore 1 = .ok (.getfield 21, 3) := by decide +kernel
theorem dX2_restore_4 : decode cX2_restore 4 = .ok (.ifCond .ne 5, 3) := by decide +kernel
theorem dX2_restore_7 : decode cX2_restore 7 = .ok (.iconst 0, 1) := by decide +kernel
theorem dX2_restore_8 : decode cX2_restore 8 = .ok (.ireturn, 1) := by decide +kernel
theorem dX2_restore_9 : decode cX2_restore 9 = .ok (.aload_n 1, 1) := by decide +kernel
theorem dX2_restore_10 : decode cX2_restore 10 = .ok (.aload_n 0, 1) := by decide +kernel
theorem dX2_restore_11 : decode cX2_restore 11 = .ok (.getfield 11, 3) := by decide +kernel
theorem dX2_restore_14 : decode cX2_restore 14 = .ok (.aload_n 0, 1) := by decide +kernel
theorem dX2_restore_15 : decode cX2_restore 15 = .ok (.getfield 17, 3) := by decide +kernel
theorem dX2_restore_18 : decode cX2_restore 18 = .ok (.aload_n 0, 1) := by decide +kernel
theorem dX2_restore_19 : decode cX2_restore 19 = .ok (.getfield 21, 3) := by decide +kernel
theorem dX2_restore_22 : decode cX2_restore 22 = .ok (.iadd, 1) := by decide +kernel
theorem dX2_restore_23 : decode cX2_restore 23 = .ok (.iconst 1, 1) := by decide +kernel
theorem dX2_restore_24 : decode cX2_restore 24 = .ok (.isub, 1) := by decide +kernel
theorem dX2_restore_25 : decode cX2_restore 25 = .ok (.bipush 12, 2) := by decide +kernel
theorem dX2_restore_27 : decode cX2_restore 27 = .ok (.irem, 1) := by decide +kernel
theorem dX2_restore_28 : decode cX2_restore 28 = .ok (.aaload, 1) := by decide +kernel
theorem dX2_restore_29 : decode cX2_restore 29 = .ok (.invokevirtual 25, 3) := by decide +kernel
theorem dX2_restore_32 : decode cX2_restore 32 = .ok (.aload_n 0, 1) := by decide +kernel
theorem dX2_restore_33 : decode cX2_restore 33 = .ok (.dup, 1) := by decide +kernel
theorem dX2_restore_34 : decode cX2_restore 34 = .ok (.getfield 21, 3) := by decide +kernel
theorem dX2_restore_37 : decode cX2_restore 37 = .ok (.iconst 1, 1) := by decide +kernel
theorem dX2_restore_38 : decode cX2_restore 38 = .ok (.isub, 1) := by decide +kernel
theorem dX2_restore_39 : decode cX2_restore 39 = .ok (.putfield 21, 3) := by decide +kernel
theorem dX2_restore_42 : decode cX2_restore 42 = .ok (.iconst 1, 1) := by decide +kernel
theorem dX2_restore_43 : decode cX2_restore 43 = .ok (.ireturn, 1) := by decide +kernel
theorem dX3_init_0 : decode cX3_init 0 = .ok (.aload_n 0, 1) := by decide +kernel
theorem dX3_init_1 : decode cX3_init 1 = .ok (.invokespecial 3, 3) := by decide +kernel
theorem dX3_init_4 : decode cX3_init 4 = .ok (.aload_n 0, 1) := by decide +kernel
theorem dX3_init_5 : decode cX3_init 5 = .ok (.bipush 8, 2) := by decide +kernel
theorem dX3_init_7 : decode cX3_init 7 = .ok (.newarray .int, 2) := by decide +kernel
theorem dX3_init_9 : decode cX3_init 9 = .ok (.putfield 9, 3) := by decide +kernel
theorem dX3_init_12 : decode cX3_init 12 = .ok (.aload_n 0, 1) := by decide +kernel
theorem dX3_init_13 : decode cX3_init 13 = .ok (.bipush 8, 2) := by decide +kernel
theorem dX3_init_15 : decode cX3_init 15 = .ok (.newarray .int, 2) := by decide +kernel
theorem dX3_init_17 : decode cX3_init 17 = .ok (.putfield 15, 3) := by decide +kernel
theorem dX3_init_20 : decode cX3_init 20 = .ok (.aload_n 0, 1) := by decide +kernel
theorem dX3_init_21 : decode cX3_init 21 = .ok (.sipush 256, 3) := by decide +kernel
theorem dX3_init_24 : decode cX3_init 24 = .ok (.newarray .int, 2) := by decide +kernel
theorem dX3_init_26 : decode cX3_init 26 = .ok (.putfield 18, 3) := by decide +kernel
theorem dX3_init_29 : decode cX3_init 29 = .ok (.aload_n 0, 1) := by decide +kernel
theorem dX3_init_30 : decode cX3_init 30 = .ok (.sipush 1024, 3) := by decide +kernel
theorem dX3_init_33 : decode cX3_init 33 = .ok (.newarray .byte, 2) := by decide +kernel
theorem dX3_init_35 : decode cX3_init 35 = .ok (.putfield 21, 3) := by decide +kernel
theorem dX3_init_38 : decode cX3_init 38 = .ok (.aload_n 0, 1) := by decide +kernel
theorem dX3_init_39 : decode cX3_init 39 = .ok (.iconst 0, 1) := by decide +kernel
theorem dX3_init_40 : decode cX3_init 40 = .ok (.putfield 25, 3) := by decide +kernel
theorem dX3_init_43 : decode cX3_init 43 = .ok (.aload_n 0, 1) := by decide +kernel
theorem dX3_init_44 : decode cX3_init 44 = .ok (.iconst (-1), 1) := by decide +kernel
theorem dX3_init_45 : decode cX3_init 45 = .ok (.putfield 29, 3) := by decide +kernel
theorem dX3_init_48 : decode cX3_init 48 = .ok (.aload_n 0, 1) := by decide +kernel
theorem dX3_init_49 : decode cX3_init 49 = .ok (.iconst 0, 1) := by decide +kernel
theorem dX3_init_50 : decode cX3_init 50 = .ok (.putfield 32, 3) := by decide +kernel
theorem dX3_init_53 : decode cX3_init 53 = .ok (.aload_n 0, 1) := by decide +kernel
theorem dX3_init_54 : decode cX3_init 54 = .ok (.iload_n 1, 1) := by decide +kernel
theorem dX3_init_55 : decode cX3_init 55 = .ok (.putfield 36, 3) := by decide +kernel
theorem dX3_init_58 : decode cX3_init 58 = .ok (.return_, 1) := by decide +kernel
theorem dX3_lookAt_0 : decode cX3_lookAt 0 = .ok (.aload_n 0, 1) := by decide +kernel
theorem dX3_lookAt_1 : decode cX3_lookAt 1 = .ok (.getfield 29, 3) := by decide +kernel
theorem dX3_lookAt_4 : decode cX3_lookAt 4 = .ok (.aload_n 1, 1) := by decide +kernel
theorem dX3_lookAt_5 : decode cX3_lookAt 5 = .ok (.getfield 39, 3) := by decide +kernel
theorem dX3_lookAt_8 : decode cX3_lookAt 8 = .ok (.if_icmp .ne 4, 3) := by decide +kernel
theorem dX3_lookAt_11 : decode cX3_lookAt 11 = .ok (.return_, 1) := by decide +kernel
theorem dX3_lookAt_12 : decode cX3_lookAt 12 = .ok (.aload_n 0, 1) := by decide +kernel
theorem dX3_lookAt_13 : decode cX3_lookAt 13 = .ok (.aload_n 1, 1) := by decide +kernel
theorem dX3_lookAt_14 : decode cX3_lookAt 14 = .ok (.getfield 39, 3) := by decide +kernel
theorem dX3_lookAt_17 : decode cX3_lookAt 17 = .ok (.putfield 29, 3) := by decide +kernel
theorem dX3_lookAt_20 : decode cX3_lookAt 20 = .ok (.aload_n 0, 1) := by decide +kernel
theorem dX3_lookAt_21 : decode cX3_lookAt 21 = .ok (.iconst 0, 1) := by decide +kernel
theorem dX3_lookAt_22 : decode cX3_lookAt 22 = .ok (.putfield 32, 3) := by decide +kernel
theorem dX3_lookAt_25 : decode cX3_lookAt 25 = .ok (.iconst 0, 1) := by decide +kernel
theorem dX3_lookAt_26 : decode cX3_lookAt 26 = .ok (.istore_n 2, 1) := by decide +kernel
theorem dX3_lookAt_27 : decode cX3_lookAt 27 = .ok (.iload_n 2, 1) := by decide +kernel
theorem dX3_lookAt_28 : decode cX3_lookAt 28 = .ok (.bipush 8, 2) := by decide +kernel
theorem dX3_lookAt_30 : decode cX3_lookAt 30 = .ok (.if_icmp .ge 61, 3) := by decide +kernel
theorem dX3_lookAt_33 : decode cX3_lookAt 33 = .ok (.aload_n 0, 1) := by decide +kernel
theorem dX3_lookAt_34 : decode cX3_lookAt 34 = .ok (.getfield 9, 3) := by decide +kernel
theorem dX3_lookAt_37 : decode cX3_lookAt 37 = .ok (.iload_n 2, 1) := by decide +kernel
theorem dX3_lookAt_38 : decode cX3_lookAt 38 = .ok (.aload_n 0, 1) := by decide +kernel
theorem dX3_lookAt_39 : decode cX3_lookAt 39 = .ok (.getfield 36, 3) := by decide +kernel
theorem dX3_lookAt_42 : decode cX3_lookAt 42 = .ok (.ifCond .eq 11, 3) := by decide +kernel
theorem dX3_lookAt_45 : decode cX3_lookAt 45 = .ok (.aload_n 1, 1) := by decide +kernel
theorem dX3_lookAt_46 : decode cX3_lookAt 46 = .ok (.iload_n 2, 1) := by decide +kernel
theorem dX3_lookAt_47 : decode cX3_lookAt 47 = .ok (.invokevirtual 42, 3) := by decide +kernel
theorem dX3_lookAt_50 : decode cX3_lookAt 50 = .ok (.goto 8, 3) := by decide +kernel
theorem dX3_lookAt_53 : decode cX3_lookAt 53 = .ok (.aload_n 1, 1) := by decide +kernel
theorem dX3_lookAt_54 : decode cX3_lookAt 54 = .ok (.iload_n 2, 1) := by decide +kernel
theorem dX3_lookAt_55 : decode cX3_lookAt 55 = .ok (.invokevirtual 46, 3) := by decide +kernel
theorem dX3_lookAt_58 : decode cX3_lookAt 58 = .ok (.iastore, 1) := by decide +kernel
theorem dX3_lookAt_59 : decode cX3_lookAt 59 = .ok (.aload_n 0, 1) := by decide +kernel
theorem dX3_lookAt_60 : decode cX3_lookAt 60 = .ok (.getfield 15, 3) := by decide +kernel
theorem dX3_lookAt_63 : decode cX3_lookAt 63 = .ok (.iload_n 2, 1) := by decide +kernel
theorem dX3_lookAt_64 : decode cX3_lookAt 64 = .ok (.aload_n 0, 1) := by decide +kernel
theorem dX3_lookAt_65 : decode cX3_lookAt 65 = .ok (.getfield 36, 3) := by decide +kernel
theorem dX3_lookAt_68 : decode cX3_lookAt 68 = .ok (.ifCond .eq 11, 3) := by decide +kernel
theorem dX3_lookAt_71 : decode cX3_lookAt 71 = .ok (.aload_n 1, 1) := by decide +kernel
theorem dX3_lookAt_72 : decode cX3_lookAt 72 = .ok (.iload_n 2, 1) := by decide +kernel
theorem dX3_lookAt_73 : decode cX3_lookAt 73 = .ok (.invokevirtual 46, 3) := by decide +kernel
theorem dX3_lookAt_76 : decode cX3_lookAt 76 = .ok (.goto 8, 3) := by decide +kernel
theorem dX3_lookAt_79 : decode cX3_lookAt 79 = .ok (.aload_n 1, 1) := by decide +kernel
theorem dX3_lookAt_80 : decode cX3_lookAt 80 = .ok (.iload_n 2, 1) := by decide +kernel
theorem dX3_lookAt_81 : decode cX3_lookAt 81 = .ok (.invokevirtual 42, 3) := by decide +kernel
theorem dX3_lookAt_84 : decode cX3_lookAt 84 = .ok (.iastore, 1) := by decide +kernel
theorem dX3_lookAt_85 : decode cX3_lookAt 85 = .ok (.iinc 2 1, 3) := by decide +kernel
theorem dX3_lookAt_88 : decode cX3_lookAt 88 = .ok (.goto (-61), 3) := by decide +kernel
theorem dX3_lookAt_91 : decode cX3_lookAt 91 = .ok (.return_, 1) := by decide +kernel
theorem dX3_findLeast_0 : decode cX3_findLeast 0 = .ok (.aload_n 0, 1) := by decide +kernel
theorem dX3_findLeast_1 : decode cX3_findLeast 1 = .ok (.getfield 32, 3) := by decide +kernel
theorem dX3_findLeast_4 : decode cX3_findLeast 4 = .ok (.ifCond .eq 4, 3) := by decide +kernel
theorem dX3_findLeast_7 : decode cX3_findLeast 7 = .ok (.return_, 1) := by decide +kernel
theorem dX3_findLeast_8 : decode cX3_findLeast 8 = .ok (.aload_n 0, 1) := by decide +kernel
theorem dX3_findLeast_9 : decode cX3_findLeast 9 = .ok (.iconst 1, 1) := by decide +kernel
theorem dX3_findLeast_10 : decode cX3_findLeast 10 = .ok (.putfield 32, 3) := by decide +kernel
theorem dX3_findLeast_13 : decode cX3_findLeast 13 = .ok (.aload_n 0, 1) := by decide +kernel
theorem dX3_findLeast_14 : decode cX3_findLeast 14 = .ok (.iconst 0, 1) := by decide +kernel
theorem dX3_findLeast_15 : decode cX3_findLeast 15 = .ok (.putfield 25, 3) := by decide +kernel
theorem dX3_findLeast_18 : decode cX3_findLeast 18 = .ok (.aload_n 0, 1) := by decide +kernel
theorem dX3_findLeast_19 : decode cX3_findLeast 19 = .ok (.getfield 21, 3) := by decide +kernel
theorem dX3_findLeast_22 : decode cX3_findLeast 22 = .ok (.iconst 0, 1) := by decide +kernel
theorem dX3_findLeast_23 : decode cX3_findLeast 23 = .ok (.iconst 0, 1) := by decide +kernel
theorem dX3_findLeast_24 : decode cX3_findLeast 24 = .ok (.bastore, 1) := by decide +kernel
theorem dX3_findLeast_25 : decode cX3_findLeast 25 = .ok (.iconst 1, 1) := by decide +kernel
theorem dX3_findLeast_26 : decode cX3_findLeast 26 = .ok (.istore_n 2, 1) := by decide +kernel
theorem dX3_findLeast_27 : decode cX3_findLeast 27 = .ok (.iload_n 2, 1) := by decide +kernel
theorem dX3_findLeast_28 : decode cX3_findLeast 28 = .ok (.sipush 1024, 3) := by decide +kernel
theorem dX3_findLeast_31 : decode cX3_findLeast 31 = .ok (.if_icmp .ge 90, 3) := by decide +kernel
theorem dX3_findLeast_34 : decode cX3_findLeast 34 = .ok (.aload_n 0, 1) := by decide +kernel
theorem dX3_findLeast_35 : decode cX3_findLeast 35 = .ok (.getfield 21, 3) := by decide +kernel
theorem dX3_findLeast_38 : decode cX3_findLeast 38 = .ok (.iload_n 2, 1) := by decide +kernel
theorem dX3_findLeast_39 : decode cX3_findLeast 39 = .ok (.iconst 0, 1) := by decide +kernel
theorem dX3_findLeast_40 : decode cX3_findLeast 40 = .ok (.bastore, 1) := by decide +kernel
theorem dX3_findLeast_41 : decode cX3_findLeast 41 = .ok (.iload_n 2, 1) := by decide +kernel
theorem dX3_findLeast_42 : decode cX3_findLeast 42 = .ok (.iload_n 1, 1) := by decide +kernel
theorem dX3_findLeast_43 : decode cX3_findLeast 43 = .ok (.iconst (-1), 1) := by decide +kernel
theorem dX3_findLeast_44 : decode cX3_findLeast 44 = .ok (.ixor, 1) := by decide +kernel
theorem dX3_findLeast_45 : decode cX3_findLeast 45 = .ok (.iand, 1) := by decide +kernel
theorem dX3_findLeast_46 : decode cX3_findLeast 46 = .ok (.ifCond .eq 6, 3) := by decide +kernel
theorem dX3_findLeast_49 : decode cX3_findLeast 49 = .ok (.goto 66, 3) := by decide +kernel
theorem dX3_findLeast_52 : decode cX3_findLeast 52 = .ok (.aload_n 0, 1) := by decide +kernel
theorem dX3_findLeast_53 : decode cX3_findLeast 53 = .ok (.iload_n 2, 1) := by decide +kernel
theorem dX3_findLeast_54 : decode cX3_findLeast 54 = .ok (.invokevirtual 49, 3) := by decide +kernel
theorem dX3_findLeast_57 : decode cX3_findLeast 57 = .ok (.ifCond .eq 13, 3) := by decide +kernel
theorem dX3_findLeast_60 : decode cX3_findLeast 60 = .ok (.aload_n 0, 1) := by decide +kernel
theorem dX3_findLeast_61 : decode cX3_findLeast 61 = .ok (.getfield 21, 3) := by decide +kernel
theorem dX3_findLeast_64 : decode cX3_findLeast 64 = .ok (.iload_n 2, 1) := by decide +kernel
theorem dX3_findLeast_65 : decode cX3_findLeast 65 = .ok (.iconst 1, 1) := by decide +kernel
theorem dX3_findLeast_66 : decode cX3_findLeast 66 = .ok (.bastore, 1) := by decide +kernel
theorem dX3_findLeast_67 : decode cX3_findLeast 67 = .ok (.goto 48, 3) := by decide +kernel
theorem dX3_findLeast_70 : decode cX3_findLeast 70 = .ok (.aload_n 0, 1) := by decide +kernel
theorem dX3_findLeast_71 : decode cX3_findLeast 71 = .ok (.iload_n 2, 1) := by decide +kernel
theorem dX3_findLeast_72 : decode cX3_findLeast 72 = .ok (.invokevirtual 53, 3) := by decide +kernel
theorem dX3_findLeast_75 : decode cX3_findLeast 75 = .ok (.ifCond .eq 40, 3) := by decide +kernel
theorem dX3_findLeast_78 : decode cX3_findLeast 78 = .ok (.aload_n 0, 1) := by decide +kernel
theorem dX3_findLeast_79 : decode cX3_findLeast 79 = .ok (.getfield 25, 3) := by decide +kernel
theorem dX3_findLeast_82 : decode cX3_findLeast 82 = .ok (.sipush 256, 3) := by decide +kernel
theorem dX3_findLeast_85 : decode cX3_findLeast 85 = .ok (.if_icmp .ge 30, 3) := by decide +kernel
theorem dX3_findLeast_88 : decode cX3_findLeast 88 = .ok (.aload_n 0, 1) := by decide +kernel
theorem dX3_findLeast_89 : decode cX3_findLeast 89 = .ok (.getfield 21, 3) := by decide +kernel
theorem dX3_findLeast_92 : decode cX3_findLeast 92 = .ok (.iload_n 2, 1) := by decide +kernel
theorem dX3_findLeast_93 : decode cX3_findLeast 93 = .ok (.iconst 1, 1) := by decide +kernel
theorem dX3_findLeast_94 : decode cX3_findLeast 94 = .ok (.bastore, 1) := by decide +kernel
theorem dX3_findLeast_95 : decode cX3_findLeast 95 = .ok (.aload_n 0, 1) := by decide +kernel
theorem dX3_findLeast_96 : decode cX3_findLeast 96 = .ok (.getfield 18, 3) := by decide +kernel
theorem dX3_findLeast_99 : decode cX3_findLeast 99 = .ok (.aload_n 0, 1) := by decide +kernel
theorem dX3_findLeast_100 : decode cX3_findLeast 100 = .ok (.getfield 25, 3) := by decide +kernel
theorem dX3_findLeast_103 : decode cX3_findLeast 103 = .ok (.iload_n 2, 1) := by decide +kernel
theorem dX3_findLeast_104 : decode cX3_findLeast 104 = .ok (.iastore, 1) := by decide +kernel
theorem dX3_findLeast_105 : decode cX3_findLeast 105 = .ok (.aload_n 0, 1) := by decide +kernel
theorem dX3_findLeast_106 : decode cX3_findLeast 106 = .ok (.dup, 1) := by decide +kernel
theorem dX3_findLeast_107 : decode cX3_findLeast 107 = .ok (.getfield 25, 3) := by decide +kernel
theorem dX3_findLeast_110 : decode cX3_findLeast 110 = .ok (.iconst 1, 1) := by decide +kernel
theorem dX3_findLeast_111 : decode cX3_findLeast 111 = .ok (.iadd, 1) := by decide +kernel
theorem dX3_findLeast_112 : decode cX3_findLeast 112 = .ok (.putfield 25, 3) := by decide +kernel
theorem dX3_findLeast_115 : decode cX3_findLeast 115 = .ok (.iinc 2 1, 3) := by decide +kernel
theorem dX3_findLeast_118 : decode cX3_findLeast 118 = .ok (.goto (-91), 3) := by decide +kernel
theorem dX3_findLeast_121 : decode cX3_findLeast 121 = .ok (.return_, 1) := by decide +kernel
theorem dX3_holdsSmaller_0 : decode cX3_holdsSmaller 0 = .ok (.iconst 0, 1) := by decide +kernel
theorem dX3_holdsSmaller_1 : decode cX3_holdsSmaller 1 = .ok (.istore_n 2, 1) := by decide +kernel
theorem dX3_holdsSmaller_2 : decode cX3_holdsSmaller 2 = .ok (.iload_n 2, 1) := by decide +kernel
theorem dX3_holdsSmaller_3 : decode cX3_holdsSmaller 3 = .ok (.bipush 10, 2) := by decide +kernel
theorem dX3_holdsSmaller_5 : decode cX3_holdsSmaller 5 = .ok (.if_icmp .ge 36, 3) := by decide +kernel
theorem dX3_holdsSmaller_8 : decode cX3_holdsSmaller 8 = .ok (.iload_n 1, 1) := by decide +kernel
theorem dX3_holdsSmaller_9 : decode cX3_holdsSmaller 9 = .ok (.iload_n 2, 1) := by decide +kernel
theorem dX3_holdsSmaller_10 : decode cX3_holdsSmaller 10 = .ok (.ishr, 1) := by decide +kernel
theorem dX3_holdsSmaller_11 : decode cX3_holdsSmaller 11 = .ok (.iconst 1, 1) := by decide +kernel
theorem dX3_holdsSmaller_12 : decode cX3_holdsSmaller 12 = .ok (.iand, 1) := by decide +kernel
theorem dX3_holdsSmaller_13 : decode cX3_holdsSmaller 13 = .ok (.iconst 1, 1) := by decide +kernel
theorem dX3_holdsSmaller_14 : decode cX3_holdsSmaller 14 = .ok (.if_icmp .ne 21, 3) := by decide +kernel
theorem dX3_holdsSmaller_17 : decode cX3_holdsSmaller 17 = .ok (.aload_n 0, 1) := by decide +kernel
theorem dX3_holdsSmaller_18 : decode cX3_holdsSmaller 18 = .ok (.getfield 21, 3) := by decide +kernel
theorem dX3_holdsSmaller_21 : decode cX3_holdsSmaller 21 = .ok (.iload_n 1, 1) := by decide +kernel
theorem dX3_holdsSmaller_22 : decode cX3_holdsSmaller 22 = .ok (.iconst 1, 1) := by decide +kernel
theorem dX3_holdsSmaller_23 : decode cX3_holdsSmaller 23 = .ok (.iload_n 2, 1) := by decide +kernel
theorem dX3_holdsSmaller_24 : decode cX3_holdsSmaller 24 = .ok (.ishl, 1) := by decide +kernel
theorem dX3_holdsSmaller_25 : decode cX3_holdsSmaller 25 = .ok (.iconst (-1), 1) := by decide +kernel
theorem dX3_holdsSmaller_26 : decode cX3_holdsSmaller 26 = .ok (.ixor, 1) := by decide +kernel
theorem dX3_holdsSmaller_27 : decode cX3_holdsSmaller 27 = .ok (.iand, 1) := by decide +kernel
theorem dX3_holdsSmaller_28 : decode cX3_holdsSmaller 28 = .ok (.baload, 1) := by decide +kernel
theorem dX3_holdsSmaller_29 : decode cX3_holdsSmaller 29 = .ok (.iconst 1, 1) := by decide +kernel
theorem dX3_holdsSmaller_30 : decode cX3_holdsSmaller 30 = .ok (.if_icmp .ne 5, 3) := by decide +kernel
theorem dX3_holdsSmaller_33 : decode cX3_holdsSmaller 33 = .ok (.iconst 1, 1) := by decide +kernel
theorem dX3_holdsSmaller_34 : decode cX3_holdsSmaller 34 = .ok (.ireturn, 1) := by decide +kernel
theorem dX3_holdsSmaller_35 : decode cX3_holdsSmaller 35 = .ok (.iinc 2 1, 3) := by decide +kernel
theorem dX3_holdsSmaller_38 : decode cX3_holdsSmaller 38 = .ok (.goto (-36), 3) := by decide +kernel
theorem dX3_holdsSmaller_41 : decode cX3_holdsSmaller 41 = .ok (.iconst 0, 1) := by decide +kernel
theorem dX3_holdsSmaller_42 : decode cX3_holdsSmaller 42 = .ok (.ireturn, 1) := by decide +kernel
theorem dX3_isClosed_0 : decode cX3_isClosed 0 = .ok (.iconst 0, 1) := by decide +kernel
theorem dX3_isClosed_1 : decode cX3_isClosed 1 = .ok (.istore_n 2, 1) := by decide +kernel
theorem dX3_isClosed_2 : decode cX3_isClosed 2 = .ok (.iload_n 2, 1) := by decide +kernel
theorem dX3_isClosed_3 : decode cX3_isClosed 3 = .ok (.bipush 8, 2) := by decide +kernel
theorem dX3_isClosed_5 : decode cX3_isClosed 5 = .ok (.if_icmp .ge 33, 3) := by decide +kernel
theorem dX3_isClosed_8 : decode cX3_isClosed 8 = .ok (.aload_n 0, 1) := by decide +kernel
theorem dX3_isClosed_9 : decode cX3_isClosed 9 = .ok (.getfield 9, 3) := by decide +kernel
theorem dX3_isClosed_12 : decode cX3_isClosed 12 = .ok (.iload_n 2, 1) := by decide +kernel
theorem dX3_isClosed_13 : decode cX3_isClosed 13 = .ok (.iaload, 1) := by decide +kernel
theorem dX3_isClosed_14 : decode cX3_isClosed 14 = .ok (.iload_n 1, 1) := by decide +kernel
theorem dX3_isClosed_15 : decode cX3_isClosed 15 = .ok (.iand, 1) := by decide +kernel
theorem dX3_isClosed_16 : decode cX3_isClosed 16 = .ok (.ifCond .eq 16, 3) := by decide +kernel
theorem dX3_isClosed_19 : decode cX3_isClosed 19 = .ok (.aload_n 0, 1) := by decide +kernel
theorem dX3_isClosed_20 : decode cX3_isClosed 20 = .ok (.getfield 15, 3) := by decide +kernel
theorem dX3_isClosed_23 : decode cX3_isClosed 23 = .ok (.iload_n 2, 1) := by decide +kernel
theorem dX3_isClosed_24 : decode cX3_isClosed 24 = .ok (.iaload, 1) := by decide +kernel
theorem dX3_isClosed_25 : decode cX3_isClosed 25 = .ok (.iload_n 1, 1) := by decide +kernel
theorem dX3_isClosed_26 : decode cX3_isClosed 26 = .ok (.iand, 1) := by decide +kernel
theorem dX3_isClosed_27 : decode cX3_isClosed 27 = .ok (.ifCond .ne 5, 3) := by decide +kernel
theorem dX3_isClosed_30 : decode cX3_isClosed 30 = .ok (.iconst 0, 1) := by decide +kernel
theorem dX3_isClosed_31 : decode cX3_isClosed 31 = .ok (.ireturn, 1) := by decide +kernel
theorem dX3_isClosed_32 : decode cX3_isClosed 32 = .ok (.iinc 2 1, 3) := by decide +kernel
theorem dX3_isClosed_35 : decode cX3_isClosed 35 = .ok (.goto (-33), 3) := by decide +kernel
theorem dX3_isClosed_38 : decode cX3_isClosed 38 = .ok (.iconst 1, 1) := by decide +kernel
theorem dX3_isClosed_39 : decode cX3_isClosed 39 = .ok (.ireturn, 1) := by decide +kernel
theorem dX3_largestWithin_0 : decode cX3_largestWithin 0 = .ok (.iload_n 1, 1) := by decide +kernel
theorem dX3_largestWithin_1 : decode cX3_largestWithin 1 = .ok (.istore_n 2, 1) := by decide +kernel
theorem dX3_largestWithin_2 : decode cX3_largestWithin 2 = .ok (.iconst 0, 1) := by decide +kernel
theorem dX3_largestWithin_3 : decode cX3_largestWithin 3 = .ok (.istore_n 3, 1) := by decide +kernel
theorem dX3_largestWithin_4 : decode cX3_largestWithin 4 = .ok (.iload_n 3, 1) := by decide +kernel
theorem dX3_largestWithin_5 : decode cX3_largestWithin 5 = .ok (.bipush 10, 2) := by decide +kernel
theorem dX3_largestWithin_7 : decode cX3_largestWithin 7 = .ok (.if_icmp .gt 73, 3) := by decide +kernel
theorem dX3_largestWithin_10 : decode cX3_largestWithin 10 = .ok (.iload_n 2, 1) := by decide +kernel
theorem dX3_largestWithin_11 : decode cX3_largestWithin 11 = .ok (.istore 4, 2) := by decide +kernel
theorem dX3_largestWithin_13 : decode cX3_largestWithin 13 = .ok (.iconst 0, 1) := by decide +kernel
theorem dX3_largestWithin_14 : decode cX3_largestWithin 14 = .ok (.istore 5, 2) := by decide +kernel
theorem dX3_largestWithin_16 : decode cX3_largestWithin 16 = .ok (.iload 5, 2) := by decide +kernel
theorem dX3_largestWithin_18 : decode cX3_largestWithin 18 = .ok (.bipush 8, 2) := by decide +kernel
theorem dX3_largestWithin_20 : decode cX3_largestWithin 20 = .ok (.if_icmp .ge 45, 3) := by decide +kernel
theorem dX3_largestWithin_23 : decode cX3_largestWithin 23 = .ok (.aload_n 0, 1) := by decide +kernel
theorem dX3_largestWithin_24 : decode cX3_largestWithin 24 = .ok (.getfield 9, 3) := by decide +kernel
theorem dX3_largestWithin_27 : decode cX3_largestWithin 27 = .ok (.iload 5, 2) := by decide +kernel
theorem dX3_largestWithin_29 : decode cX3_largestWithin 29 = .ok (.iaload, 1) := by decide +kernel
theorem dX3_largestWithin_30 : decode cX3_largestWithin 30 = .ok (.iload_n 2, 1) := by decide +kernel
theorem dX3_largestWithin_31 : decode cX3_largestWithin 31 = .ok (.iand, 1) := by decide +kernel
theorem dX3_largestWithin_32 : decode cX3_largestWithin 32 = .ok (.ifCond .eq 27, 3) := by decide +kernel
theorem dX3_largestWithin_35 : decode cX3_largestWithin 35 = .ok (.aload_n 0, 1) := by decide +kernel
theorem dX3_largestWithin_36 : decode cX3_largestWithin 36 = .ok (.getfield 15, 3) := by decide +kernel
theorem dX3_largestWithin_39 : decode cX3_largestWithin 39 = .ok (.iload 5, 2) := by decide +kernel
theorem dX3_largestWithin_41 : decode cX3_largestWithin 41 = .ok (.iaload, 1) := by decide +kernel
theorem dX3_largestWithin_42 : decode cX3_largestWithin 42 = .ok (.iload_n 2, 1) := by decide +kernel
theorem dX3_largestWithin_43 : decode cX3_largestWithin 43 = .ok (.iand, 1) := by decide +kernel
theorem dX3_largestWithin_44 : decode cX3_largestWithin 44 = .ok (.ifCond .ne 15, 3) := by decide +kernel
theorem dX3_largestWithin_47 : decode cX3_largestWithin 47 = .ok (.iload_n 2, 1) := by decide +kernel
theorem dX3_largestWithin_48 : decode cX3_largestWithin 48 = .ok (.aload_n 0, 1) := by decide +kernel
theorem dX3_largestWithin_49 : decode cX3_largestWithin 49 = .ok (.getfield 9, 3) := by decide +kernel
theorem dX3_largestWithin_52 : decode cX3_largestWithin 52 = .ok (.iload 5, 2) := by decide +kernel
theorem dX3_largestWithin_54 : decode cX3_largestWithin 54 = .ok (.iaload, 1) := by decide +kernel
theorem dX3_largestWithin_55 : decode cX3_largestWithin 55 = .ok (.iconst (-1), 1) := by decide +kernel
theorem dX3_largestWithin_56 : decode cX3_largestWithin 56 = .ok (.ixor, 1) := by decide +kernel
theorem dX3_largestWithin_57 : decode cX3_largestWithin 57 = .ok (.iand, 1) := by decide +kernel
theorem dX3_largestWithin_58 : decode cX3_largestWithin 58 = .ok (.istore_n 2, 1) := by decide +kernel
theorem dX3_largestWithin_59 : decode cX3_largestWithin 59 = .ok (.iinc 5 1, 3) := by decide +kernel
theorem dX3_largestWithin_62 : decode cX3_largestWithin 62 = .ok (.goto (-46), 3) := by decide +kernel
theorem dX3_largestWithin_65 : decode cX3_largestWithin 65 = .ok (.iload_n 2, 1) := by decide +kernel
theorem dX3_largestWithin_66 : decode cX3_largestWithin 66 = .ok (.iload 4, 2) := by decide +kernel
theorem dX3_largestWithin_68 : decode cX3_largestWithin 68 = .ok (.if_icmp .ne 6, 3) := by decide +kernel
theorem dX3_largestWithin_71 : decode cX3_largestWithin 71 = .ok (.goto 9, 3) := by decide +kernel
theorem dX3_largestWithin_74 : decode cX3_largestWithin 74 = .ok (.iinc 3 1, 3) := by decide +kernel
theorem dX3_largestWithin_77 : decode cX3_largestWithin 77 = .ok (.goto (-73), 3) := by decide +kernel
theorem dX3_largestWithin_80 : decode cX3_largestWithin 80 = .ok (.iload_n 2, 1) := by decide +kernel
theorem dX3_largestWithin_81 : decode cX3_largestWithin 81 = .ok (.ireturn, 1) := by decide +kernel
theorem dX4_init_0 : decode cX4_init 0 = .ok (.aload_n 0, 1) := by decide +kernel
theorem dX4_init_1 : decode cX4_init 1 = .ok (.invokespecial 3, 3) := by decide +kernel
theorem dX4_init_4 : decode cX4_init 4 = .ok (.aload_n 0, 1) := by decide +kernel
theorem dX4_init_5 : decode cX4_init 5 = .ok (.sipush 900, 3) := by decide +kernel
theorem dX4_init_8 : decode cX4_init 8 = .ok (.newarray .int, 2) := by decide +kernel
theorem dX4_init_10 : decode cX4_init 10 = .ok (.putfield 9, 3) := by decide +kernel
theorem dX4_init_13 : decode cX4_init 13 = .ok (.aload_n 0, 1) := by decide +kernel
theorem dX4_init_14 : decode cX4_init 14 = .ok (.bipush 10, 2) := by decide +kernel
theorem dX4_init_16 : decode cX4_init 16 = .ok (.newarray .int, 2) := by decide +kernel
theorem dX4_init_18 : decode cX4_init 18 = .ok (.putfield 15, 3) := by decide +kernel
theorem dX4_init_21 : decode cX4_init 21 = .ok (.aload_n 0, 1) := by decide +kernel
theorem dX4_init_22 : decode cX4_init 22 = .ok (.bipush 8, 2) := by decide +kernel
theorem dX4_init_24 : decode cX4_init 24 = .ok (.newarray .int, 2) := by decide +kernel
theorem dX4_init_26 : decode cX4_init 26 = .ok (.putfield 18, 3) := by decide +kernel
theorem dX4_init_29 : decode cX4_init 29 = .ok (.aload_n 0, 1) := by decide +kernel
theorem dX4_init_30 : decode cX4_init 30 = .ok (.iconst 0, 1) := by decide +kernel
theorem dX4_init_31 : decode cX4_init 31 = .ok (.putfield 21, 3) := by decide +kernel
theorem dX4_init_34 : decode cX4_init 34 = .ok (.aload_n 0, 1) := by decide +kernel
theorem dX4_init_35 : decode cX4_init 35 = .ok (.iconst 0, 1) := by decide +kernel
theorem dX4_init_36 : decode cX4_init 36 = .ok (.putfield 25, 3) := by decide +kernel
theorem dX4_init_39 : decode cX4_init 39 = .ok (.aload_n 0, 1) := by decide +kernel
theorem dX4_init_40 : decode cX4_init 40 = .ok (.iconst (-1), 1) := by decide +kernel
theorem dX4_init_41 : decode cX4_init 41 = .ok (.putfield 28, 3) := by decide +kernel
theorem dX4_init_44 : decode cX4_init 44 = .ok (.aload_n 0, 1) := by decide +kernel
theorem dX4_init_45 : decode cX4_init 45 = .ok (.iconst 0, 1) := by decide +kernel
theorem dX4_init_46 : decode cX4_init 46 = .ok (.putfield 31, 3) := by decide +kernel
theorem dX4_init_49 : decode cX4_init 49 = .ok (.aload_n 0, 1) := by decide +kernel
theorem dX4_init_50 : decode cX4_init 50 = .ok (.iconst 1, 1) := by decide +kernel
theorem dX4_init_51 : decode cX4_init 51 = .ok (.putfield 34, 3) := by decide +kernel
theorem dX4_init_54 : decode cX4_init 54 = .ok (.aload_n 0, 1) := by decide +kernel
theorem dX4_init_55 : decode cX4_init 55 = .ok (.iconst 0, 1) := by decide +kernel
theorem dX4_init_56 : decode cX4_init 56 = .ok (.putfield 37, 3) := by decide +kernel
theorem dX4_init_59 : decode cX4_init 59 = .ok (.aload_n 0, 1) := by decide +kernel
theorem dX4_init_60 : decode cX4_init 60 = .ok (.iconst 0, 1) := by decide +kernel
theorem dX4_init_61 : decode cX4_init 61 = .ok (.putfield 40, 3) := by decide +kernel
theorem dX4_init_64 : decode cX4_init 64 = .ok (.aload_n 0, 1) := by decide +kernel
theorem dX4_init_65 : decode cX4_init 65 = .ok (.iconst 0, 1) := by decide +kernel
theorem dX4_init_66 : decode cX4_init 66 = .ok (.putfield 43, 3) := by decide +kernel
theorem dX4_init_69 : decode cX4_init 69 = .ok (.return_, 1) := by decide +kernel
theorem dX4_append_0 : decode cX4_append 0 = .ok (.bipush 24, 2) := by decide +kernel
theorem dX4_append_2 : decode cX4_append 2 = .ok (.istore_n 2, 1) := by decide +kernel
theorem dX4_append_3 : decode cX4_append 3 = .ok (.iload_n 2, 1) := by decide +kernel
theorem dX4_append_4 : decode cX4_append 4 = .ok (.ifCond .lt 45, 3) := by decide +kernel
theorem dX4_append_7 : decode cX4_append 7 = .ok (.aload_n 0, 1) := by decide +kernel
theorem dX4_append_8 : decode cX4_append 8 = .ok (.getfield 21, 3) := by decide +kernel
theorem dX4_append_11 : decode cX4_append 11 = .ok (.sipush 900, 3) := by decide +kernel
theorem dX4_append_14 : decode cX4_append 14 = .ok (.if_icmp .ge 35, 3) := by decide +kernel
theorem dX4_append_17 : decode cX4_append 17 = .ok (.aload_n 0, 1) := by decide +kernel
theorem dX4_append_18 : decode cX4_append 18 = .ok (.getfield 9, 3) := by decide +kernel
theorem dX4_append_21 : decode cX4_append 21 = .ok (.aload_n 0, 1) := by decide +kernel
theorem dX4_append_22 : decode cX4_append 22 = .ok (.getfield 21, 3) := by decide +kernel
theorem dX4_append_25 : decode cX4_append 25 = .ok (.iload_n 1, 1) := by decide +kernel
theorem dX4_append_26 : decode cX4_append 26 = .ok (.iload_n 2, 1) := by decide +kernel
theorem dX4_append_27 : decode cX4_append 27 = .ok (.iushr, 1) := by decide +kernel
theorem dX4_append_28 : decode cX4_append 28 = .ok (.sipush 255, 3) := by decide +kernel
theorem dX4_append_31 : decode cX4_append 31 = .ok (.iand, 1) := by decide +kernel
theorem dX4_append_32 : decode cX4_append 32 = .ok (.iastore, 1) := by decide +kernel
theorem dX4_append_33 : decode cX4_append 33 = .ok (.aload_n 0, 1) := by decide +kernel
theorem dX4_append_34 : decode cX4_append 34 = .ok (.dup, 1) := by decide +kernel
theorem dX4_append_35 : decode cX4_append 35 = .ok (.getfield 21, 3) := by decide +kernel
theorem dX4_append_38 : decode cX4_append 38 = .ok (.iconst 1, 1) := by decide +kernel
theorem dX4_append_39 : decode cX4_append 39 = .ok (.iadd, 1) := by decide +kernel
theorem dX4_append_40 : decode cX4_append 40 = .ok (.putfield 21, 3) := by decide +kernel
theorem dX4_append_43 : decode cX4_append 43 = .ok (.iinc 2 (-8), 3) := by decide +kernel
theorem dX4_append_46 : decode cX4_append 46 = .ok (.goto (-43), 3) := by decide +kernel
theorem dX4_append_49 : decode cX4_append 49 = .ok (.return_, 1) := by decide +kernel
theorem dX4_readInto_0 : decode cX4_readInto 0 = .ok (.aload_n 0, 1) := by decide +kernel
theorem dX4_readInto_1 : decode cX4_readInto 1 = .ok (.iconst 0, 1) := by decide +kernel
theorem dX4_readInto_2 : decode cX4_readInto 2 = .ok (.putfield 25, 3) := by decide +kernel
theorem dX4_readInto_5 : decode cX4_readInto 5 = .ok (.aload_n 0, 1) := by decide +kernel
theorem dX4_readInto_6 : decode cX4_readInto 6 = .ok (.iconst (-1), 1) := by decide +kernel
theorem dX4_readInto_7 : decode cX4_readInto 7 = .ok (.putfield 28, 3) := by decide +kernel
theorem dX4_readInto_10 : decode cX4_readInto 10 = .ok (.aload_n 0, 1) := by decide +kernel
theorem dX4_readInto_11 : decode cX4_readInto 11 = .ok (.iconst 0, 1) := by decide +kernel
theorem dX4_readInto_12 : decode cX4_readInto 12 = .ok (.putfield 31, 3) := by decide +kernel
theorem dX4_readInto_15 : decode cX4_readInto 15 = .ok (.aload_n 1, 1) := by decide +kernel
theorem dX4_readInto_16 : decode cX4_readInto 16 = .ok (.invokevirtual 46, 3) := by decide +kernel
theorem dX4_readInto_19 : decode cX4_readInto 19 = .ok (.aload_n 0, 1) := by decide +kernel
theorem dX4_readInto_20 : decode cX4_readInto 20 = .ok (.invokevirtual 51, 3) := by decide +kernel
theorem dX4_readInto_23 : decode cX4_readInto 23 = .ok (.iconst 1, 1) := by decide +kernel
theorem dX4_readInto_24 : decode cX4_readInto 24 = .ok (.istore_n 2, 1) := by decide +kernel
theorem dX4_readInto_25 : decode cX4_readInto 25 = .ok (.iconst 0, 1) := by decide +kernel
theorem dX4_readInto_26 : decode cX4_readInto 26 = .ok (.istore_n 3, 1) := by decide +kernel
theorem dX4_readInto_27 : decode cX4_readInto 27 = .ok (.iload_n 3, 1) := by decide +kernel
theorem dX4_readInto_28 : decode cX4_readInto 28 = .ok (.sipush 900, 3) := by decide +kernel
theorem dX4_readInto_31 : decode cX4_readInto 31 = .ok (.if_icmp .ge 79, 3) := by decide +kernel
theorem dX4_readInto_34 : decode cX4_readInto 34 = .ok (.iload_n 2, 1) := by decide +kernel
theorem dX4_readInto_35 : decode cX4_readInto 35 = .ok (.ifCond .eq 75, 3) := by decide +kernel
theorem dX4_readInto_38 : decode cX4_readInto 38 = .ok (.aload_n 0, 1) := by decide +kernel
theorem dX4_readInto_39 : decode cX4_readInto 39 = .ok (.getfield 34, 3) := by decide +kernel
theorem dX4_readInto_42 : decode cX4_readInto 42 = .ok (.iconst 1, 1) := by decide +kernel
theorem dX4_readInto_43 : decode cX4_readInto 43 = .ok (.if_icmp .eq 67, 3) := by decide +kernel
theorem dX4_readInto_46 : decode cX4_readInto 46 = .ok (.aload_n 0, 1) := by decide +kernel
theorem dX4_readInto_47 : decode cX4_readInto 47 = .ok (.getfield 34, 3) := by decide +kernel
theorem dX4_readInto_50 : decode cX4_readInto 50 = .ok (.iconst 2, 1) := by decide +kernel
theorem dX4_readInto_51 : decode cX4_readInto 51 = .ok (.if_icmp .ne 21, 3) := by decide +kernel
theorem dX4_readInto_54 : decode cX4_readInto 54 = .ok (.aload_n 0, 1) := by decide +kernel
theorem dX4_readInto_55 : decode cX4_readInto 55 = .ok (.getfield 40, 3) := by decide +kernel
theorem dX4_readInto_58 : decode cX4_readInto 58 = .ok (.ldc 54, 2) := by decide +kernel
theorem dX4_readInto_60 : decode cX4_readInto 60 = .ok (.if_icmp .ne 12, 3) := by decide +kernel
theorem dX4_readInto_63 : decode cX4_readInto 63 = .ok (.aload_n 0, 1) := by decide +kernel
theorem dX4_readInto_64 : decode cX4_readInto 64 = .ok (.aload_n 1, 1) := by decide +kernel
theorem dX4_readInto_65 : decode cX4_readInto 65 = .ok (.invokevirtual 55, 3) := by decide +kernel
theorem dX4_readInto_68 : decode cX4_readInto 68 = .ok (.istore_n 2, 1) := by decide +kernel
theorem dX4_readInto_69 : decode cX4_readInto 69 = .ok (.goto 35, 3) := by decide +kernel
theorem dX4_readInto_72 : decode cX4_readInto 72 = .ok (.aload_n 0, 1) := by decide +kernel
theorem dX4_readInto_73 : decode cX4_readInto 73 = .ok (.getfield 34, 3) := by decide +kernel
theorem dX4_readInto_76 : decode cX4_readInto 76 = .ok (.iconst 2, 1) := by decide +kernel
theorem dX4_readInto_77 : decode cX4_readInto 77 = .ok (.if_icmp .ne 21, 3) := by decide +kernel
theorem dX4_readInto_80 : decode cX4_readInto 80 = .ok (.aload_n 0, 1) := by decide +kernel
theorem dX4_readInto_81 : decode cX4_readInto 81 = .ok (.getfield 40, 3) := by decide +kernel
theorem dX4_readInto_84 : decode cX4_readInto 84 = .ok (.ldc 59, 2) := by decide +kernel
theorem dX4_readInto_86 : decode cX4_readInto 86 = .ok (.if_icmp .ne 12, 3) := by decide +kernel
theorem dX4_readInto_89 : decode cX4_readInto 89 = .ok (.aload_n 0, 1) := by decide +kernel
theorem dX4_readInto_90 : decode cX4_readInto 90 = .ok (.aload_n 1, 1) := by decide +kernel
theorem dX4_readInto_91 : decode cX4_readInto 91 = .ok (.invokevirtual 60, 3) := by decide +kernel
theorem dX4_readInto_94 : decode cX4_readInto 94 = .ok (.istore_n 2, 1) := by decide +kernel
theorem dX4_readInto_95 : decode cX4_readInto 95 = .ok (.goto 9, 3) := by decide +kernel
theorem dX4_readInto_98 : decode cX4_readInto 98 = .ok (.aload_n 0, 1) := by decide +kernel
theorem dX4_readInto_99 : decode cX4_readInto 99 = .ok (.iconst 2, 1) := by decide +kernel
theorem dX4_readInto_100 : decode cX4_readInto 100 = .ok (.invokevirtual 63, 3) := by decide +kernel
theorem dX4_readInto_103 : decode cX4_readInto 103 = .ok (.istore_n 2, 1) := by decide +kernel
theorem dX4_readInto_104 : decode cX4_readInto 104 = .ok (.iinc 3 1, 3) := by decide +kernel
theorem dX4_readInto_107 : decode cX4_readInto 107 = .ok (.goto (-80), 3) := by decide +kernel
theorem dX4_readInto_110 : decode cX4_readInto 110 = .ok (.iload_n 2, 1) := by decide +kernel
theorem dX4_readInto_111 : decode cX4_readInto 111 = .ok (.ireturn, 1) := by decide +kernel
theorem dX4_readPlace_0 : decode cX4_readPlace 0 = .ok (.aload_n 1, 1) := by decide +kernel
theorem dX4_readPlace_1 : decode cX4_readPlace 1 = .ok (.getfield 67, 3) := by decide +kernel
theorem dX4_readPlace_4 : decode cX4_readPlace 4 = .ok (.bipush 10, 2) := by decide +kernel
theorem dX4_readPlace_6 : decode cX4_readPlace 6 = .ok (.if_icmp .lt 9, 3) := by decide +kernel
theorem dX4_readPlace_9 : decode cX4_readPlace 9 = .ok (.aload_n 0, 1) := by decide +kernel
theorem dX4_readPlace_10 : decode cX4_readPlace 10 = .ok (.iconst 5, 1) := by decide +kernel
theorem dX4_readPlace_11 : decode cX4_readPlace 11 = .ok (.invokevirtual 63, 3) := by decide +kernel
theorem dX4_readPlace_14 : decode cX4_readPlace 14 = .ok (.ireturn, 1) := by decide +kernel
theorem dX4_readPlace_15 : decode cX4_readPlace 15 = .ok (.aload_n 0, 1) := by decide +kernel
theorem dX4_readPlace_16 : decode cX4_readPlace 16 = .ok (.invokevirtual 51, 3) := by decide +kernel
theorem dX4_readPlace_19 : decode cX4_readPlace 19 = .ok (.aload_n 0, 1) := by decide +kernel
theorem dX4_readPlace_20 : decode cX4_readPlace 20 = .ok (.aload_n 1, 1) := by decide +kernel
theorem dX4_readPlace_21 : decode cX4_readPlace 21 = .ok (.invokevirtual 70, 3) := by decide +kernel
theorem dX4_readPlace_24 : decode cX4_readPlace 24 = .ok (.ifCond .ne 5, 3) := by decide +kernel
theorem dX4_readPlace_27 : decode cX4_readPlace 27 = .ok (.iconst 0, 1) := by decide +kernel
theorem dX4_readPlace_28 : decode cX4_readPlace 28 = .ok (.ireturn, 1) := by decide +kernel
theorem dX4_readPlace_29 : decode cX4_readPlace 29 = .ok (.aload_n 0, 1) := by decide +kernel
theorem dX4_readPlace_30 : decode cX4_readPlace 30 = .ok (.getfield 15, 3) := by decide +kernel
theorem dX4_readPlace_33 : decode cX4_readPlace 33 = .ok (.aload_n 1, 1) := by decide +kernel
theorem dX4_readPlace_34 : decode cX4_readPlace 34 = .ok (.getfield 67, 3) := by decide +kernel
theorem dX4_readPlace_37 : decode cX4_readPlace 37 = .ok (.aload_n 0, 1) := by decide +kernel
theorem dX4_readPlace_38 : decode cX4_readPlace 38 = .ok (.getfield 40, 3) := by decide +kernel
theorem dX4_readPlace_41 : decode cX4_readPlace 41 = .ok (.iastore, 1) := by decide +kernel
theorem dX4_readPlace_42 : decode cX4_readPlace 42 = .ok (.aload_n 0, 1) := by decide +kernel
theorem dX4_readPlace_43 : decode cX4_readPlace 43 = .ok (.invokevirtual 51, 3) := by decide +kernel
theorem dX4_readPlace_46 : decode cX4_readPlace 46 = .ok (.iconst 0, 1) := by decide +kernel
theorem dX4_readPlace_47 : decode cX4_readPlace 47 = .ok (.istore_n 2, 1) := by decide +kernel
theorem dX4_readPlace_48 : decode cX4_readPlace 48 = .ok (.aload_n 0, 1) := by decide +kernel
theorem dX4_readPlace_49 : decode cX4_readPlace 49 = .ok (.getfield 34, 3) := by decide +kernel
theorem dX4_readPlace_52 : decode cX4_readPlace 52 = .ok (.iconst 3, 1) := by decide +kernel
theorem dX4_readPlace_53 : decode cX4_readPlace 53 = .ok (.if_icmp .ne 27, 3) := by decide +kernel
theorem dX4_readPlace_56 : decode cX4_readPlace 56 = .ok (.aload_n 0, 1) := by decide +kernel
theorem dX4_readPlace_57 : decode cX4_readPlace 57 = .ok (.getfield 43, 3) := by decide +kernel
theorem dX4_readPlace_60 : decode cX4_readPlace 60 = .ok (.bipush 99, 2) := by decide +kernel
theorem dX4_readPlace_62 : decode cX4_readPlace 62 = .ok (.if_icmp .le 9, 3) := by decide +kernel
theorem dX4_readPlace_65 : decode cX4_readPlace 65 = .ok (.aload_n 0, 1) := by decide +kernel
theorem dX4_readPlace_66 : decode cX4_readPlace 66 = .ok (.iconst 4, 1) := by decide +kernel
theorem dX4_readPlace_67 : decode cX4_readPlace 67 = .ok (.invokevirtual 63, 3) := by decide +kernel
theorem dX4_readPlace_70 : decode cX4_readPlace 70 = .ok (.ireturn, 1) := by decide +kernel
theorem dX4_readPlace_71 : decode cX4_readPlace 71 = .ok (.aload_n 0, 1) := by decide +kernel
theorem dX4_readPlace_72 : decode cX4_readPlace 72 = .ok (.getfield 43, 3) := by decide +kernel
theorem dX4_readPlace_75 : decode cX4_readPlace 75 = .ok (.istore_n 2, 1) := by decide +kernel
theorem dX4_readPlace_76 : decode cX4_readPlace 76 = .ok (.aload_n 0, 1) := by decide +kernel
theorem dX4_readPlace_77 : decode cX4_readPlace 77 = .ok (.invokevirtual 51, 3) := by decide +kernel
theorem dX4_readPlace_80 : decode cX4_readPlace 80 = .ok (.aload_n 1, 1) := by decide +kernel
theorem dX4_readPlace_81 : decode cX4_readPlace 81 = .ok (.iload_n 2, 1) := by decide +kernel
theorem dX4_readPlace_82 : decode cX4_readPlace 82 = .ok (.invokevirtual 73, 3) := by decide +kernel
theorem dX4_readPlace_85 : decode cX4_readPlace 85 = .ok (.aload_n 0, 1) := by decide +kernel
theorem dX4_readPlace_86 : decode cX4_readPlace 86 = .ok (.invokevirtual 77, 3) := by decide +kernel
theorem dX4_readPlace_89 : decode cX4_readPlace 89 = .ok (.ireturn, 1) := by decide +kernel
theorem dX4_readStep_0 : decode cX4_readStep 0 = .ok (.aload_n 1, 1) := by decide +kernel
theorem dX4_readStep_1 : decode cX4_readStep 1 = .ok (.getfield 81, 3) := by decide +kernel
theorem dX4_readStep_4 : decode cX4_readStep 4 = .ok (.bipush 8, 2) := by decide +kernel
theorem dX4_readStep_6 : decode cX4_readStep 6 = .ok (.if_icmp .lt 9, 3) := by decide +kernel
theorem dX4_readStep_9 : decode cX4_readStep 9 = .ok (.aload_n 0, 1) := by decide +kernel
theorem dX4_readStep_10 : decode cX4_readStep 10 = .ok (.iconst 5, 1) := by decide +kernel
theorem dX4_readStep_11 : decode cX4_readStep 11 = .ok (.invokevirtual 63, 3) := by decide +kernel
theorem dX4_readStep_14 : decode cX4_readStep 14 = .ok (.ireturn, 1) := by decide +kernel
theorem dX4_readStep_15 : decode cX4_readStep 15 = .ok (.aload_n 0, 1) := by decide +kernel
theorem dX4_readStep_16 : decode cX4_readStep 16 = .ok (.invokevirtual 51, 3) := by decide +kernel
theorem dX4_readStep_19 : decode cX4_readStep 19 = .ok (.aload_n 0, 1) := by decide +kernel
theorem dX4_readStep_20 : decode cX4_readStep 20 = .ok (.aload_n 1, 1) := by decide +kernel
theorem dX4_readStep_21 : decode cX4_readStep 21 = .ok (.invokevirtual 70, 3) := by decide +kernel
theorem dX4_readStep_24 : decode cX4_readStep 24 = .ok (.ifCond .ne 5, 3) := by decide +kernel
theorem dX4_readStep_27 : decode cX4_readStep 27 = .ok (.iconst 0, 1) := by decide +kernel
theorem dX4_readStep_28 : decode cX4_readStep 28 = .ok (.ireturn, 1) := by decide +kernel
theorem dX4_readStep_29 : decode cX4_readStep 29 = .ok (.aload_n 0, 1) := by decide +kernel
theorem dX4_readStep_30 : decode cX4_readStep 30 = .ok (.getfield 18, 3) := by decide +kernel
theorem dX4_readStep_33 : decode cX4_readStep 33 = .ok (.aload_n 1, 1) := by decide +kernel
theorem dX4_readStep_34 : decode cX4_readStep 34 = .ok (.getfield 81, 3) := by decide +kernel
theorem dX4_readStep_37 : decode cX4_readStep 37 = .ok (.aload_n 0, 1) := by decide +kernel
theorem dX4_readStep_38 : decode cX4_readStep 38 = .ok (.getfield 40, 3) := by decide +kernel
theorem dX4_readStep_41 : decode cX4_readStep 41 = .ok (.iastore, 1) := by decide +kernel
theorem dX4_readStep_42 : decode cX4_readStep 42 = .ok (.aload_n 1, 1) := by decide +kernel
theorem dX4_readStep_43 : decode cX4_readStep 43 = .ok (.getfield 81, 3) := by decide +kernel
theorem dX4_readStep_46 : decode cX4_readStep 46 = .ok (.istore_n 2, 1) := by decide +kernel
theorem dX4_readStep_47 : decode cX4_readStep 47 = .ok (.aload_n 1, 1) := by decide +kernel
theorem dX4_readStep_48 : decode cX4_readStep 48 = .ok (.invokevirtual 84, 3) := by decide +kernel
theorem dX4_readStep_51 : decode cX4_readStep 51 = .ok (.aload_n 0, 1) := by decide +kernel
theorem dX4_readStep_52 : decode cX4_readStep 52 = .ok (.invokevirtual 51, 3) := by decide +kernel
theorem dX4_readStep_55 : decode cX4_readStep 55 = .ok (.iconst 0, 1) := by decide +kernel
theorem dX4_readStep_56 : decode cX4_readStep 56 = .ok (.istore_n 3, 1) := by decide +kernel
theorem dX4_readStep_57 : decode cX4_readStep 57 = .ok (.iload_n 3, 1) := by decide +kernel
theorem dX4_readStep_58 : decode cX4_readStep 58 = .ok (.sipush 900, 3) := by decide +kernel
theorem dX4_readStep_61 : decode cX4_readStep 61 = .ok (.if_icmp .ge 72, 3) := by decide +kernel
theorem dX4_readStep_64 : decode cX4_readStep 64 = .ok (.aload_n 0, 1) := by decide +kernel
theorem dX4_readStep_65 : decode cX4_readStep 65 = .ok (.getfield 34, 3) := by decide +kernel
theorem dX4_readStep_68 : decode cX4_readStep 68 = .ok (.iconst 2, 1) := by decide +kernel
theorem dX4_readStep_69 : decode cX4_readStep 69 = .ok (.if_icmp .ne 64, 3) := by decide +kernel
theorem dX4_readStep_72 : decode cX4_readStep 72 = .ok (.aload_n 0, 1) := by decide +kernel
theorem dX4_readStep_73 : decode cX4_readStep 73 = .ok (.getfield 40, 3) := by decide +kernel
theorem dX4_readStep_76 : decode cX4_readStep 76 = .ok (.ldc 87, 2) := by decide +kernel
theorem dX4_readStep_78 : decode cX4_readStep 78 = .ok (.if_icmp .eq 18, 3) := by decide +kernel
theorem dX4_readStep_81 : decode cX4_readStep 81 = .ok (.aload_n 0, 1) := by decide +kernel
theorem dX4_readStep_82 : decode cX4_readStep 82 = .ok (.getfield 40, 3) := by decide +kernel
theorem dX4_readStep_85 : decode cX4_readStep 85 = .ok (.ldc 88, 2) := by decide +kernel
theorem dX4_readStep_87 : decode cX4_readStep 87 = .ok (.if_icmp .eq 9, 3) := by decide +kernel
theorem dX4_readStep_90 : decode cX4_readStep 90 = .ok (.aload_n 0, 1) := by decide +kernel
theorem dX4_readStep_91 : decode cX4_readStep 91 = .ok (.iconst 2, 1) := by decide +kernel
theorem dX4_readStep_92 : decode cX4_readStep 92 = .ok (.invokevirtual 63, 3) := by decide +kernel
theorem dX4_readStep_95 : decode cX4_readStep 95 = .ok (.ireturn, 1) := by decide +kernel
theorem dX4_readStep_96 : decode cX4_readStep 96 = .ok (.aload_n 0, 1) := by decide +kernel
theorem dX4_readStep_97 : decode cX4_readStep 97 = .ok (.aload_n 1, 1) := by decide +kernel
theorem dX4_readStep_98 : decode cX4_readStep 98 = .ok (.iload_n 2, 1) := by decide +kernel
theorem dX4_readStep_99 : decode cX4_readStep 99 = .ok (.aload_n 0, 1) := by decide +kernel
theorem dX4_readStep_100 : decode cX4_readStep 100 = .ok (.getfield 40, 3) := by decide +kernel
theorem dX4_readStep_103 : decode cX4_readStep 103 = .ok (.ldc 87, 2) := by decide +kernel
theorem dX4_readStep_105 : decode cX4_readStep 105 = .ok (.if_icmp .ne 10, 3) := by decide +kernel
theorem dX4_readStep_108 : decode cX4_readStep 108 = .ok (.aload_n 1, 1) := by decide +kernel
theorem dX4_readStep_109 : decode cX4_readStep 109 = .ok (.getfield 89, 3) := by decide +kernel
theorem dX4_readStep_112 : decode cX4_readStep 112 = .ok (.goto 7, 3) := by decide +kernel
theorem dX4_readStep_115 : decode cX4_readStep 115 = .ok (.aload_n 1, 1) := by decide +kernel
theorem dX4_readStep_116 : decode cX4_readStep 116 = .ok (.getfield 92, 3) := by decide +kernel
theorem dX4_readStep_119 : decode cX4_readStep 119 = .ok (.invokevirtual 95, 3) := by decide +kernel
theorem dX4_readStep_122 : decode cX4_readStep 122 = .ok (.ifCond .ne 5, 3) := by decide +kernel
theorem dX4_readStep_125 : decode cX4_readStep 125 = .ok (.iconst 0, 1) := by decide +kernel
theorem dX4_readStep_126 : decode cX4_readStep 126 = .ok (.ireturn, 1) := by decide +kernel
theorem dX4_readStep_127 : decode cX4_readStep 127 = .ok (.iinc 3 1, 3) := by decide +kernel
theorem dX4_readStep_130 : decode cX4_readStep 130 = .ok (.goto (-73), 3) := by decide +kernel
theorem dX4_readStep_133 : decode cX4_readStep 133 = .ok (.aload_n 0, 1) := by decide +kernel
theorem dX4_readStep_134 : decode cX4_readStep 134 = .ok (.invokevirtual 77, 3) := by decide +kernel
theorem dX4_readStep_137 : decode cX4_readStep 137 = .ok (.ireturn, 1) := by decide +kernel
theorem dX4_readArc_0 : decode cX4_readArc 0 = .ok (.aload_n 0, 1) := by decide +kernel
theorem dX4_readArc_1 : decode cX4_readArc 1 = .ok (.getfield 37, 3) := by decide +kernel
theorem dX4_readArc_4 : decode cX4_readArc 4 = .ok (.istore 4, 2) := by decide +kernel
theorem dX4_readArc_6 : decode cX4_readArc 6 = .ok (.aload_n 0, 1) := by decide +kernel
theorem dX4_readArc_7 : decode cX4_readArc 7 = .ok (.invokevirtual 51, 3) := by decide +kernel
theorem dX4_readArc_10 : decode cX4_readArc 10 = .ok (.iconst 1, 1) := by decide +kernel
theorem dX4_readArc_11 : decode cX4_readArc 11 = .ok (.istore 5, 2) := by decide +kernel
theorem dX4_readArc_13 : decode cX4_readArc 13 = .ok (.aload_n 0, 1) := by decide +kernel
theorem dX4_readArc_14 : decode cX4_readArc 14 = .ok (.getfield 34, 3) := by decide +kernel
theorem dX4_readArc_17 : decode cX4_readArc 17 = .ok (.iconst 3, 1) := by decide +kernel
theorem dX4_readArc_18 : decode cX4_readArc 18 = .ok (.if_icmp .ne 35, 3) := by decide +kernel
theorem dX4_readArc_21 : decode cX4_readArc 21 = .ok (.aload_n 0, 1) := by decide +kernel
theorem dX4_readArc_22 : decode cX4_readArc 22 = .ok (.getfield 43, 3) := by decide +kernel
theorem dX4_readArc_25 : decode cX4_readArc 25 = .ok (.iconst 1, 1) := by decide +kernel
theorem dX4_readArc_26 : decode cX4_readArc 26 = .ok (.if_icmp .lt 11, 3) := by decide +kernel
theorem dX4_readArc_29 : decode cX4_readArc 29 = .ok (.aload_n 0, 1) := by decide +kernel
theorem dX4_readArc_30 : decode cX4_readArc 30 = .ok (.getfield 43, 3) := by decide +kernel
theorem dX4_readArc_33 : decode cX4_readArc 33 = .ok (.iconst 3, 1) := by decide +kernel
theorem dX4_readArc_34 : decode cX4_readArc 34 = .ok (.if_icmp .le 9, 3) := by decide +kernel
theorem dX4_readArc_37 : decode cX4_readArc 37 = .ok (.aload_n 0, 1) := by decide +kernel
theorem dX4_readArc_38 : decode cX4_readArc 38 = .ok (.iconst 4, 1) := by decide +kernel
theorem dX4_readArc_39 : decode cX4_readArc 39 = .ok (.invokevirtual 63, 3) := by decide +kernel
theorem dX4_readArc_42 : decode cX4_readArc 42 = .ok (.ireturn, 1) := by decide +kernel
theorem dX4_readArc_43 : decode cX4_readArc 43 = .ok (.aload_n 0, 1) := by decide +kernel
theorem dX4_readArc_44 : decode cX4_readArc 44 = .ok (.getfield 43, 3) := by decide +kernel
theorem dX4_readArc_47 : decode cX4_readArc 47 = .ok (.istore 5, 2) := by decide +kernel
theorem dX4_readArc_49 : decode cX4_readArc 49 = .ok (.aload_n 0, 1) := by decide +kernel
theorem dX4_readArc_50 : decode cX4_readArc 50 = .ok (.invokevirtual 51, 3) := by decide +kernel
theorem dX4_readArc_53 : decode cX4_readArc 53 = .ok (.aload_n 0, 1) := by decide +kernel
theorem dX4_readArc_54 : decode cX4_readArc 54 = .ok (.invokevirtual 99, 3) := by decide +kernel
theorem dX4_readArc_57 : decode cX4_readArc 57 = .ok (.ifCond .ne 9, 3) := by decide +kernel
theorem dX4_readArc_60 : decode cX4_readArc 60 = .ok (.aload_n 0, 1) := by decide +kernel
theorem dX4_readArc_61 : decode cX4_readArc 61 = .ok (.iconst 2, 1) := by decide +kernel
theorem dX4_readArc_62 : decode cX4_readArc 62 = .ok (.invokevirtual 63, 3) := by decide +kernel
theorem dX4_readArc_65 : decode cX4_readArc 65 = .ok (.ireturn, 1) := by decide +kernel
theorem dX4_readArc_66 : decode cX4_readArc 66 = .ok (.aload_n 0, 1) := by decide +kernel
theorem dX4_readArc_67 : decode cX4_readArc 67 = .ok (.aload_n 0, 1) := by decide +kernel
theorem dX4_readArc_68 : decode cX4_readArc 68 = .ok (.getfield 15, 3) := by decide +kernel
theorem dX4_readArc_71 : decode cX4_readArc 71 = .ok (.aload_n 1, 1) := by decide +kernel
theorem dX4_readArc_72 : decode cX4_readArc 72 = .ok (.getfield 67, 3) := by decide +kernel
theorem dX4_readArc_75 : decode cX4_readArc 75 = .ok (.invokevirtual 102, 3) := by decide +kernel
theorem dX4_readArc_78 : decode cX4_readArc 78 = .ok (.istore 6, 2) := by decide +kernel
theorem dX4_readArc_80 : decode cX4_readArc 80 = .ok (.iload 6, 2) := by decide +kernel
theorem dX4_readArc_82 : decode cX4_readArc 82 = .ok (.iconst (-1), 1) := by decide +kernel
theorem dX4_readArc_83 : decode cX4_readArc 83 = .ok (.if_icmp .ne 9, 3) := by decide +kernel
theorem dX4_readArc_86 : decode cX4_readArc 86 = .ok (.aload_n 0, 1) := by decide +kernel
theorem dX4_readArc_87 : decode cX4_readArc 87 = .ok (.iconst 3, 1) := by decide +kernel
theorem dX4_readArc_88 : decode cX4_readArc 88 = .ok (.invokevirtual 63, 3) := by decide +kernel
theorem dX4_readArc_91 : decode cX4_readArc 91 = .ok (.ireturn, 1) := by decide +kernel
theorem dX4_readArc_92 : decode cX4_readArc 92 = .ok (.iload_n 2, 1) := by decide +kernel
theorem dX4_readArc_93 : decode cX4_readArc 93 = .ok (.bipush 10, 2) := by decide +kernel
theorem dX4_readArc_95 : decode cX4_readArc 95 = .ok (.imul, 1) := by decide +kernel
theorem dX4_readArc_96 : decode cX4_readArc 96 = .ok (.iload 6, 2) := by decide +kernel
theorem dX4_readArc_98 : decode cX4_readArc 98 = .ok (.iadd, 1) := by decide +kernel
theorem dX4_readArc_99 : decode cX4_readArc 99 = .ok (.istore 7, 2) := by decide +kernel
theorem dX4_readArc_101 : decode cX4_readArc 101 = .ok (.aload_n 3, 1) := by decide +kernel
theorem dX4_readArc_102 : decode cX4_readArc 102 = .ok (.iload 7, 2) := by decide +kernel
theorem dX4_readArc_104 : decode cX4_readArc 104 = .ok (.iaload, 1) := by decide +kernel
theorem dX4_readArc_105 : decode cX4_readArc 105 = .ok (.iload 5, 2) := by decide +kernel
theorem dX4_readArc_107 : decode cX4_readArc 107 = .ok (.iadd, 1) := by decide +kernel
theorem dX4_readArc_108 : decode cX4_readArc 108 = .ok (.iconst 3, 1) := by decide +kernel
theorem dX4_readArc_109 : decode cX4_readArc 109 = .ok (.if_icmp .le 11, 3) := by decide +kernel
theorem dX4_readArc_112 : decode cX4_readArc 112 = .ok (.aload_n 0, 1) := by decide +kernel
theorem dX4_readArc_113 : decode cX4_readArc 113 = .ok (.iconst 4, 1) := by decide +kernel
theorem dX4_readArc_114 : decode cX4_readArc 114 = .ok (.iload 4, 2) := by decide +kernel
theorem dX4_readArc_116 : decode cX4_readArc 116 = .ok (.invokevirtual 106, 3) := by decide +kernel
theorem dX4_readArc_119 : decode cX4_readArc 119 = .ok (.ireturn, 1) := by decide +kernel
theorem dX4_readArc_120 : decode cX4_readArc 120 = .ok (.aload_n 3, 1) := by decide +kernel
theorem dX4_readArc_121 : decode cX4_readArc 121 = .ok (.iload 7, 2) := by decide +kernel
theorem dX4_readArc_123 : decode cX4_readArc 123 = .ok (.dup2, 1) := by decide +kernel
theorem dX4_readArc_124 : decode cX4_readArc 124 = .ok (.iaload, 1) := by decide +kernel
theorem dX4_readArc_125 : decode cX4_readArc 125 = .ok (.iload 5, 2) := by decide +kernel
theorem dX4_readArc_127 : decode cX4_readArc 127 = .ok (.iadd, 1) := by decide +kernel
theorem dX4_readArc_128 : decode cX4_readArc 128 = .ok (.iastore, 1) := by decide +kernel
theorem dX4_readArc_129 : decode cX4_readArc 129 = .ok (.aload_n 0, 1) := by decide +kernel
theorem dX4_readArc_130 : decode cX4_readArc 130 = .ok (.invokevirtual 51, 3) := by decide +kernel
theorem dX4_readArc_133 : decode cX4_readArc 133 = .ok (.iconst 1, 1) := by decide +kernel
theorem dX4_readArc_134 : decode cX4_readArc 134 = .ok (.ireturn, 1) := by decide +kernel
theorem dX4_readNewName_0 : decode cX4_readNewName 0 = .ok (.aload_n 0, 1) := by decide +kernel
theorem dX4_readNewName_1 : decode cX4_readNewName 1 = .ok (.invokevirtual 99, 3) := by decide +kernel
theorem dX4_readNewName_4 : decode cX4_readNewName 4 = .ok (.ifCond .ne 9, 3) := by decide +kernel
theorem dX4_readNewName_7 : decode cX4_readNewName 7 = .ok (.aload_n 0, 1) := by decide +kernel
theorem dX4_readNewName_8 : decode cX4_readNewName 8 = .ok (.iconst 2, 1) := by decide +kernel
theorem dX4_readNewName_9 : decode cX4_readNewName 9 = .ok (.invokevirtual 63, 3) := by decide +kernel
theorem dX4_readNewName_12 : decode cX4_readNewName 12 = .ok (.ireturn, 1) := by decide +kernel
theorem dX4_readNewName_13 : decode cX4_readNewName 13 = .ok (.aload_n 0, 1) := by decide +kernel
theorem dX4_readNewName_14 : decode cX4_readNewName 14 = .ok (.aload_n 0, 1) := by decide +kernel
theorem dX4_readNewName_15 : decode cX4_readNewName 15 = .ok (.getfield 15, 3) := by decide +kernel
theorem dX4_readNewName_18 : decode cX4_readNewName 18 = .ok (.aload_n 1, 1) := by decide +kernel
theorem dX4_readNewName_19 : decode cX4_readNewName 19 = .ok (.getfield 67, 3) := by decide +kernel
theorem dX4_readNewName_22 : decode cX4_readNewName 22 = .ok (.invokevirtual 102, 3) := by decide +kernel
theorem dX4_readNewName_25 : decode cX4_readNewName 25 = .ok (.iconst (-1), 1) := by decide +kernel
theorem dX4_readNewName_26 : decode cX4_readNewName 26 = .ok (.if_icmp .ne 19, 3) := by decide +kernel
theorem dX4_readNewName_29 : decode cX4_readNewName 29 = .ok (.aload_n 0, 1) := by decide +kernel
theorem dX4_readNewName_30 : decode cX4_readNewName 30 = .ok (.aload_n 0, 1) := by decide +kernel
theorem dX4_readNewName_31 : decode cX4_readNewName 31 = .ok (.getfield 18, 3) := by decide +kernel
theorem dX4_readNewName_34 : decode cX4_readNewName 34 = .ok (.aload_n 1, 1) := by decide +kernel
theorem dX4_readNewName_35 : decode cX4_readNewName 35 = .ok (.getfield 81, 3) := by decide +kernel
theorem dX4_readNewName_38 : decode cX4_readNewName 38 = .ok (.invokevirtual 102, 3) := by decide +kernel
theorem dX4_readNewName_41 : decode cX4_readNewName 41 = .ok (.iconst (-1), 1) := by decide +kernel
theorem dX4_readNewName_42 : decode cX4_readNewName 42 = .ok (.if_icmp .eq 7, 3) := by decide +kernel
theorem dX4_readNewName_45 : decode cX4_readNewName 45 = .ok (.iconst 1, 1) := by decide +kernel
theorem dX4_readNewName_46 : decode cX4_readNewName 46 = .ok (.goto 4, 3) := by decide +kernel
theorem dX4_readNewName_49 : decode cX4_readNewName 49 = .ok (.iconst 0, 1) := by decide +kernel
theorem dX4_readNewName_50 : decode cX4_readNewName 50 = .ok (.istore_n 2, 1) := by decide +kernel
theorem dX4_readNewName_51 : decode cX4_readNewName 51 = .ok (.iload_n 2, 1) := by decide +kernel
theorem dX4_readNewName_52 : decode cX4_readNewName 52 = .ok (.ifCond .eq 11, 3) := by decide +kernel
theorem dX4_readNewName_55 : decode cX4_readNewName 55 = .ok (.aload_n 0, 1) := by decide +kernel
theorem dX4_readNewName_56 : decode cX4_readNewName 56 = .ok (.iconst 3, 1) := by decide +kernel
theorem dX4_readNewName_57 : decode cX4_readNewName 57 = .ok (.invokevirtual 63, 3) := by decide +kernel
theorem dX4_readNewName_60 : decode cX4_readNewName 60 = .ok (.goto 4, 3) := by decide +kernel
theorem dX4_readNewName_63 : decode cX4_readNewName 63 = .ok (.iconst 1, 1) := by decide +kernel
theorem dX4_readNewName_64 : decode cX4_readNewName 64 = .ok (.ireturn, 1) := by decide +kernel
theorem dX4_readClose_0 : decode cX4_readClose 0 = .ok (.aload_n 0, 1) := by decide +kernel
theorem dX4_readClose_1 : decode cX4_readClose 1 = .ok (.getfield 34, 3) := by decide +kernel
theorem dX4_readClose_4 : decode cX4_readClose 4 = .ok (.iconst 4, 1) := by decide +kernel
theorem dX4_readClose_5 : decode cX4_readClose 5 = .ok (.if_icmp .eq 9, 3) := by decide +kernel
theorem dX4_readClose_8 : decode cX4_readClose 8 = .ok (.aload_n 0, 1) := by decide +kernel
theorem dX4_readClose_9 : decode cX4_readClose 9 = .ok (.iconst 2, 1) := by decide +kernel
theorem dX4_readClose_10 : decode cX4_readClose 10 = .ok (.invokevirtual 63, 3) := by decide +kernel
theorem dX4_readClose_13 : decode cX4_readClose 13 = .ok (.ireturn, 1) := by decide +kernel
theorem dX4_readClose_14 : decode cX4_readClose 14 = .ok (.aload_n 0, 1) := by decide +kernel
theorem dX4_readClose_15 : decode cX4_readClose 15 = .ok (.invokevirtual 51, 3) := by decide +kernel
theorem dX4_readClose_18 : decode cX4_readClose 18 = .ok (.iconst 1, 1) := by decide +kernel
theorem dX4_readClose_19 : decode cX4_readClose 19 = .ok (.ireturn, 1) := by decide +kernel
theorem dX4_isName_0 : decode cX4_isName 0 = .ok (.aload_n 0, 1) := by decide +kernel
theorem dX4_isName_1 : decode cX4_isName 1 = .ok (.getfield 34, 3) := by decide +kernel
theorem dX4_isName_4 : decode cX4_isName 4 = .ok (.iconst 2, 1) := by decide +kernel
theorem dX4_isName_5 : decode cX4_isName 5 = .ok (.if_icmp .ne 43, 3) := by decide +kernel
theorem dX4_isName_8 : decode cX4_isName 8 = .ok (.aload_n 0, 1) := by decide +kernel
theorem dX4_isName_9 : decode cX4_isName 9 = .ok (.getfield 40, 3) := by decide +kernel
theorem dX4_isName_12 : decode cX4_isName 12 = .ok (.ldc 54, 2) := by decide +kernel
theorem dX4_isName_14 : decode cX4_isName 14 = .ok (.if_icmp .eq 34, 3) := by decide +kernel
theorem dX4_isName_17 : decode cX4_isName 17 = .ok (.aload_n 0, 1) := by decide +kernel
theorem dX4_isName_18 : decode cX4_isName 18 = .ok (.getfield 40, 3) := by decide +kernel
theorem dX4_isName_21 : decode cX4_isName 21 = .ok (.ldc 59, 2) := by decide +kernel
theorem dX4_isName_23 : decode cX4_isName 23 = .ok (.if_icmp .eq 25, 3) := by decide +kernel
theorem dX4_isName_26 : decode cX4_isName 26 = .ok (.aload_n 0, 1) := by decide +kernel
theorem dX4_isName_27 : decode cX4_isName 27 = .ok (.getfield 40, 3) := by decide +kernel
theorem dX4_isName_30 : decode cX4_isName 30 = .ok (.ldc 87, 2) := by decide +kernel
theorem dX4_isName_32 : decode cX4_isName 32 = .ok (.if_icmp .eq 16, 3) := by decide +kernel
theorem dX4_isName_35 : decode cX4_isName 35 = .ok (.aload_n 0, 1) := by decide +kernel
theorem dX4_isName_36 : decode cX4_isName 36 = .ok (.getfield 40, 3) := by decide +kernel
theorem dX4_isName_39 : decode cX4_isName 39 = .ok (.ldc 88, 2) := by decide +kernel
theorem dX4_isName_41 : decode cX4_isName 41 = .ok (.if_icmp .eq 7, 3) := by decide +kernel
theorem dX4_isName_44 : decode cX4_isName 44 = .ok (.iconst 1, 1) := by decide +kernel
theorem dX4_isName_45 : decode cX4_isName 45 = .ok (.goto 4, 3) := by decide +kernel
theorem dX4_isName_48 : decode cX4_isName 48 = .ok (.iconst 0, 1) := by decide +kernel
theorem dX4_isName_49 : decode cX4_isName 49 = .ok (.ireturn, 1) := by decide +kernel
theorem dX4_indexOf_0 : decode cX4_indexOf 0 = .ok (.iconst 0, 1) := by decide +kernel
theorem dX4_indexOf_1 : decode cX4_indexOf 1 = .ok (.istore_n 3, 1) := by decide +kernel
theorem dX4_indexOf_2 : decode cX4_indexOf 2 = .ok (.iload_n 3, 1) := by decide +kernel
theorem dX4_indexOf_3 : decode cX4_indexOf 3 = .ok (.iload_n 2, 1) := by decide +kernel
theorem dX4_indexOf_4 : decode cX4_indexOf 4 = .ok (.if_icmp .ge 27, 3) := by decide +kernel
theorem dX4_indexOf_7 : decode cX4_indexOf 7 = .ok (.iload_n 3, 1) := by decide +kernel
theorem dX4_indexOf_8 : decode cX4_indexOf 8 = .ok (.aload_n 1, 1) := by decide +kernel
theorem dX4_indexOf_9 : decode cX4_indexOf 9 = .ok (.arraylength, 1) := by decide +kernel
theorem dX4_indexOf_10 : decode cX4_indexOf 10 = .ok (.if_icmp .ge 21, 3) := by decide +kernel
theorem dX4_indexOf_13 : decode cX4_indexOf 13 = .ok (.aload_n 1, 1) := by decide +kernel
theorem dX4_indexOf_14 : decode cX4_indexOf 14 = .ok (.iload_n 3, 1) := by decide +kernel
theorem dX4_indexOf_15 : decode cX4_indexOf 15 = .ok (.iaload, 1) := by decide +kernel
theorem dX4_indexOf_16 : decode cX4_indexOf 16 = .ok (.aload_n 0, 1) := by decide +kernel
theorem dX4_indexOf_17 : decode cX4_indexOf 17 = .ok (.getfield 40, 3) := by decide +kernel
theorem dX4_indexOf_20 : decode cX4_indexOf 20 = .ok (.if_icmp .ne 5, 3) := by decide +kernel
theorem dX4_indexOf_23 : decode cX4_indexOf 23 = .ok (.iload_n 3, 1) := by decide +kernel
theorem dX4_indexOf_24 : decode cX4_indexOf 24 = .ok (.ireturn, 1) := by decide +kernel
theorem dX4_indexOf_25 : decode cX4_indexOf 25 = .ok (.iinc 3 1, 3) := by decide +kernel
theorem dX4_indexOf_28 : decode cX4_indexOf 28 = .ok (.goto (-26), 3) := by decide +kernel
theorem dX4_indexOf_31 : decode cX4_indexOf 31 = .ok (.iconst (-1), 1) := by decide +kernel
theorem dX4_indexOf_32 : decode cX4_indexOf 32 = .ok (.ireturn, 1) := by decide +kernel
theorem dX4_refuse_0 : decode cX4_refuse 0 = .ok (.aload_n 0, 1) := by decide +kernel
theorem dX4_refuse_1 : decode cX4_refuse 1 = .ok (.aload_n 0, 1) := by decide +kernel
theorem dX4_refuse_2 : decode cX4_refuse 2 = .ok (.getfield 34, 3) := by decide +kernel
theorem dX4_refuse_5 : decode cX4_refuse 5 = .ok (.ifCond .ne 7, 3) := by decide +kernel
theorem dX4_refuse_8 : decode cX4_refuse 8 = .ok (.iconst 1, 1) := by decide +kernel
theorem dX4_refuse_9 : decode cX4_refuse 9 = .ok (.goto 4, 3) := by decide +kernel
theorem dX4_refuse_12 : decode cX4_refuse 12 = .ok (.iload_n 1, 1) := by decide +kernel
theorem dX4_refuse_13 : decode cX4_refuse 13 = .ok (.aload_n 0, 1) := by decide +kernel
theorem dX4_refuse_14 : decode cX4_refuse 14 = .ok (.getfield 37, 3) := by decide +kernel
theorem dX4_refuse_17 : decode cX4_refuse 17 = .ok (.invokevirtual 106, 3) := by decide +kernel
theorem dX4_refuse_20 : decode cX4_refuse 20 = .ok (.ireturn, 1) := by decide +kernel
theorem dX4_refuseAt_0 : decode cX4_refuseAt 0 = .ok (.aload_n 0, 1) := by decide +kernel
theorem dX4_refuseAt_1 : decode cX4_refuseAt 1 = .ok (.iload_n 1, 1) := by decide +kernel
theorem dX4_refuseAt_2 : decode cX4_refuseAt 2 = .ok (.putfield 25, 3) := by decide +kernel
theorem dX4_refuseAt_5 : decode cX4_refuseAt 5 = .ok (.aload_n 0, 1) := by decide +kernel
theorem dX4_refuseAt_6 : decode cX4_refuseAt 6 = .ok (.iload_n 2, 1) := by decide +kernel
theorem dX4_refuseAt_7 : decode cX4_refuseAt 7 = .ok (.putfield 28, 3) := by decide +kernel
theorem dX4_refuseAt_10 : decode cX4_refuseAt 10 = .ok (.iconst 0, 1) := by decide +kernel
theorem dX4_refuseAt_11 : decode cX4_refuseAt 11 = .ok (.ireturn, 1) := by decide +kernel
theorem dX4_advance_0 : decode cX4_advance 0 = .ok (.aload_n 0, 1) := by decide +kernel
theorem dX4_advance_1 : decode cX4_advance 1 = .ok (.getfield 31, 3) := by decide +kernel
theorem dX4_advance_4 : decode cX4_advance 4 = .ok (.istore_n 1, 1) := by decide +kernel
theorem dX4_advance_5 : decode cX4_advance 5 = .ok (.iload_n 1, 1) := by decide +kernel
theorem dX4_advance_6 : decode cX4_advance 6 = .ok (.aload_n 0, 1) := by decide +kernel
theorem dX4_advance_7 : decode cX4_advance 7 = .ok (.getfield 21, 3) := by decide +kernel
theorem dX4_advance_10 : decode cX4_advance 10 = .ok (.if_icmp .ge 24, 3) := by decide +kernel
theorem dX4_advance_13 : decode cX4_advance 13 = .ok (.aload_n 0, 1) := by decide +kernel
theorem dX4_advance_14 : decode cX4_advance 14 = .ok (.iload_n 1, 1) := by decide +kernel
theorem dX4_advance_15 : decode cX4_advance 15 = .ok (.invokevirtual 110, 3) := by decide +kernel
theorem dX4_advance_18 : decode cX4_advance 18 = .ok (.ifCond .eq 16, 3) := by decide +kernel
theorem dX4_advance_21 : decode cX4_advance 21 = .ok (.aload_n 0, 1) := by decide +kernel
theorem dX4_advance_22 : decode cX4_advance 22 = .ok (.iload_n 1, 1) := by decide +kernel
theorem dX4_advance_23 : decode cX4_advance 23 = .ok (.iconst 1, 1) := by decide +kernel
theorem dX4_advance_24 : decode cX4_advance 24 = .ok (.iadd, 1) := by decide +kernel
theorem dX4_advance_25 : decode cX4_advance 25 = .ok (.putfield 31, 3) := by decide +kernel
theorem dX4_advance_28 : decode cX4_advance 28 = .ok (.iinc 1 1, 3) := by decide +kernel
theorem dX4_advance_31 : decode cX4_advance 31 = .ok (.goto (-26), 3) := by decide +kernel
theorem dX4_advance_34 : decode cX4_advance 34 = .ok (.aload_n 0, 1) := by decide +kernel
theorem dX4_advance_35 : decode cX4_advance 35 = .ok (.aload_n 0, 1) := by decide +kernel
theorem dX4_advance_36 : decode cX4_advance 36 = .ok (.getfield 31, 3) := by decide +kernel
theorem dX4_advance_39 : decode cX4_advance 39 = .ok (.putfield 37, 3) := by decide +kernel
theorem dX4_advance_42 : decode cX4_advance 42 = .ok (.aload_n 0, 1) := by decide +kernel
theorem dX4_advance_43 : decode cX4_advance 43 = .ok (.getfield 31, 3) := by decide +kernel
theorem dX4_advance_46 : decode cX4_advance 46 = .ok (.aload_n 0, 1) := by decide +kernel
theorem dX4_advance_47 : decode cX4_advance 47 = .ok (.getfield 21, 3) := by decide +kernel
theorem dX4_advance_50 : decode cX4_advance 50 = .ok (.if_icmp .lt 11, 3) := by decide +kernel
theorem dX4_advance_53 : decode cX4_advance 53 = .ok (.aload_n 0, 1) := by decide +kernel
theorem dX4_advance_54 : decode cX4_advance 54 = .ok (.iconst 1, 1) := by decide +kernel
theorem dX4_advance_55 : decode cX4_advance 55 = .ok (.putfield 34, 3) := by decide +kernel
theorem dX4_advance_58 : decode cX4_advance 58 = .ok (.goto 72, 3) := by decide +kernel
theorem dX4_advance_61 : decode cX4_advance 61 = .ok (.aload_n 0, 1) := by decide +kernel
theorem dX4_advance_62 : decode cX4_advance 62 = .ok (.aload_n 0, 1) := by decide +kernel
theorem dX4_advance_63 : decode cX4_advance 63 = .ok (.getfield 31, 3) := by decide +kernel
theorem dX4_advance_66 : decode cX4_advance 66 = .ok (.invokevirtual 113, 3) := by decide +kernel
theorem dX4_advance_69 : decode cX4_advance 69 = .ok (.ifCond .eq 10, 3) := by decide +kernel
theorem dX4_advance_72 : decode cX4_advance 72 = .ok (.aload_n 0, 1) := by decide +kernel
theorem dX4_advance_73 : decode cX4_advance 73 = .ok (.invokevirtual 116, 3) := by decide +kernel
theorem dX4_advance_76 : decode cX4_advance 76 = .ok (.goto 54, 3) := by decide +kernel
theorem dX4_advance_79 : decode cX4_advance 79 = .ok (.aload_n 0, 1) := by decide +kernel
theorem dX4_advance_80 : decode cX4_advance 80 = .ok (.aload_n 0, 1) := by decide +kernel
theorem dX4_advance_81 : decode cX4_advance 81 = .ok (.getfield 31, 3) := by decide +kernel
theorem dX4_advance_84 : decode cX4_advance 84 = .ok (.invokevirtual 119, 3) := by decide +kernel
theorem dX4_advance_87 : decode cX4_advance 87 = .ok (.ifCond .eq 10, 3) := by decide +kernel
theorem dX4_advance_90 : decode cX4_advance 90 = .ok (.aload_n 0, 1) := by decide +kernel
theorem dX4_advance_91 : decode cX4_advance 91 = .ok (.invokevirtual 122, 3) := by decide +kernel
theorem dX4_advance_94 : decode cX4_advance 94 = .ok (.goto 36, 3) := by decide +kernel
theorem dX4_advance_97 : decode cX4_advance 97 = .ok (.aload_n 0, 1) := by decide +kernel
theorem dX4_advance_98 : decode cX4_advance 98 = .ok (.aload_n 0, 1) := by decide +kernel
theorem dX4_advance_99 : decode cX4_advance 99 = .ok (.getfield 9, 3) := by decide +kernel
theorem dX4_advance_102 : decode cX4_advance 102 = .ok (.aload_n 0, 1) := by decide +kernel
theorem dX4_advance_103 : decode cX4_advance 103 = .ok (.getfield 31, 3) := by decide +kernel
theorem dX4_advance_106 : decode cX4_advance 106 = .ok (.iaload, 1) := by decide +kernel
theorem dX4_advance_107 : decode cX4_advance 107 = .ok (.bipush 59, 2) := by decide +kernel
theorem dX4_advance_109 : decode cX4_advance 109 = .ok (.if_icmp .ne 7, 3) := by decide +kernel
theorem dX4_advance_112 : decode cX4_advance 112 = .ok (.iconst 4, 1) := by decide +kernel
theorem dX4_advance_113 : decode cX4_advance 113 = .ok (.goto 4, 3) := by decide +kernel
theorem dX4_advance_116 : decode cX4_advance 116 = .ok (.iconst 0, 1) := by decide +kernel
theorem dX4_advance_117 : decode cX4_advance 117 = .ok (.putfield 34, 3) := by decide +kernel
theorem dX4_advance_120 : decode cX4_advance 120 = .ok (.aload_n 0, 1) := by decide +kernel
theorem dX4_advance_121 : decode cX4_advance 121 = .ok (.dup, 1) := by decide +kernel
theorem dX4_advance_122 : decode cX4_advance 122 = .ok (.getfield 31, 3) := by decide +kernel
theorem dX4_advance_125 : decode cX4_advance 125 = .ok (.iconst 1, 1) := by decide +kernel
theorem dX4_advance_126 : decode cX4_advance 126 = .ok (.iadd, 1) := by decide +kernel
theorem dX4_advance_127 : decode cX4_advance 127 = .ok (.putfield 31, 3) := by decide +kernel
theorem dX4_advance_130 : decode cX4_advance 130 = .ok (.return_, 1) := by decide +kernel
theorem dX4_readWord_0 : decode cX4_readWord 0 = .ok (.aload_n 0, 1) := by decide +kernel
theorem dX4_readWord_1 : decode cX4_readWord 1 = .ok (.iconst 0, 1) := by decide +kernel
theorem dX4_readWord_2 : decode cX4_readWord 2 = .ok (.putfield 40, 3) := by decide +kernel
theorem dX4_readWord_5 : decode cX4_readWord 5 = .ok (.aload_n 0, 1) := by decide +kernel
theorem dX4_readWord_6 : decode cX4_readWord 6 = .ok (.getfield 37, 3) := by decide +kernel
theorem dX4_readWord_9 : decode cX4_readWord 9 = .ok (.istore_n 1, 1) := by decide +kernel
theorem dX4_readWord_10 : decode cX4_readWord 10 = .ok (.iload_n 1, 1) := by decide +kernel
theorem dX4_readWord_11 : decode cX4_readWord 11 = .ok (.aload_n 0, 1) := by decide +kernel
theorem dX4_readWord_12 : decode cX4_readWord 12 = .ok (.getfield 21, 3) := by decide +kernel
theorem dX4_readWord_15 : decode cX4_readWord 15 = .ok (.if_icmp .ge 47, 3) := by decide +kernel
theorem dX4_readWord_18 : decode cX4_readWord 18 = .ok (.aload_n 0, 1) := by decide +kernel
theorem dX4_readWord_19 : decode cX4_readWord 19 = .ok (.iload_n 1, 1) := by decide +kernel
theorem dX4_readWord_20 : decode cX4_readWord 20 = .ok (.invokevirtual 113, 3) := by decide +kernel
theorem dX4_readWord_23 : decode cX4_readWord 23 = .ok (.ifCond .eq 39, 3) := by decide +kernel
theorem dX4_readWord_26 : decode cX4_readWord 26 = .ok (.aload_n 0, 1) := by decide +kernel
theorem dX4_readWord_27 : decode cX4_readWord 27 = .ok (.aload_n 0, 1) := by decide +kernel
theorem dX4_readWord_28 : decode cX4_readWord 28 = .ok (.getfield 40, 3) := by decide +kernel
theorem dX4_readWord_31 : decode cX4_readWord 31 = .ok (.bipush 27, 2) := by decide +kernel
theorem dX4_readWord_33 : decode cX4_readWord 33 = .ok (.imul, 1) := by decide +kernel
theorem dX4_readWord_34 : decode cX4_readWord 34 = .ok (.aload_n 0, 1) := by decide +kernel
theorem dX4_readWord_35 : decode cX4_readWord 35 = .ok (.getfield 9, 3) := by decide +kernel
theorem dX4_readWord_38 : decode cX4_readWord 38 = .ok (.iload_n 1, 1) := by decide +kernel
theorem dX4_readWord_39 : decode cX4_readWord 39 = .ok (.iaload, 1) := by decide +kernel
theorem dX4_readWord_40 : decode cX4_readWord 40 = .ok (.bipush 97, 2) := by decide +kernel
theorem dX4_readWord_42 : decode cX4_readWord 42 = .ok (.isub, 1) := by decide +kernel
theorem dX4_readWord_43 : decode cX4_readWord 43 = .ok (.iconst 1, 1) := by decide +kernel
theorem dX4_readWord_44 : decode cX4_readWord 44 = .ok (.iadd, 1) := by decide +kernel
theorem dX4_readWord_45 : decode cX4_readWord 45 = .ok (.iadd, 1) := by decide +kernel
theorem dX4_readWord_46 : decode cX4_readWord 46 = .ok (.putfield 40, 3) := by decide +kernel
theorem dX4_readWord_49 : decode cX4_readWord 49 = .ok (.aload_n 0, 1) := by decide +kernel
theorem dX4_readWord_50 : decode cX4_readWord 50 = .ok (.iload_n 1, 1) := by decide +kernel
theorem dX4_readWord_51 : decode cX4_readWord 51 = .ok (.iconst 1, 1) := by decide +kernel
theorem dX4_readWord_52 : decode cX4_readWord 52 = .ok (.iadd, 1) := by decide +kernel
theorem dX4_readWord_53 : decode cX4_readWord 53 = .ok (.putfield 31, 3) := by decide +kernel
theorem dX4_readWord_56 : decode cX4_readWord 56 = .ok (.iinc 1 1, 3) := by decide +kernel
theorem dX4_readWord_59 : decode cX4_readWord 59 = .ok (.goto (-49), 3) := by decide +kernel
theorem dX4_readWord_62 : decode cX4_readWord 62 = .ok (.aload_n 0, 1) := by decide +kernel
theorem dX4_readWord_63 : decode cX4_readWord 63 = .ok (.aload_n 0, 1) := by decide +kernel
theorem dX4_readWord_64 : decode cX4_readWord 64 = .ok (.getfield 31, 3) := by decide +kernel
theorem dX4_readWord_67 : decode cX4_readWord 67 = .ok (.aload_n 0, 1) := by decide +kernel
theorem dX4_readWord_68 : decode cX4_readWord 68 = .ok (.getfield 37, 3) := by decide +kernel
theorem dX4_readWord_71 : decode cX4_readWord 71 = .ok (.isub, 1) := by decide +kernel
theorem dX4_readWord_72 : decode cX4_readWord 72 = .ok (.bipush 6, 2) := by decide +kernel
theorem dX4_readWord_74 : decode cX4_readWord 74 = .ok (.if_icmp .gt 7, 3) := by decide +kernel
theorem dX4_readWord_77 : decode cX4_readWord 77 = .ok (.iconst 2, 1) := by decide +kernel
theorem dX4_readWord_78 : decode cX4_readWord 78 = .ok (.goto 4, 3) := by decide +kernel
theorem dX4_readWord_81 : decode cX4_readWord 81 = .ok (.iconst 0, 1) := by decide +kernel
theorem dX4_readWord_82 : decode cX4_readWord 82 = .ok (.putfield 34, 3) := by decide +kernel
theorem dX4_readWord_85 : decode cX4_readWord 85 = .ok (.return_, 1) := by decide +kernel
theorem dX4_readNumber_0 : decode cX4_readNumber 0 = .ok (.aload_n 0, 1) := by decide +kernel
theorem dX4_readNumber_1 : decode cX4_readNumber 1 = .ok (.iconst 0, 1) := by decide +kernel
theorem dX4_readNumber_2 : decode cX4_readNumber 2 = .ok (.putfield 43, 3) := by decide +kernel
theorem dX4_readNumber_5 : decode cX4_readNumber 5 = .ok (.aload_n 0, 1) := by decide +kernel
theorem dX4_readNumber_6 : decode cX4_readNumber 6 = .ok (.getfield 37, 3) := by decide +kernel
theorem dX4_readNumber_9 : decode cX4_readNumber 9 = .ok (.istore_n 1, 1) := by decide +kernel
theorem dX4_readNumber_10 : decode cX4_readNumber 10 = .ok (.iload_n 1, 1) := by decide +kernel
theorem dX4_readNumber_11 : decode cX4_readNumber 11 = .ok (.aload_n 0, 1) := by decide +kernel
theorem dX4_readNumber_12 : decode cX4_readNumber 12 = .ok (.getfield 21, 3) := by decide +kernel
theorem dX4_readNumber_15 : decode cX4_readNumber 15 = .ok (.if_icmp .ge 45, 3) := by decide +kernel
theorem dX4_readNumber_18 : decode cX4_readNumber 18 = .ok (.aload_n 0, 1) := by decide +kernel
theorem dX4_readNumber_19 : decode cX4_readNumber 19 = .ok (.iload_n 1, 1) := by decide +kernel
theorem dX4_readNumber_20 : decode cX4_readNumber 20 = .ok (.invokevirtual 119, 3) := by decide +kernel
theorem dX4_readNumber_23 : decode cX4_readNumber 23 = .ok (.ifCond .eq 37, 3) := by decide +kernel
theorem dX4_readNumber_26 : decode cX4_readNumber 26 = .ok (.aload_n 0, 1) := by decide +kernel
theorem dX4_readNumber_27 : decode cX4_readNumber 27 = .ok (.aload_n 0, 1) := by decide +kernel
theorem dX4_readNumber_28 : decode cX4_readNumber 28 = .ok (.getfield 43, 3) := by decide +kernel
theorem dX4_readNumber_31 : decode cX4_readNumber 31 = .ok (.bipush 10, 2) := by decide +kernel
theorem dX4_readNumber_33 : decode cX4_readNumber 33 = .ok (.imul, 1) := by decide +kernel
theorem dX4_readNumber_34 : decode cX4_readNumber 34 = .ok (.aload_n 0, 1) := by decide +kernel
theorem dX4_readNumber_35 : decode cX4_readNumber 35 = .ok (.getfield 9, 3) := by decide +kernel
theorem dX4_readNumber_38 : decode cX4_readNumber 38 = .ok (.iload_n 1, 1) := by decide +kernel
theorem dX4_readNumber_39 : decode cX4_readNumber 39 = .ok (.iaload, 1) := by decide +kernel
theorem dX4_readNumber_40 : decode cX4_readNumber 40 = .ok (.bipush 48, 2) := by decide +kernel
theorem dX4_readNumber_42 : decode cX4_readNumber 42 = .ok (.isub, 1) := by decide +kernel
theorem dX4_readNumber_43 : decode cX4_readNumber 43 = .ok (.iadd, 1) := by decide +kernel
theorem dX4_readNumber_44 : decode cX4_readNumber 44 = .ok (.putfield 43, 3) := by decide +kernel
theorem dX4_readNumber_47 : decode cX4_readNumber 47 = .ok (.aload_n 0, 1) := by decide +kernel
theorem dX4_readNumber_48 : decode cX4_readNumber 48 = .ok (.iload_n 1, 1) := by decide +kernel
theorem dX4_readNumber_49 : decode cX4_readNumber 49 = .ok (.iconst 1, 1) := by decide +kernel
theorem dX4_readNumber_50 : decode cX4_readNumber 50 = .ok (.iadd, 1) := by decide +kernel
theorem dX4_readNumber_51 : decode cX4_readNumber 51 = .ok (.putfield 31, 3) := by decide +kernel
theorem dX4_readNumber_54 : decode cX4_readNumber 54 = .ok (.iinc 1 1, 3) := by decide +kernel
theorem dX4_readNumber_57 : decode cX4_readNumber 57 = .ok (.goto (-47), 3) := by decide +kernel
theorem dX4_readNumber_60 : decode cX4_readNumber 60 = .ok (.aload_n 0, 1) := by decide +kernel
theorem dX4_readNumber_61 : decode cX4_readNumber 61 = .ok (.getfield 31, 3) := by decide +kernel
theorem dX4_readNumber_64 : decode cX4_readNumber 64 = .ok (.aload_n 0, 1) := by decide +kernel
theorem dX4_readNumber_65 : decode cX4_readNumber 65 = .ok (.getfield 21, 3) := by decide +kernel
theorem dX4_readNumber_68 : decode cX4_readNumber 68 = .ok (.if_icmp .ge 18, 3) := by decide +kernel
theorem dX4_readNumber_71 : decode cX4_readNumber 71 = .ok (.aload_n 0, 1) := by decide +kernel
theorem dX4_readNumber_72 : decode cX4_readNumber 72 = .ok (.aload_n 0, 1) := by decide +kernel
theorem dX4_readNumber_73 : decode cX4_readNumber 73 = .ok (.getfield 31, 3) := by decide +kernel
theorem dX4_readNumber_76 : decode cX4_readNumber 76 = .ok (.invokevirtual 113, 3) := by decide +kernel
theorem dX4_readNumber_79 : decode cX4_readNumber 79 = .ok (.ifCond .eq 7, 3) := by decide +kernel
theorem dX4_readNumber_82 : decode cX4_readNumber 82 = .ok (.iconst 1, 1) := by decide +kernel
theorem dX4_readNumber_83 : decode cX4_readNumber 83 = .ok (.goto 4, 3) := by decide +kernel
theorem dX4_readNumber_86 : decode cX4_readNumber 86 = .ok (.iconst 0, 1) := by decide +kernel
theorem dX4_readNumber_87 : decode cX4_readNumber 87 = .ok (.istore_n 1, 1) := by decide +kernel
theorem dX4_readNumber_88 : decode cX4_readNumber 88 = .ok (.aload_n 0, 1) := by decide +kernel
theorem dX4_readNumber_89 : decode cX4_readNumber 89 = .ok (.aload_n 0, 1) := by decide +kernel
theorem dX4_readNumber_90 : decode cX4_readNumber 90 = .ok (.getfield 31, 3) := by decide +kernel
theorem dX4_readNumber_93 : decode cX4_readNumber 93 = .ok (.aload_n 0, 1) := by decide +kernel
theorem dX4_readNumber_94 : decode cX4_readNumber 94 = .ok (.getfield 37, 3) := by decide +kernel
theorem dX4_readNumber_97 : decode cX4_readNumber 97 = .ok (.isub, 1) := by decide +kernel
theorem dX4_readNumber_98 : decode cX4_readNumber 98 = .ok (.iconst 3, 1) := by decide +kernel
theorem dX4_readNumber_99 : decode cX4_readNumber 99 = .ok (.if_icmp .gt 11, 3) := by decide +kernel
theorem dX4_readNumber_102 : decode cX4_readNumber 102 = .ok (.iload_n 1, 1) := by decide +kernel
theorem dX4_readNumber_103 : decode cX4_readNumber 103 = .ok (.ifCond .ne 7, 3) := by decide +kernel
theorem dX4_readNumber_106 : decode cX4_readNumber 106 = .ok (.iconst 3, 1) := by decide +kernel
theorem dX4_readNumber_107 : decode cX4_readNumber 107 = .ok (.goto 4, 3) := by decide +kernel
theorem dX4_readNumber_110 : decode cX4_readNumber 110 = .ok (.iconst 0, 1) := by decide +kernel
theorem dX4_readNumber_111 : decode cX4_readNumber 111 = .ok (.putfield 34, 3) := by decide +kernel
theorem dX4_readNumber_114 : decode cX4_readNumber 114 = .ok (.return_, 1) := by decide +kernel
theorem dX4_isBlank_0 : decode cX4_isBlank 0 = .ok (.aload_n 0, 1) := by decide +kernel
theorem dX4_isBlank_1 : decode cX4_isBlank 1 = .ok (.getfield 9, 3) := by decide +kernel
theorem dX4_isBlank_4 : decode cX4_isBlank 4 = .ok (.iload_n 1, 1) := by decide +kernel
theorem dX4_isBlank_5 : decode cX4_isBlank 5 = .ok (.iaload, 1) := by decide +kernel
theorem dX4_isBlank_6 : decode cX4_isBlank 6 = .ok (.bipush 32, 2) := by decide +kernel
theorem dX4_isBlank_8 : decode cX4_isBlank 8 = .ok (.if_icmp .eq 14, 3) := by decide +kernel
theorem dX4_isBlank_11 : decode cX4_isBlank 11 = .ok (.aload_n 0, 1) := by decide +kernel
theorem dX4_isBlank_12 : decode cX4_isBlank 12 = .ok (.getfield 9, 3) := by decide +kernel
theorem dX4_isBlank_15 : decode cX4_isBlank 15 = .ok (.iload_n 1, 1) := by decide +kernel
theorem dX4_isBlank_16 : decode cX4_isBlank 16 = .ok (.iaload, 1) := by decide +kernel
theorem dX4_isBlank_17 : decode cX4_isBlank 17 = .ok (.bipush 10, 2) := by decide +kernel
theorem dX4_isBlank_19 : decode cX4_isBlank 19 = .ok (.if_icmp .ne 7, 3) := by decide +kernel
theorem dX4_isBlank_22 : decode cX4_isBlank 22 = .ok (.iconst 1, 1) := by decide +kernel
theorem dX4_isBlank_23 : decode cX4_isBlank 23 = .ok (.goto 4, 3) := by decide +kernel
theorem dX4_isBlank_26 : decode cX4_isBlank 26 = .ok (.iconst 0, 1) := by decide +kernel
theorem dX4_isBlank_27 : decode cX4_isBlank 27 = .ok (.ireturn, 1) := by decide +kernel
theorem dX4_isLetter_0 : decode cX4_isLetter 0 = .ok (.aload_n 0, 1) := by decide +kernel
theorem dX4_isLetter_1 : decode cX4_isLetter 1 = .ok (.getfield 9, 3) := by decide +kernel
theorem dX4_isLetter_4 : decode cX4_isLetter 4 = .ok (.iload_n 1, 1) := by decide +kernel
theorem dX4_isLetter_5 : decode cX4_isLetter 5 = .ok (.iaload, 1) := by decide +kernel
theorem dX4_isLetter_6 : decode cX4_isLetter 6 = .ok (.bipush 97, 2) := by decide +kernel
theorem dX4_isLetter_8 : decode cX4_isLetter 8 = .ok (.if_icmp .lt 18, 3) := by decide +kernel
theorem dX4_isLetter_11 : decode cX4_isLetter 11 = .ok (.aload_n 0, 1) := by decide +kernel
theorem dX4_isLetter_12 : decode cX4_isLetter 12 = .ok (.getfield 9, 3) := by decide +kernel
theorem dX4_isLetter_15 : decode cX4_isLetter 15 = .ok (.iload_n 1, 1) := by decide +kernel
theorem dX4_isLetter_16 : decode cX4_isLetter 16 = .ok (.iaload, 1) := by decide +kernel
theorem dX4_isLetter_17 : decode cX4_isLetter 17 = .ok (.bipush 122, 2) := by decide +kernel
theorem dX4_isLetter_19 : decode cX4_isLetter 19 = .ok (.if_icmp .gt 7, 3) := by decide +kernel
theorem dX4_isLetter_22 : decode cX4_isLetter 22 = .ok (.iconst 1, 1) := by decide +kernel
theorem dX4_isLetter_23 : decode cX4_isLetter 23 = .ok (.goto 4, 3) := by decide +kernel
theorem dX4_isLetter_26 : decode cX4_isLetter 26 = .ok (.iconst 0, 1) := by decide +kernel
theorem dX4_isLetter_27 : decode cX4_isLetter 27 = .ok (.ireturn, 1) := by decide +kernel
theorem dX4_isDigit_0 : decode cX4_isDigit 0 = .ok (.aload_n 0, 1) := by decide +kernel
theorem dX4_isDigit_1 : decode cX4_isDigit 1 = .ok (.getfield 9, 3) := by decide +kernel
theorem dX4_isDigit_4 : decode cX4_isDigit 4 = .ok (.iload_n 1, 1) := by decide +kernel
theorem dX4_isDigit_5 : decode cX4_isDigit 5 = .ok (.iaload, 1) := by decide +kernel
theorem dX4_isDigit_6 : decode cX4_isDigit 6 = .ok (.bipush 48, 2) := by decide +kernel
theorem dX4_isDigit_8 : decode cX4_isDigit 8 = .ok (.if_icmp .lt 18, 3) := by decide +kernel
theorem dX4_isDigit_11 : decode cX4_isDigit 11 = .ok (.aload_n 0, 1) := by decide +kernel
theorem dX4_isDigit_12 : decode cX4_isDigit 12 = .ok (.getfield 9, 3) := by decide +kernel
theorem dX4_isDigit_15 : decode cX4_isDigit 15 = .ok (.iload_n 1, 1) := by decide +kernel
theorem dX4_isDigit_16 : decode cX4_isDigit 16 = .ok (.iaload, 1) := by decide +kernel
theorem dX4_isDigit_17 : decode cX4_isDigit 17 = .ok (.bipush 57, 2) := by decide +kernel
theorem dX4_isDigit_19 : decode cX4_isDigit 19 = .ok (.if_icmp .gt 7, 3) := by decide +kernel
theorem dX4_isDigit_22 : decode cX4_isDigit 22 = .ok (.iconst 1, 1) := by decide +kernel
theorem dX4_isDigit_23 : decode cX4_isDigit 23 = .ok (.goto 4, 3) := by decide +kernel
theorem dX4_isDigit_26 : decode cX4_isDigit 26 = .ok (.iconst 0, 1) := by decide +kernel
theorem dX4_isDigit_27 : decode cX4_isDigit 27 = .ok (.ireturn, 1) := by decide +kernel
theorem dX5_init_0 : decode cX5_init 0 = .ok (.aload_n 0, 1) := by decide +kernel
theorem dX5_init_1 : decode cX5_init 1 = .ok (.invokespecial 3, 3) := by decide +kernel
theorem dX5_init_4 : decode cX5_init 4 = .ok (.aload_n 0, 1) := by decide +kernel
theorem dX5_init_5 : decode cX5_init 5 = .ok (.new 9, 3) := by decide +kernel
theorem dX5_init_8 : decode cX5_init 8 = .ok (.dup, 1) := by decide +kernel
theorem dX5_init_9 : decode cX5_init 9 = .ok (.invokespecial 11, 3) := by decide +kernel
theorem dX5_init_12 : decode cX5_init 12 = .ok (.putfield 12, 3) := by decide +kernel
theorem dX5_init_15 : decode cX5_init 15 = .ok (.aload_n 0, 1) := by decide +kernel
theorem dX5_init_16 : decode cX5_init 16 = .ok (.bipush 18, 2) := by decide +kernel
theorem dX5_init_18 : decode cX5_init 18 = .ok (.newarray .int, 2) := by decide +kernel
theorem dX5_init_20 : decode cX5_init 20 = .ok (.putfield 18, 3) := by decide +kernel
theorem dX5_init_23 : decode cX5_init 23 = .ok (.aload_n 0, 1) := by decide +kernel
theorem dX5_init_24 : decode cX5_init 24 = .ok (.bipush 18, 2) := by decide +kernel
theorem dX5_init_26 : decode cX5_init 26 = .ok (.newarray .int, 2) := by decide +kernel
theorem dX5_init_28 : decode cX5_init 28 = .ok (.putfield 22, 3) := by decide +kernel
theorem dX5_init_31 : decode cX5_init 31 = .ok (.aload_n 0, 1) := by decide +kernel
theorem dX5_init_32 : decode cX5_init 32 = .ok (.bipush 18, 2) := by decide +kernel
theorem dX5_init_34 : decode cX5_init 34 = .ok (.newarray .int, 2) := by decide +kernel
theorem dX5_init_36 : decode cX5_init 36 = .ok (.putfield 25, 3) := by decide +kernel
theorem dX5_init_39 : decode cX5_init 39 = .ok (.aload_n 0, 1) := by decide +kernel
theorem dX5_init_40 : decode cX5_init 40 = .ok (.iconst 0, 1) := by decide +kernel
theorem dX5_init_41 : decode cX5_init 41 = .ok (.putfield 28, 3) := by decide +kernel
theorem dX5_init_44 : decode cX5_init 44 = .ok (.aload_n 0, 1) := by decide +kernel
theorem dX5_init_45 : decode cX5_init 45 = .ok (.iconst (-1), 1) := by decide +kernel
theorem dX5_init_46 : decode cX5_init 46 = .ok (.putfield 32, 3) := by decide +kernel
theorem dX5_init_49 : decode cX5_init 49 = .ok (.return_, 1) := by decide +kernel
theorem dX5_makeSmall_0 : decode cX5_makeSmall 0 = .ok (.aload_n 0, 1) := by decide +kernel
theorem dX5_makeSmall_1 : decode cX5_makeSmall 1 = .ok (.getfield 32, 3) := by decide +kernel
theorem dX5_makeSmall_4 : decode cX5_makeSmall 4 = .ok (.aload_n 1, 1) := by decide +kernel
theorem dX5_makeSmall_5 : decode cX5_makeSmall 5 = .ok (.getfield 35, 3) := by decide +kernel
theorem dX5_makeSmall_8 : decode cX5_makeSmall 8 = .ok (.if_icmp .ne 4, 3) := by decide +kernel
theorem dX5_makeSmall_11 : decode cX5_makeSmall 11 = .ok (.return_, 1) := by decide +kernel
theorem dX5_makeSmall_12 : decode cX5_makeSmall 12 = .ok (.aload_n 0, 1) := by decide +kernel
theorem dX5_makeSmall_13 : decode cX5_makeSmall 13 = .ok (.aload_n 1, 1) := by decide +kernel
theorem dX5_makeSmall_14 : decode cX5_makeSmall 14 = .ok (.getfield 35, 3) := by decide +kernel
theorem dX5_makeSmall_17 : decode cX5_makeSmall 17 = .ok (.putfield 32, 3) := by decide +kernel
theorem dX5_makeSmall_20 : decode cX5_makeSmall 20 = .ok (.aload_n 0, 1) := by decide +kernel
theorem dX5_makeSmall_21 : decode cX5_makeSmall 21 = .ok (.getfield 12, 3) := by decide +kernel
theorem dX5_makeSmall_24 : decode cX5_makeSmall 24 = .ok (.aload_n 1, 1) := by decide +kernel
theorem dX5_makeSmall_25 : decode cX5_makeSmall 25 = .ok (.invokevirtual 36, 3) := by decide +kernel
theorem dX5_makeSmall_28 : decode cX5_makeSmall 28 = .ok (.aload_n 0, 1) := by decide +kernel
theorem dX5_makeSmall_29 : decode cX5_makeSmall 29 = .ok (.iconst 0, 1) := by decide +kernel
theorem dX5_makeSmall_30 : decode cX5_makeSmall 30 = .ok (.putfield 28, 3) := by decide +kernel
theorem dX5_makeSmall_33 : decode cX5_makeSmall 33 = .ok (.iconst 0, 1) := by decide +kernel
theorem dX5_makeSmall_34 : decode cX5_makeSmall 34 = .ok (.istore_n 2, 1) := by decide +kernel
theorem dX5_makeSmall_35 : decode cX5_makeSmall 35 = .ok (.iload_n 2, 1) := by decide +kernel
theorem dX5_makeSmall_36 : decode cX5_makeSmall 36 = .ok (.bipush 18, 2) := by decide +kernel
theorem dX5_makeSmall_38 : decode cX5_makeSmall 38 = .ok (.if_icmp .ge 19, 3) := by decide +kernel
theorem dX5_makeSmall_41 : decode cX5_makeSmall 41 = .ok (.aload_n 0, 1) := by decide +kernel
theorem dX5_makeSmall_42 : decode cX5_makeSmall 42 = .ok (.invokevirtual 40, 3) := by decide +kernel
theorem dX5_makeSmall_45 : decode cX5_makeSmall 45 = .ok (.ifCond .ne 6, 3) := by decide +kernel
theorem dX5_makeSmall_48 : decode cX5_makeSmall 48 = .ok (.goto 9, 3) := by decide +kernel
theorem dX5_makeSmall_51 : decode cX5_makeSmall 51 = .ok (.iinc 2 1, 3) := by decide +kernel
theorem dX5_makeSmall_54 : decode cX5_makeSmall 54 = .ok (.goto (-19), 3) := by decide +kernel
theorem dX5_makeSmall_57 : decode cX5_makeSmall 57 = .ok (.return_, 1) := by decide +kernel
theorem dX5_doFirstThatFits_0 : decode cX5_doFirstThatFits 0 = .ok (.aload_n 0, 1) := by decide +kernel
theorem dX5_doFirstThatFits_1 : decode cX5_doFirstThatFits 1 = .ok (.invokevirtual 44, 3) := by decide +kernel
theorem dX5_doFirstThatFits_4 : decode cX5_doFirstThatFits 4 = .ok (.ifCond .ne 38, 3) := by decide +kernel
theorem dX5_doFirstThatFits_7 : decode cX5_doFirstThatFits 7 = .ok (.aload_n 0, 1) := by decide +kernel
theorem dX5_doFirstThatFits_8 : decode cX5_doFirstThatFits 8 = .ok (.invokevirtual 47, 3) := by decide +kernel
theorem dX5_doFirstThatFits_11 : decode cX5_doFirstThatFits 11 = .ok (.ifCond .ne 31, 3) := by decide +kernel
theorem dX5_doFirstThatFits_14 : decode cX5_doFirstThatFits 14 = .ok (.aload_n 0, 1) := by decide +kernel
theorem dX5_doFirstThatFits_15 : decode cX5_doFirstThatFits 15 = .ok (.invokevirtual 50, 3) := by decide +kernel
theorem dX5_doFirstThatFits_18 : decode cX5_doFirstThatFits 18 = .ok (.ifCond .ne 24, 3) := by decide +kernel
theorem dX5_doFirstThatFits_21 : decode cX5_doFirstThatFits 21 = .ok (.aload_n 0, 1) := by decide +kernel
theorem dX5_doFirstThatFits_22 : decode cX5_doFirstThatFits 22 = .ok (.invokevirtual 53, 3) := by decide +kernel
theorem dX5_doFirstThatFits_25 : decode cX5_doFirstThatFits 25 = .ok (.ifCond .ne 17, 3) := by decide +kernel
theorem dX5_doFirstThatFits_28 : decode cX5_doFirstThatFits 28 = .ok (.aload_n 0, 1) := by decide +kernel
theorem dX5_doFirstThatFits_29 : decode cX5_doFirstThatFits 29 = .ok (.invokevirtual 56, 3) := by decide +kernel
theorem dX5_doFirstThatFits_32 : decode cX5_doFirstThatFits 32 = .ok (.ifCond .ne 10, 3) := by decide +kernel
theorem dX5_doFirstThatFits_35 : decode cX5_doFirstThatFits 35 = .ok (.aload_n 0, 1) := by decide +kernel
theorem dX5_doFirstThatFits_36 : decode cX5_doFirstThatFits 36 = .ok (.invokevirtual 59, 3) := by decide +kernel
theorem dX5_doFirstThatFits_39 : decode cX5_doFirstThatFits 39 = .ok (.ifCond .eq 7, 3) := by decide +kernel
theorem dX5_doFirstThatFits_42 : decode cX5_doFirstThatFits 42 = .ok (.iconst 1, 1) := by decide +kernel
theorem dX5_doFirstThatFits_43 : decode cX5_doFirstThatFits 43 = .ok (.goto 4, 3) := by decide +kernel
theorem dX5_doFirstThatFits_46 : decode cX5_doFirstThatFits 46 = .ok (.iconst 0, 1) := by decide +kernel
theorem dX5_doFirstThatFits_47 : decode cX5_doFirstThatFits 47 = .ok (.ireturn, 1) := by decide +kernel
theorem dX5_note_0 : decode cX5_note 0 = .ok (.aload_n 0, 1) := by decide +kernel
theorem dX5_note_1 : decode cX5_note 1 = .ok (.getfield 28, 3) := by decide +kernel
theorem dX5_note_4 : decode cX5_note 4 = .ok (.bipush 18, 2) := by decide +kernel
theorem dX5_note_6 : decode cX5_note 6 = .ok (.if_icmp .ge 43, 3) := by decide +kernel
theorem dX5_note_9 : decode cX5_note 9 = .ok (.aload_n 0, 1) := by decide +kernel
theorem dX5_note_10 : decode cX5_note 10 = .ok (.getfield 18, 3) := by decide +kernel
theorem dX5_note_13 : decode cX5_note 13 = .ok (.aload_n 0, 1) := by decide +kernel
theorem dX5_note_14 : decode cX5_note 14 = .ok (.getfield 28, 3) := by decide +kernel
theorem dX5_note_17 : decode cX5_note 17 = .ok (.iload_n 1, 1) := by decide +kernel
theorem dX5_note_18 : decode cX5_note 18 = .ok (.iastore, 1) := by decide +kernel
theorem dX5_note_19 : decode cX5_note 19 = .ok (.aload_n 0, 1) := by decide +kernel
theorem dX5_note_20 : decode cX5_note 20 = .ok (.getfield 22, 3) := by decide +kernel
theorem dX5_note_23 : decode cX5_note 23 = .ok (.aload_n 0, 1) := by decide +kernel
theorem dX5_note_24 : decode cX5_note 24 = .ok (.getfield 28, 3) := by decide +kernel
theorem dX5_note_27 : decode cX5_note 27 = .ok (.iload_n 2, 1) := by decide +kernel
theorem dX5_note_28 : decode cX5_note 28 = .ok (.iastore, 1) := by decide +kernel
theorem dX5_note_29 : decode cX5_note 29 = .ok (.aload_n 0, 1) := by decide +kernel
theorem dX5_note_30 : decode cX5_note 30 = .ok (.getfield 25, 3) := by decide +kernel
theorem dX5_note_33 : decode cX5_note 33 = .ok (.aload_n 0, 1) := by decide +kernel
theorem dX5_note_34 : decode cX5_note 34 = .ok (.getfield 28, 3) := by decide +kernel
theorem dX5_note_37 : decode cX5_note 37 = .ok (.iload_n 3, 1) := by decide +kernel
theorem dX5_note_38 : decode cX5_note 38 = .ok (.iastore, 1) := by decide +kernel
theorem dX5_note_39 : decode cX5_note 39 = .ok (.aload_n 0, 1) := by decide +kernel
theorem dX5_note_40 : decode cX5_note 40 = .ok (.dup, 1) := by decide +kernel
theorem dX5_note_41 : decode cX5_note 41 = .ok (.getfield 28, 3) := by decide +kernel
theorem dX5_note_44 : decode cX5_note 44 = .ok (.iconst 1, 1) := by decide +kernel
theorem dX5_note_45 : decode cX5_note 45 = .ok (.iadd, 1) := by decide +kernel
theorem dX5_note_46 : decode cX5_note 46 = .ok (.putfield 28, 3) := by decide +kernel
theorem dX5_note_49 : decode cX5_note 49 = .ok (.iload_n 2, 1) := by decide +kernel
theorem dX5_note_50 : decode cX5_note 50 = .ok (.iconst (-1), 1) := by decide +kernel
theorem dX5_note_51 : decode cX5_note 51 = .ok (.if_icmp .eq 11, 3) := by decide +kernel
theorem dX5_note_54 : decode cX5_note 54 = .ok (.aload_n 0, 1) := by decide +kernel
theorem dX5_note_55 : decode cX5_note 55 = .ok (.getfield 12, 3) := by decide +kernel
theorem dX5_note_58 : decode cX5_note 58 = .ok (.iload_n 2, 1) := by decide +kernel
theorem dX5_note_59 : decode cX5_note 59 = .ok (.invokevirtual 62, 3) := by decide +kernel
theorem dX5_note_62 : decode cX5_note 62 = .ok (.iload_n 3, 1) := by decide +kernel
theorem dX5_note_63 : decode cX5_note 63 = .ok (.iconst (-1), 1) := by decide +kernel
theorem dX5_note_64 : decode cX5_note 64 = .ok (.if_icmp .eq 11, 3) := by decide +kernel
theorem dX5_note_67 : decode cX5_note 67 = .ok (.aload_n 0, 1) := by decide +kernel
theorem dX5_note_68 : decode cX5_note 68 = .ok (.getfield 12, 3) := by decide +kernel
theorem dX5_note_71 : decode cX5_note 71 = .ok (.iload_n 3, 1) := by decide +kernel
theorem dX5_note_72 : decode cX5_note 72 = .ok (.invokevirtual 66, 3) := by decide +kernel
theorem dX5_note_75 : decode cX5_note 75 = .ok (.iconst 1, 1) := by decide +kernel
theorem dX5_note_76 : decode cX5_note 76 = .ok (.ireturn, 1) := by decide +kernel
theorem dX5_dropLikePlace_0 : decode cX5_dropLikePlace 0 = .ok (.iconst 0, 1) := by decide +kernel
theorem dX5_dropLikePlace_1 : decode cX5_dropLikePlace 1 = .ok (.istore_n 1, 1) := by decide +kernel
theorem dX5_dropLikePlace_2 : decode cX5_dropLikePlace 2 = .ok (.iload_n 1, 1) := by decide +kernel
theorem dX5_dropLikePlace_3 : decode cX5_dropLikePlace 3 = .ok (.aload_n 0, 1) := by decide +kernel
theorem dX5_dropLikePlace_4 : decode cX5_dropLikePlace 4 = .ok (.getfield 12, 3) := by decide +kernel
theorem dX5_dropLikePlace_7 : decode cX5_dropLikePlace 7 = .ok (.getfield 69, 3) := by decide +kernel
theorem dX5_dropLikePlace_10 : decode cX5_dropLikePlace 10 = .ok (.if_icmp .ge 119, 3) := by decide +kernel
theorem dX5_dropLikePlace_13 : decode cX5_dropLikePlace 13 = .ok (.iload_n 1, 1) := by decide +kernel
theorem dX5_dropLikePlace_14 : decode cX5_dropLikePlace 14 = .ok (.iconst 1, 1) := by decide +kernel
theorem dX5_dropLikePlace_15 : decode cX5_dropLikePlace 15 = .ok (.iadd, 1) := by decide +kernel
theorem dX5_dropLikePlace_16 : decode cX5_dropLikePlace 16 = .ok (.istore_n 2, 1) := by decide +kernel
theorem dX5_dropLikePlace_17 : decode cX5_dropLikePlace 17 = .ok (.iload_n 2, 1) := by decide +kernel
theorem dX5_dropLikePlace_18 : decode cX5_dropLikePlace 18 = .ok (.aload_n 0, 1) := by decide +kernel
theorem dX5_dropLikePlace_19 : decode cX5_dropLikePlace 19 = .ok (.getfield 12, 3) := by decide +kernel
theorem dX5_dropLikePlace_22 : decode cX5_dropLikePlace 22 = .ok (.getfield 69, 3) := by decide +kernel
theorem dX5_dropLikePlace_25 : decode cX5_dropLikePlace 25 = .ok (.if_icmp .ge 98, 3) := by decide +kernel
theorem dX5_dropLikePlace_28 : decode cX5_dropLikePlace 28 = .ok (.aload_n 0, 1) := by decide +kernel
theorem dX5_dropLikePlace_29 : decode cX5_dropLikePlace 29 = .ok (.getfield 12, 3) := by decide +kernel
theorem dX5_dropLikePlace_32 : decode cX5_dropLikePlace 32 = .ok (.iload_n 1, 1) := by decide +kernel
theorem dX5_dropLikePlace_33 : decode cX5_dropLikePlace 33 = .ok (.invokevirtual 72, 3) := by decide +kernel
theorem dX5_dropLikePlace_36 : decode cX5_dropLikePlace 36 = .ok (.ifCond .eq 81, 3) := by decide +kernel
theorem dX5_dropLikePlace_39 : decode cX5_dropLikePlace 39 = .ok (.aload_n 0, 1) := by decide +kernel
theorem dX5_dropLikePlace_40 : decode cX5_dropLikePlace 40 = .ok (.getfield 12, 3) := by decide +kernel
theorem dX5_dropLikePlace_43 : decode cX5_dropLikePlace 43 = .ok (.iload_n 2, 1) := by decide +kernel
theorem dX5_dropLikePlace_44 : decode cX5_dropLikePlace 44 = .ok (.invokevirtual 72, 3) := by decide +kernel
theorem dX5_dropLikePlace_47 : decode cX5_dropLikePlace 47 = .ok (.ifCond .eq 70, 3) := by decide +kernel
theorem dX5_dropLikePlace_50 : decode cX5_dropLikePlace 50 = .ok (.aload_n 0, 1) := by decide +kernel
theorem dX5_dropLikePlace_51 : decode cX5_dropLikePlace 51 = .ok (.getfield 12, 3) := by decide +kernel
theorem dX5_dropLikePlace_54 : decode cX5_dropLikePlace 54 = .ok (.getfield 76, 3) := by decide +kernel
theorem dX5_dropLikePlace_57 : decode cX5_dropLikePlace 57 = .ok (.iload_n 1, 1) := by decide +kernel
theorem dX5_dropLikePlace_58 : decode cX5_dropLikePlace 58 = .ok (.iaload, 1) := by decide +kernel
theorem dX5_dropLikePlace_59 : decode cX5_dropLikePlace 59 = .ok (.aload_n 0, 1) := by decide +kernel
theorem dX5_dropLikePlace_60 : decode cX5_dropLikePlace 60 = .ok (.getfield 12, 3) := by decide +kernel
theorem dX5_dropLikePlace_63 : decode cX5_dropLikePlace 63 = .ok (.getfield 76, 3) := by decide +kernel
theorem dX5_dropLikePlace_66 : decode cX5_dropLikePlace 66 = .ok (.iload_n 2, 1) := by decide +kernel
theorem dX5_dropLikePlace_67 : decode cX5_dropLikePlace 67 = .ok (.iaload, 1) := by decide +kernel
theorem dX5_dropLikePlace_68 : decode cX5_dropLikePlace 68 = .ok (.if_icmp .gt 49, 3) := by decide +kernel
theorem dX5_dropLikePlace_71 : decode cX5_dropLikePlace 71 = .ok (.aload_n 0, 1) := by decide +kernel
theorem dX5_dropLikePlace_72 : decode cX5_dropLikePlace 72 = .ok (.getfield 12, 3) := by decide +kernel
theorem dX5_dropLikePlace_75 : decode cX5_dropLikePlace 75 = .ok (.aload_n 0, 1) := by decide +kernel
theorem dX5_dropLikePlace_76 : decode cX5_dropLikePlace 76 = .ok (.getfield 12, 3) := by decide +kernel
theorem dX5_dropLikePlace_79 : decode cX5_dropLikePlace 79 = .ok (.getfield 79, 3) := by decide +kernel
theorem dX5_dropLikePlace_82 : decode cX5_dropLikePlace 82 = .ok (.iload_n 1, 1) := by decide +kernel
theorem dX5_dropLikePlace_83 : decode cX5_dropLikePlace 83 = .ok (.iload_n 2, 1) := by decide +kernel
theorem dX5_dropLikePlace_84 : decode cX5_dropLikePlace 84 = .ok (.invokevirtual 82, 3) := by decide +kernel
theorem dX5_dropLikePlace_87 : decode cX5_dropLikePlace 87 = .ok (.ifCond .eq 30, 3) := by decide +kernel
theorem dX5_dropLikePlace_90 : decode cX5_dropLikePlace 90 = .ok (.aload_n 0, 1) := by decide +kernel
theorem dX5_dropLikePlace_91 : decode cX5_dropLikePlace 91 = .ok (.getfield 12, 3) := by decide +kernel
theorem dX5_dropLikePlace_94 : decode cX5_dropLikePlace 94 = .ok (.aload_n 0, 1) := by decide +kernel
theorem dX5_dropLikePlace_95 : decode cX5_dropLikePlace 95 = .ok (.getfield 12, 3) := by decide +kernel
theorem dX5_dropLikePlace_98 : decode cX5_dropLikePlace 98 = .ok (.getfield 86, 3) := by decide +kernel
theorem dX5_dropLikePlace_101 : decode cX5_dropLikePlace 101 = .ok (.iload_n 1, 1) := by decide +kernel
theorem dX5_dropLikePlace_102 : decode cX5_dropLikePlace 102 = .ok (.iload_n 2, 1) := by decide +kernel
theorem dX5_dropLikePlace_103 : decode cX5_dropLikePlace 103 = .ok (.invokevirtual 82, 3) := by decide +kernel
theorem dX5_dropLikePlace_106 : decode cX5_dropLikePlace 106 = .ok (.ifCond .eq 11, 3) := by decide +kernel
theorem dX5_dropLikePlace_109 : decode cX5_dropLikePlace 109 = .ok (.aload_n 0, 1) := by decide +kernel
theorem dX5_dropLikePlace_110 : decode cX5_dropLikePlace 110 = .ok (.iconst 1, 1) := by decide +kernel
theorem dX5_dropLikePlace_111 : decode cX5_dropLikePlace 111 = .ok (.iload_n 2, 1) := by decide +kernel
theorem dX5_dropLikePlace_112 : decode cX5_dropLikePlace 112 = .ok (.iconst (-1), 1) := by decide +kernel
theorem dX5_dropLikePlace_113 : decode cX5_dropLikePlace 113 = .ok (.invokevirtual 89, 3) := by decide +kernel
theorem dX5_dropLikePlace_116 : decode cX5_dropLikePlace 116 = .ok (.ireturn, 1) := by decide +kernel
theorem dX5_dropLikePlace_117 : decode cX5_dropLikePlace 117 = .ok (.iinc 2 1, 3) := by decide +kernel
theorem dX5_dropLikePlace_120 : decode cX5_dropLikePlace 120 = .ok (.goto (-103), 3) := by decide +kernel
theorem dX5_dropLikePlace_123 : decode cX5_dropLikePlace 123 = .ok (.iinc 1 1, 3) := by decide +kernel
theorem dX5_dropLikePlace_126 : decode cX5_dropLikePlace 126 = .ok (.goto (-124), 3) := by decide +kernel
theorem dX5_dropLikePlace_129 : decode cX5_dropLikePlace 129 = .ok (.iconst 0, 1) := by decide +kernel
theorem dX5_dropLikePlace_130 : decode cX5_dropLikePlace 130 = .ok (.ireturn, 1) := by decide +kernel
theorem dX5_dropLikeStep_0 : decode cX5_dropLikeStep 0 = .ok (.iconst 0, 1) := by decide +kernel
theorem dX5_dropLikeStep_1 : decode cX5_dropLikeStep 1 = .ok (.istore_n 1, 1) := by decide +kernel
theorem dX5_dropLikeStep_2 : decode cX5_dropLikeStep 2 = .ok (.iload_n 1, 1) := by decide +kernel
theorem dX5_dropLikeStep_3 : decode cX5_dropLikeStep 3 = .ok (.aload_n 0, 1) := by decide +kernel
theorem dX5_dropLikeStep_4 : decode cX5_dropLikeStep 4 = .ok (.getfield 12, 3) := by decide +kernel
theorem dX5_dropLikeStep_7 : decode cX5_dropLikeStep 7 = .ok (.getfield 93, 3) := by decide +kernel
theorem dX5_dropLikeStep_10 : decode cX5_dropLikeStep 10 = .ok (.if_icmp .ge 98, 3) := by decide +kernel
theorem dX5_dropLikeStep_13 : decode cX5_dropLikeStep 13 = .ok (.iload_n 1, 1) := by decide +kernel
theorem dX5_dropLikeStep_14 : decode cX5_dropLikeStep 14 = .ok (.iconst 1, 1) := by decide +kernel
theorem dX5_dropLikeStep_15 : decode cX5_dropLikeStep 15 = .ok (.iadd, 1) := by decide +kernel
theorem dX5_dropLikeStep_16 : decode cX5_dropLikeStep 16 = .ok (.istore_n 2, 1) := by decide +kernel
theorem dX5_dropLikeStep_17 : decode cX5_dropLikeStep 17 = .ok (.iload_n 2, 1) := by decide +kernel
theorem dX5_dropLikeStep_18 : decode cX5_dropLikeStep 18 = .ok (.aload_n 0, 1) := by decide +kernel
theorem dX5_dropLikeStep_19 : decode cX5_dropLikeStep 19 = .ok (.getfield 12, 3) := by decide +kernel
theorem dX5_dropLikeStep_22 : decode cX5_dropLikeStep 22 = .ok (.getfield 93, 3) := by decide +kernel
theorem dX5_dropLikeStep_25 : decode cX5_dropLikeStep 25 = .ok (.if_icmp .ge 77, 3) := by decide +kernel
theorem dX5_dropLikeStep_28 : decode cX5_dropLikeStep 28 = .ok (.aload_n 0, 1) := by decide +kernel
theorem dX5_dropLikeStep_29 : decode cX5_dropLikeStep 29 = .ok (.getfield 12, 3) := by decide +kernel
theorem dX5_dropLikeStep_32 : decode cX5_dropLikeStep 32 = .ok (.iload_n 1, 1) := by decide +kernel
theorem dX5_dropLikeStep_33 : decode cX5_dropLikeStep 33 = .ok (.invokevirtual 96, 3) := by decide +kernel
theorem dX5_dropLikeStep_36 : decode cX5_dropLikeStep 36 = .ok (.ifCond .eq 60, 3) := by decide +kernel
theorem dX5_dropLikeStep_39 : decode cX5_dropLikeStep 39 = .ok (.aload_n 0, 1) := by decide +kernel
theorem dX5_dropLikeStep_40 : decode cX5_dropLikeStep 40 = .ok (.getfield 12, 3) := by decide +kernel
theorem dX5_dropLikeStep_43 : decode cX5_dropLikeStep 43 = .ok (.iload_n 2, 1) := by decide +kernel
theorem dX5_dropLikeStep_44 : decode cX5_dropLikeStep 44 = .ok (.invokevirtual 96, 3) := by decide +kernel
theorem dX5_dropLikeStep_47 : decode cX5_dropLikeStep 47 = .ok (.ifCond .eq 49, 3) := by decide +kernel
theorem dX5_dropLikeStep_50 : decode cX5_dropLikeStep 50 = .ok (.aload_n 0, 1) := by decide +kernel
theorem dX5_dropLikeStep_51 : decode cX5_dropLikeStep 51 = .ok (.getfield 12, 3) := by decide +kernel
theorem dX5_dropLikeStep_54 : decode cX5_dropLikeStep 54 = .ok (.aload_n 0, 1) := by decide +kernel
theorem dX5_dropLikeStep_55 : decode cX5_dropLikeStep 55 = .ok (.getfield 12, 3) := by decide +kernel
theorem dX5_dropLikeStep_58 : decode cX5_dropLikeStep 58 = .ok (.getfield 79, 3) := by decide +kernel
theorem dX5_dropLikeStep_61 : decode cX5_dropLikeStep 61 = .ok (.iload_n 1, 1) := by decide +kernel
theorem dX5_dropLikeStep_62 : decode cX5_dropLikeStep 62 = .ok (.iload_n 2, 1) := by decide +kernel
theorem dX5_dropLikeStep_63 : decode cX5_dropLikeStep 63 = .ok (.invokevirtual 99, 3) := by decide +kernel
theorem dX5_dropLikeStep_66 : decode cX5_dropLikeStep 66 = .ok (.ifCond .eq 30, 3) := by decide +kernel
theorem dX5_dropLikeStep_69 : decode cX5_dropLikeStep 69 = .ok (.aload_n 0, 1) := by decide +kernel
theorem dX5_dropLikeStep_70 : decode cX5_dropLikeStep 70 = .ok (.getfield 12, 3) := by decide +kernel
theorem dX5_dropLikeStep_73 : decode cX5_dropLikeStep 73 = .ok (.aload_n 0, 1) := by decide +kernel
theorem dX5_dropLikeStep_74 : decode cX5_dropLikeStep 74 = .ok (.getfield 12, 3) := by decide +kernel
theorem dX5_dropLikeStep_77 : decode cX5_dropLikeStep 77 = .ok (.getfield 86, 3) := by decide +kernel
theorem dX5_dropLikeStep_80 : decode cX5_dropLikeStep 80 = .ok (.iload_n 1, 1) := by decide +kernel
theorem dX5_dropLikeStep_81 : decode cX5_dropLikeStep 81 = .ok (.iload_n 2, 1) := by decide +kernel
theorem dX5_dropLikeStep_82 : decode cX5_dropLikeStep 82 = .ok (.invokevirtual 99, 3) := by decide +kernel
theorem dX5_dropLikeStep_85 : decode cX5_dropLikeStep 85 = .ok (.ifCond .eq 11, 3) := by decide +kernel
theorem dX5_dropLikeStep_88 : decode cX5_dropLikeStep 88 = .ok (.aload_n 0, 1) := by decide +kernel
theorem dX5_dropLikeStep_89 : decode cX5_dropLikeStep 89 = .ok (.iconst 2, 1) := by decide +kernel
theorem dX5_dropLikeStep_90 : decode cX5_dropLikeStep 90 = .ok (.iconst (-1), 1) := by decide +kernel
theorem dX5_dropLikeStep_91 : decode cX5_dropLikeStep 91 = .ok (.iload_n 2, 1) := by decide +kernel
theorem dX5_dropLikeStep_92 : decode cX5_dropLikeStep 92 = .ok (.invokevirtual 89, 3) := by decide +kernel
theorem dX5_dropLikeStep_95 : decode cX5_dropLikeStep 95 = .ok (.ireturn, 1) := by decide +kernel
theorem dX5_dropLikeStep_96 : decode cX5_dropLikeStep 96 = .ok (.iinc 2 1, 3) := by decide +kernel
theorem dX5_dropLikeStep_99 : decode cX5_dropLikeStep 99 = .ok (.goto (-82), 3) := by decide +kernel
theorem dX5_dropLikeStep_102 : decode cX5_dropLikeStep 102 = .ok (.iinc 1 1, 3) := by decide +kernel
theorem dX5_dropLikeStep_105 : decode cX5_dropLikeStep 105 = .ok (.goto (-103), 3) := by decide +kernel
theorem dX5_dropLikeStep_108 : decode cX5_dropLikeStep 108 = .ok (.iconst 0, 1) := by decide +kernel
theorem dX5_dropLikeStep_109 : decode cX5_dropLikeStep 109 = .ok (.ireturn, 1) := by decide +kernel
theorem dX5_dropIdlePlace_0 : decode cX5_dropIdlePlace 0 = .ok (.iconst 0, 1) := by decide +kernel
theorem dX5_dropIdlePlace_1 : decode cX5_dropIdlePlace 1 = .ok (.istore_n 1, 1) := by decide +kernel
theorem dX5_dropIdlePlace_2 : decode cX5_dropIdlePlace 2 = .ok (.iload_n 1, 1) := by decide +kernel
theorem dX5_dropIdlePlace_3 : decode cX5_dropIdlePlace 3 = .ok (.aload_n 0, 1) := by decide +kernel
theorem dX5_dropIdlePlace_4 : decode cX5_dropIdlePlace 4 = .ok (.getfield 12, 3) := by decide +kernel
theorem dX5_dropIdlePlace_7 : decode cX5_dropIdlePlace 7 = .ok (.getfield 69, 3) := by decide +kernel
theorem dX5_dropIdlePlace_10 : decode cX5_dropIdlePlace 10 = .ok (.if_icmp .ge 53, 3) := by decide +kernel
theorem dX5_dropIdlePlace_13 : decode cX5_dropIdlePlace 13 = .ok (.aload_n 0, 1) := by decide +kernel
theorem dX5_dropIdlePlace_14 : decode cX5_dropIdlePlace 14 = .ok (.getfield 12, 3) := by decide +kernel
theorem dX5_dropIdlePlace_17 : decode cX5_dropIdlePlace 17 = .ok (.iload_n 1, 1) := by decide +kernel
theorem dX5_dropIdlePlace_18 : decode cX5_dropIdlePlace 18 = .ok (.invokevirtual 72, 3) := by decide +kernel
theorem dX5_dropIdlePlace_21 : decode cX5_dropIdlePlace 21 = .ok (.ifCond .eq 36, 3) := by decide +kernel
theorem dX5_dropIdlePlace_24 : decode cX5_dropIdlePlace 24 = .ok (.aload_n 0, 1) := by decide +kernel
theorem dX5_dropIdlePlace_25 : decode cX5_dropIdlePlace 25 = .ok (.iload_n 1, 1) := by decide +kernel
theorem dX5_dropIdlePlace_26 : decode cX5_dropIdlePlace 26 = .ok (.invokevirtual 102, 3) := by decide +kernel
theorem dX5_dropIdlePlace_29 : decode cX5_dropIdlePlace 29 = .ok (.ifCond .eq 28, 3) := by decide +kernel
theorem dX5_dropIdlePlace_32 : decode cX5_dropIdlePlace 32 = .ok (.aload_n 0, 1) := by decide +kernel
theorem dX5_dropIdlePlace_33 : decode cX5_dropIdlePlace 33 = .ok (.getfield 12, 3) := by decide +kernel
theorem dX5_dropIdlePlace_36 : decode cX5_dropIdlePlace 36 = .ok (.getfield 76, 3) := by decide +kernel
theorem dX5_dropIdlePlace_39 : decode cX5_dropIdlePlace 39 = .ok (.iload_n 1, 1) := by decide +kernel
theorem dX5_dropIdlePlace_40 : decode cX5_dropIdlePlace 40 = .ok (.iaload, 1) := by decide +kernel
theorem dX5_dropIdlePlace_41 : decode cX5_dropIdlePlace 41 = .ok (.aload_n 0, 1) := by decide +kernel
theorem dX5_dropIdlePlace_42 : decode cX5_dropIdlePlace 42 = .ok (.iload_n 1, 1) := by decide +kernel
theorem dX5_dropIdlePlace_43 : decode cX5_dropIdlePlace 43 = .ok (.invokevirtual 105, 3) := by decide +kernel
theorem dX5_dropIdlePlace_46 : decode cX5_dropIdlePlace 46 = .ok (.if_icmp .lt 11, 3) := by decide +kernel
theorem dX5_dropIdlePlace_49 : decode cX5_dropIdlePlace 49 = .ok (.aload_n 0, 1) := by decide +kernel
theorem dX5_dropIdlePlace_50 : decode cX5_dropIdlePlace 50 = .ok (.iconst 3, 1) := by decide +kernel
theorem dX5_dropIdlePlace_51 : decode cX5_dropIdlePlace 51 = .ok (.iload_n 1, 1) := by decide +kernel
theorem dX5_dropIdlePlace_52 : decode cX5_dropIdlePlace 52 = .ok (.iconst (-1), 1) := by decide +kernel
theorem dX5_dropIdlePlace_53 : decode cX5_dropIdlePlace 53 = .ok (.invokevirtual 89, 3) := by decide +kernel
theorem dX5_dropIdlePlace_56 : decode cX5_dropIdlePlace 56 = .ok (.ireturn, 1) := by decide +kernel
theorem dX5_dropIdlePlace_57 : decode cX5_dropIdlePlace 57 = .ok (.iinc 1 1, 3) := by decide +kernel
theorem dX5_dropIdlePlace_60 : decode cX5_dropIdlePlace 60 = .ok (.goto (-58), 3) := by decide +kernel
theorem dX5_dropIdlePlace_63 : decode cX5_dropIdlePlace 63 = .ok (.iconst 0, 1) := by decide +kernel
theorem dX5_dropIdlePlace_64 : decode cX5_dropIdlePlace 64 = .ok (.ireturn, 1) := by decide +kernel
theorem dX5_isNeverChanged_0 : decode cX5_isNeverChanged 0 = .ok (.iconst 0, 1) := by decide +kernel
theorem dX5_isNeverChanged_1 : decode cX5_isNeverChanged 1 = .ok (.istore_n 2, 1) := by decide +kernel
theorem dX5_isNeverChanged_2 : decode cX5_isNeverChanged 2 = .ok (.iload_n 2, 1) := by decide +kernel
theorem dX5_isNeverChanged_3 : decode cX5_isNeverChanged 3 = .ok (.aload_n 0, 1) := by decide +kernel
theorem dX5_isNeverChanged_4 : decode cX5_isNeverChanged 4 = .ok (.getfield 12, 3) := by decide +kernel
theorem dX5_isNeverChanged_7 : decode cX5_isNeverChanged 7 = .ok (.getfield 93, 3) := by decide +kernel
theorem dX5_isNeverChanged_10 : decode cX5_isNeverChanged 10 = .ok (.if_icmp .ge 23, 3) := by decide +kernel
theorem dX5_isNeverChanged_13 : decode cX5_isNeverChanged 13 = .ok (.aload_n 0, 1) := by decide +kernel
theorem dX5_isNeverChanged_14 : decode cX5_isNeverChanged 14 = .ok (.getfield 12, 3) := by decide +kernel
theorem dX5_isNeverChanged_17 : decode cX5_isNeverChanged 17 = .ok (.iload_n 2, 1) := by decide +kernel
theorem dX5_isNeverChanged_18 : decode cX5_isNeverChanged 18 = .ok (.iload_n 1, 1) := by decide +kernel
theorem dX5_isNeverChanged_19 : decode cX5_isNeverChanged 19 = .ok (.invokevirtual 109, 3) := by decide +kernel
theorem dX5_isNeverChanged_22 : decode cX5_isNeverChanged 22 = .ok (.ifCond .eq 5, 3) := by decide +kernel
theorem dX5_isNeverChanged_25 : decode cX5_isNeverChanged 25 = .ok (.iconst 0, 1) := by decide +kernel
theorem dX5_isNeverChanged_26 : decode cX5_isNeverChanged 26 = .ok (.ireturn, 1) := by decide +kernel
theorem dX5_isNeverChanged_27 : decode cX5_isNeverChanged 27 = .ok (.iinc 2 1, 3) := by decide +kernel
theorem dX5_isNeverChanged_30 : decode cX5_isNeverChanged 30 = .ok (.goto (-28), 3) := by decide +kernel
theorem dX5_isNeverChanged_33 : decode cX5_isNeverChanged 33 = .ok (.iconst 1, 1) := by decide +kernel
theorem dX5_isNeverChanged_34 : decode cX5_isNeverChanged 34 = .ok (.ireturn, 1) := by decide +kernel
theorem dX5_mostTaken_0 : decode cX5_mostTaken 0 = .ok (.iconst 0, 1) := by decide +kernel
theorem dX5_mostTaken_1 : decode cX5_mostTaken 1 = .ok (.istore_n 2, 1) := by decide +kernel
theorem dX5_mostTaken_2 : decode cX5_mostTaken 2 = .ok (.iconst 0, 1) := by decide +kernel
theorem dX5_mostTaken_3 : decode cX5_mostTaken 3 = .ok (.istore_n 3, 1) := by decide +kernel
theorem dX5_mostTaken_4 : decode cX5_mostTaken 4 = .ok (.iload_n 3, 1) := by decide +kernel
theorem dX5_mostTaken_5 : decode cX5_mostTaken 5 = .ok (.aload_n 0, 1) := by decide +kernel
theorem dX5_mostTaken_6 : decode cX5_mostTaken 6 = .ok (.getfield 12, 3) := by decide +kernel
theorem dX5_mostTaken_9 : decode cX5_mostTaken 9 = .ok (.getfield 93, 3) := by decide +kernel
theorem dX5_mostTaken_12 : decode cX5_mostTaken 12 = .ok (.if_icmp .ge 28, 3) := by decide +kernel
theorem dX5_mostTaken_15 : decode cX5_mostTaken 15 = .ok (.iload_n 2, 1) := by decide +kernel
theorem dX5_mostTaken_16 : decode cX5_mostTaken 16 = .ok (.aload_n 0, 1) := by decide +kernel
theorem dX5_mostTaken_17 : decode cX5_mostTaken 17 = .ok (.getfield 12, 3) := by decide +kernel
theorem dX5_mostTaken_20 : decode cX5_mostTaken 20 = .ok (.getfield 79, 3) := by decide +kernel
theorem dX5_mostTaken_23 : decode cX5_mostTaken 23 = .ok (.iload_n 3, 1) := by decide +kernel
theorem dX5_mostTaken_24 : decode cX5_mostTaken 24 = .ok (.bipush 10, 2) := by decide +kernel
theorem dX5_mostTaken_26 : decode cX5_mostTaken 26 = .ok (.imul, 1) := by decide +kernel
theorem dX5_mostTaken_27 : decode cX5_mostTaken 27 = .ok (.iload_n 1, 1) := by decide +kernel
theorem dX5_mostTaken_28 : decode cX5_mostTaken 28 = .ok (.iadd, 1) := by decide +kernel
theorem dX5_mostTaken_29 : decode cX5_mostTaken 29 = .ok (.iaload, 1) := by decide +kernel
theorem dX5_mostTaken_30 : decode cX5_mostTaken 30 = .ok (.invokestatic 113, 3) := by decide +kernel
theorem dX5_mostTaken_33 : decode cX5_mostTaken 33 = .ok (.istore_n 2, 1) := by decide +kernel
theorem dX5_mostTaken_34 : decode cX5_mostTaken 34 = .ok (.iinc 3 1, 3) := by decide +kernel
theorem dX5_mostTaken_37 : decode cX5_mostTaken 37 = .ok (.goto (-33), 3) := by decide +kernel
theorem dX5_mostTaken_40 : decode cX5_mostTaken 40 = .ok (.iload_n 2, 1) := by decide +kernel
theorem dX5_mostTaken_41 : decode cX5_mostTaken 41 = .ok (.ireturn, 1) := by decide +kernel
theorem dX5_dropIdleStep_0 : decode cX5_dropIdleStep 0 = .ok (.aload_n 0, 1) := by decide +kernel
theorem dX5_dropIdleStep_1 : decode cX5_dropIdleStep 1 = .ok (.getfield 12, 3) := by decide +kernel
theorem dX5_dropIdleStep_4 : decode cX5_dropIdleStep 4 = .ok (.getfield 118, 3) := by decide +kernel
theorem dX5_dropIdleStep_7 : decode cX5_dropIdleStep 7 = .ok (.invokestatic 121, 3) := by decide +kernel
theorem dX5_dropIdleStep_10 : decode cX5_dropIdleStep 10 = .ok (.iconst 2, 1) := by decide +kernel
theorem dX5_dropIdleStep_11 : decode cX5_dropIdleStep 11 = .ok (.if_icmp .ge 5, 3) := by decide +kernel
theorem dX5_dropIdleStep_14 : decode cX5_dropIdleStep 14 = .ok (.iconst 0, 1) := by decide +kernel
theorem dX5_dropIdleStep_15 : decode cX5_dropIdleStep 15 = .ok (.ireturn, 1) := by decide +kernel
theorem dX5_dropIdleStep_16 : decode cX5_dropIdleStep 16 = .ok (.iconst 0, 1) := by decide +kernel
theorem dX5_dropIdleStep_17 : decode cX5_dropIdleStep 17 = .ok (.istore_n 1, 1) := by decide +kernel
theorem dX5_dropIdleStep_18 : decode cX5_dropIdleStep 18 = .ok (.iload_n 1, 1) := by decide +kernel
theorem dX5_dropIdleStep_19 : decode cX5_dropIdleStep 19 = .ok (.aload_n 0, 1) := by decide +kernel
theorem dX5_dropIdleStep_20 : decode cX5_dropIdleStep 20 = .ok (.getfield 12, 3) := by decide +kernel
theorem dX5_dropIdleStep_23 : decode cX5_dropIdleStep 23 = .ok (.getfield 93, 3) := by decide +kernel
theorem dX5_dropIdleStep_26 : decode cX5_dropIdleStep 26 = .ok (.if_icmp .ge 39, 3) := by decide +kernel
theorem dX5_dropIdleStep_29 : decode cX5_dropIdleStep 29 = .ok (.aload_n 0, 1) := by decide +kernel
theorem dX5_dropIdleStep_30 : decode cX5_dropIdleStep 30 = .ok (.getfield 12, 3) := by decide +kernel
theorem dX5_dropIdleStep_33 : decode cX5_dropIdleStep 33 = .ok (.iload_n 1, 1) := by decide +kernel
theorem dX5_dropIdleStep_34 : decode cX5_dropIdleStep 34 = .ok (.invokevirtual 96, 3) := by decide +kernel
theorem dX5_dropIdleStep_37 : decode cX5_dropIdleStep 37 = .ok (.ifCond .eq 22, 3) := by decide +kernel
theorem dX5_dropIdleStep_40 : decode cX5_dropIdleStep 40 = .ok (.aload_n 0, 1) := by decide +kernel
theorem dX5_dropIdleStep_41 : decode cX5_dropIdleStep 41 = .ok (.getfield 12, 3) := by decide +kernel
theorem dX5_dropIdleStep_44 : decode cX5_dropIdleStep 44 = .ok (.iload_n 1, 1) := by decide +kernel
theorem dX5_dropIdleStep_45 : decode cX5_dropIdleStep 45 = .ok (.invokevirtual 126, 3) := by decide +kernel
theorem dX5_dropIdleStep_48 : decode cX5_dropIdleStep 48 = .ok (.ifCond .eq 11, 3) := by decide +kernel
theorem dX5_dropIdleStep_51 : decode cX5_dropIdleStep 51 = .ok (.aload_n 0, 1) := by decide +kernel
theorem dX5_dropIdleStep_52 : decode cX5_dropIdleStep 52 = .ok (.iconst 4, 1) := by decide +kernel
theorem dX5_dropIdleStep_53 : decode cX5_dropIdleStep 53 = .ok (.iconst (-1), 1) := by decide +kernel
theorem dX5_dropIdleStep_54 : decode cX5_dropIdleStep 54 = .ok (.iload_n 1, 1) := by decide +kernel
theorem dX5_dropIdleStep_55 : decode cX5_dropIdleStep 55 = .ok (.invokevirtual 89, 3) := by decide +kernel
theorem dX5_dropIdleStep_58 : decode cX5_dropIdleStep 58 = .ok (.ireturn, 1) := by decide +kernel
theorem dX5_dropIdleStep_59 : decode cX5_dropIdleStep 59 = .ok (.iinc 1 1, 3) := by decide +kernel
theorem dX5_dropIdleStep_62 : decode cX5_dropIdleStep 62 = .ok (.goto (-44), 3) := by decide +kernel
theorem dX5_dropIdleStep_65 : decode cX5_dropIdleStep 65 = .ok (.iconst 0, 1) := by decide +kernel
theorem dX5_dropIdleStep_66 : decode cX5_dropIdleStep 66 = .ok (.ireturn, 1) := by decide +kernel
theorem dX5_joinSteps_0 : decode cX5_joinSteps 0 = .ok (.iconst 0, 1) := by decide +kernel
theorem dX5_joinSteps_1 : decode cX5_joinSteps 1 = .ok (.istore_n 1, 1) := by decide +kernel
theorem dX5_joinSteps_2 : decode cX5_joinSteps 2 = .ok (.iload_n 1, 1) := by decide +kernel
theorem dX5_joinSteps_3 : decode cX5_joinSteps 3 = .ok (.aload_n 0, 1) := by decide +kernel
theorem dX5_joinSteps_4 : decode cX5_joinSteps 4 = .ok (.getfield 12, 3) := by decide +kernel
theorem dX5_joinSteps_7 : decode cX5_joinSteps 7 = .ok (.getfield 69, 3) := by decide +kernel
theorem dX5_joinSteps_10 : decode cX5_joinSteps 10 = .ok (.if_icmp .ge 154, 3) := by decide +kernel
theorem dX5_joinSteps_13 : decode cX5_joinSteps 13 = .ok (.aload_n 0, 1) := by decide +kernel
theorem dX5_joinSteps_14 : decode cX5_joinSteps 14 = .ok (.getfield 12, 3) := by decide +kernel
theorem dX5_joinSteps_17 : decode cX5_joinSteps 17 = .ok (.iload_n 1, 1) := by decide +kernel
theorem dX5_joinSteps_18 : decode cX5_joinSteps 18 = .ok (.invokevirtual 72, 3) := by decide +kernel
theorem dX5_joinSteps_21 : decode cX5_joinSteps 21 = .ok (.ifCond .eq 137, 3) := by decide +kernel
theorem dX5_joinSteps_24 : decode cX5_joinSteps 24 = .ok (.aload_n 0, 1) := by decide +kernel
theorem dX5_joinSteps_25 : decode cX5_joinSteps 25 = .ok (.getfield 12, 3) := by decide +kernel
theorem dX5_joinSteps_28 : decode cX5_joinSteps 28 = .ok (.getfield 76, 3) := by decide +kernel
theorem dX5_joinSteps_31 : decode cX5_joinSteps 31 = .ok (.iload_n 1, 1) := by decide +kernel
theorem dX5_joinSteps_32 : decode cX5_joinSteps 32 = .ok (.iaload, 1) := by decide +kernel
theorem dX5_joinSteps_33 : decode cX5_joinSteps 33 = .ok (.ifCond .eq 6, 3) := by decide +kernel
theorem dX5_joinSteps_36 : decode cX5_joinSteps 36 = .ok (.goto 122, 3) := by decide +kernel
theorem dX5_joinSteps_39 : decode cX5_joinSteps 39 = .ok (.aload_n 0, 1) := by decide +kernel
theorem dX5_joinSteps_40 : decode cX5_joinSteps 40 = .ok (.getfield 12, 3) := by decide +kernel
theorem dX5_joinSteps_43 : decode cX5_joinSteps 43 = .ok (.aload_n 0, 1) := by decide +kernel
theorem dX5_joinSteps_44 : decode cX5_joinSteps 44 = .ok (.getfield 12, 3) := by decide +kernel
theorem dX5_joinSteps_47 : decode cX5_joinSteps 47 = .ok (.getfield 86, 3) := by decide +kernel
theorem dX5_joinSteps_50 : decode cX5_joinSteps 50 = .ok (.iload_n 1, 1) := by decide +kernel
theorem dX5_joinSteps_51 : decode cX5_joinSteps 51 = .ok (.invokevirtual 129, 3) := by decide +kernel
theorem dX5_joinSteps_54 : decode cX5_joinSteps 54 = .ok (.istore_n 2, 1) := by decide +kernel
theorem dX5_joinSteps_55 : decode cX5_joinSteps 55 = .ok (.aload_n 0, 1) := by decide +kernel
theorem dX5_joinSteps_56 : decode cX5_joinSteps 56 = .ok (.getfield 12, 3) := by decide +kernel
theorem dX5_joinSteps_59 : decode cX5_joinSteps 59 = .ok (.aload_n 0, 1) := by decide +kernel
theorem dX5_joinSteps_60 : decode cX5_joinSteps 60 = .ok (.getfield 12, 3) := by decide +kernel
theorem dX5_joinSteps_63 : decode cX5_joinSteps 63 = .ok (.getfield 79, 3) := by decide +kernel
theorem dX5_joinSteps_66 : decode cX5_joinSteps 66 = .ok (.iload_n 1, 1) := by decide +kernel
theorem dX5_joinSteps_67 : decode cX5_joinSteps 67 = .ok (.invokevirtual 129, 3) := by decide +kernel
theorem dX5_joinSteps_70 : decode cX5_joinSteps 70 = .ok (.istore_n 3, 1) := by decide +kernel
theorem dX5_joinSteps_71 : decode cX5_joinSteps 71 = .ok (.iload_n 2, 1) := by decide +kernel
theorem dX5_joinSteps_72 : decode cX5_joinSteps 72 = .ok (.iconst (-1), 1) := by decide +kernel
theorem dX5_joinSteps_73 : decode cX5_joinSteps 73 = .ok (.if_icmp .eq 85, 3) := by decide +kernel
theorem dX5_joinSteps_76 : decode cX5_joinSteps 76 = .ok (.iload_n 3, 1) := by decide +kernel
theorem dX5_joinSteps_77 : decode cX5_joinSteps 77 = .ok (.iconst (-1), 1) := by decide +kernel
theorem dX5_joinSteps_78 : decode cX5_joinSteps 78 = .ok (.if_icmp .eq 80, 3) := by decide +kernel
theorem dX5_joinSteps_81 : decode cX5_joinSteps 81 = .ok (.iload_n 2, 1) := by decide +kernel
theorem dX5_joinSteps_82 : decode cX5_joinSteps 82 = .ok (.iload_n 3, 1) := by decide +kernel
theorem dX5_joinSteps_83 : decode cX5_joinSteps 83 = .ok (.if_icmp .eq 75, 3) := by decide +kernel
theorem dX5_joinSteps_86 : decode cX5_joinSteps 86 = .ok (.aload_n 0, 1) := by decide +kernel
theorem dX5_joinSteps_87 : decode cX5_joinSteps 87 = .ok (.iload_n 2, 1) := by decide +kernel
theorem dX5_joinSteps_88 : decode cX5_joinSteps 88 = .ok (.iload_n 1, 1) := by decide +kernel
theorem dX5_joinSteps_89 : decode cX5_joinSteps 89 = .ok (.iload_n 3, 1) := by decide +kernel
theorem dX5_joinSteps_90 : decode cX5_joinSteps 90 = .ok (.invokevirtual 133, 3) := by decide +kernel
theorem dX5_joinSteps_93 : decode cX5_joinSteps 93 = .ok (.ifCond .eq 65, 3) := by decide +kernel
theorem dX5_joinSteps_96 : decode cX5_joinSteps 96 = .ok (.iconst 0, 1) := by decide +kernel
theorem dX5_joinSteps_97 : decode cX5_joinSteps 97 = .ok (.istore 4, 2) := by decide +kernel
theorem dX5_joinSteps_99 : decode cX5_joinSteps 99 = .ok (.iload 4, 2) := by decide +kernel
theorem dX5_joinSteps_101 : decode cX5_joinSteps 101 = .ok (.aload_n 0, 1) := by decide +kernel
theorem dX5_joinSteps_102 : decode cX5_joinSteps 102 = .ok (.getfield 12, 3) := by decide +kernel
theorem dX5_joinSteps_105 : decode cX5_joinSteps 105 = .ok (.getfield 69, 3) := by decide +kernel
theorem dX5_joinSteps_108 : decode cX5_joinSteps 108 = .ok (.if_icmp .ge 42, 3) := by decide +kernel
theorem dX5_joinSteps_111 : decode cX5_joinSteps 111 = .ok (.aload_n 0, 1) := by decide +kernel
theorem dX5_joinSteps_112 : decode cX5_joinSteps 112 = .ok (.getfield 12, 3) := by decide +kernel
theorem dX5_joinSteps_115 : decode cX5_joinSteps 115 = .ok (.getfield 86, 3) := by decide +kernel
theorem dX5_joinSteps_118 : decode cX5_joinSteps 118 = .ok (.iload_n 2, 1) := by decide +kernel
theorem dX5_joinSteps_119 : decode cX5_joinSteps 119 = .ok (.bipush 10, 2) := by decide +kernel
theorem dX5_joinSteps_121 : decode cX5_joinSteps 121 = .ok (.imul, 1) := by decide +kernel
theorem dX5_joinSteps_122 : decode cX5_joinSteps 122 = .ok (.iload 4, 2) := by decide +kernel
theorem dX5_joinSteps_124 : decode cX5_joinSteps 124 = .ok (.iadd, 1) := by decide +kernel
theorem dX5_joinSteps_125 : decode cX5_joinSteps 125 = .ok (.dup2, 1) := by decide +kernel
theorem dX5_joinSteps_126 : decode cX5_joinSteps 126 = .ok (.iaload, 1) := by decide +kernel
theorem dX5_joinSteps_127 : decode cX5_joinSteps 127 = .ok (.aload_n 0, 1) := by decide +kernel
theorem dX5_joinSteps_128 : decode cX5_joinSteps 128 = .ok (.getfield 12, 3) := by decide +kernel
theorem dX5_joinSteps_131 : decode cX5_joinSteps 131 = .ok (.getfield 86, 3) := by decide +kernel
theorem dX5_joinSteps_134 : decode cX5_joinSteps 134 = .ok (.iload_n 3, 1) := by decide +kernel
theorem dX5_joinSteps_135 : decode cX5_joinSteps 135 = .ok (.bipush 10, 2) := by decide +kernel
theorem dX5_joinSteps_137 : decode cX5_joinSteps 137 = .ok (.imul, 1) := by decide +kernel
theorem dX5_joinSteps_138 : decode cX5_joinSteps 138 = .ok (.iload 4, 2) := by decide +kernel
theorem dX5_joinSteps_140 : decode cX5_joinSteps 140 = .ok (.iadd, 1) := by decide +kernel
theorem dX5_joinSteps_141 : decode cX5_joinSteps 141 = .ok (.iaload, 1) := by decide +kernel
theorem dX5_joinSteps_142 : decode cX5_joinSteps 142 = .ok (.iadd, 1) := by decide +kernel
theorem dX5_joinSteps_143 : decode cX5_joinSteps 143 = .ok (.iastore, 1) := by decide +kernel
theorem dX5_joinSteps_144 : decode cX5_joinSteps 144 = .ok (.iinc 4 1, 3) := by decide +kernel
theorem dX5_joinSteps_147 : decode cX5_joinSteps 147 = .ok (.goto (-48), 3) := by decide +kernel
theorem dX5_joinSteps_150 : decode cX5_joinSteps 150 = .ok (.aload_n 0, 1) := by decide +kernel
theorem dX5_joinSteps_151 : decode cX5_joinSteps 151 = .ok (.iconst 5, 1) := by decide +kernel
theorem dX5_joinSteps_152 : decode cX5_joinSteps 152 = .ok (.iload_n 1, 1) := by decide +kernel
theorem dX5_joinSteps_153 : decode cX5_joinSteps 153 = .ok (.iload_n 3, 1) := by decide +kernel
theorem dX5_joinSteps_154 : decode cX5_joinSteps 154 = .ok (.invokevirtual 89, 3) := by decide +kernel
theorem dX5_joinSteps_157 : decode cX5_joinSteps 157 = .ok (.ireturn, 1) := by decide +kernel
theorem dX5_joinSteps_158 : decode cX5_joinSteps 158 = .ok (.iinc 1 1, 3) := by decide +kernel
theorem dX5_joinSteps_161 : decode cX5_joinSteps 161 = .ok (.goto (-159), 3) := by decide +kernel
theorem dX5_joinSteps_164 : decode cX5_joinSteps 164 = .ok (.iconst 0, 1) := by decide +kernel
theorem dX5_joinSteps_165 : decode cX5_joinSteps 165 = .ok (.ireturn, 1) := by decide +kernel
theorem dX5_isJoint_0 : decode cX5_isJoint 0 = .ok (.aload_n 0, 1) := by decide +kernel
theorem dX5_isJoint_1 : decode cX5_isJoint 1 = .ok (.getfield 12, 3) := by decide +kernel
theorem dX5_isJoint_4 : decode cX5_isJoint 4 = .ok (.getfield 86, 3) := by decide +kernel
theorem dX5_isJoint_7 : decode cX5_isJoint 7 = .ok (.iload_n 1, 1) := by decide +kernel
theorem dX5_isJoint_8 : decode cX5_isJoint 8 = .ok (.bipush 10, 2) := by decide +kernel
theorem dX5_isJoint_10 : decode cX5_isJoint 10 = .ok (.imul, 1) := by decide +kernel
theorem dX5_isJoint_11 : decode cX5_isJoint 11 = .ok (.iload_n 2, 1) := by decide +kernel
theorem dX5_isJoint_12 : decode cX5_isJoint 12 = .ok (.iadd, 1) := by decide +kernel
theorem dX5_isJoint_13 : decode cX5_isJoint 13 = .ok (.iaload, 1) := by decide +kernel
theorem dX5_isJoint_14 : decode cX5_isJoint 14 = .ok (.iconst 1, 1) := by decide +kernel
theorem dX5_isJoint_15 : decode cX5_isJoint 15 = .ok (.if_icmp .ne 35, 3) := by decide +kernel
theorem dX5_isJoint_18 : decode cX5_isJoint 18 = .ok (.aload_n 0, 1) := by decide +kernel
theorem dX5_isJoint_19 : decode cX5_isJoint 19 = .ok (.getfield 12, 3) := by decide +kernel
theorem dX5_isJoint_22 : decode cX5_isJoint 22 = .ok (.getfield 79, 3) := by decide +kernel
theorem dX5_isJoint_25 : decode cX5_isJoint 25 = .ok (.iload_n 3, 1) := by decide +kernel
theorem dX5_isJoint_26 : decode cX5_isJoint 26 = .ok (.bipush 10, 2) := by decide +kernel
theorem dX5_isJoint_28 : decode cX5_isJoint 28 = .ok (.imul, 1) := by decide +kernel
theorem dX5_isJoint_29 : decode cX5_isJoint 29 = .ok (.iload_n 2, 1) := by decide +kernel
theorem dX5_isJoint_30 : decode cX5_isJoint 30 = .ok (.iadd, 1) := by decide +kernel
theorem dX5_isJoint_31 : decode cX5_isJoint 31 = .ok (.iaload, 1) := by decide +kernel
theorem dX5_isJoint_32 : decode cX5_isJoint 32 = .ok (.iconst 1, 1) := by decide +kernel
theorem dX5_isJoint_33 : decode cX5_isJoint 33 = .ok (.if_icmp .ne 17, 3) := by decide +kernel
theorem dX5_isJoint_36 : decode cX5_isJoint 36 = .ok (.aload_n 0, 1) := by decide +kernel
theorem dX5_isJoint_37 : decode cX5_isJoint 37 = .ok (.getfield 12, 3) := by decide +kernel
theorem dX5_isJoint_40 : decode cX5_isJoint 40 = .ok (.iload_n 3, 1) := by decide +kernel
theorem dX5_isJoint_41 : decode cX5_isJoint 41 = .ok (.invokevirtual 136, 3) := by decide +kernel
theorem dX5_isJoint_44 : decode cX5_isJoint 44 = .ok (.iconst 1, 1) := by decide +kernel
theorem dX5_isJoint_45 : decode cX5_isJoint 45 = .ok (.iload_n 2, 1) := by decide +kernel
theorem dX5_isJoint_46 : decode cX5_isJoint 46 = .ok (.ishl, 1) := by decide +kernel
theorem dX5_isJoint_47 : decode cX5_isJoint 47 = .ok (.if_icmp .eq 5, 3) := by decide +kernel
theorem dX5_isJoint_50 : decode cX5_isJoint 50 = .ok (.iconst 0, 1) := by decide +kernel
theorem dX5_isJoint_51 : decode cX5_isJoint 51 = .ok (.ireturn, 1) := by decide +kernel
theorem dX5_isJoint_52 : decode cX5_isJoint 52 = .ok (.iconst 0, 1) := by decide +kernel
theorem dX5_isJoint_53 : decode cX5_isJoint 53 = .ok (.istore 4, 2) := by decide +kernel
theorem dX5_isJoint_55 : decode cX5_isJoint 55 = .ok (.iload 4, 2) := by decide +kernel
theorem dX5_isJoint_57 : decode cX5_isJoint 57 = .ok (.aload_n 0, 1) := by decide +kernel
theorem dX5_isJoint_58 : decode cX5_isJoint 58 = .ok (.getfield 12, 3) := by decide +kernel
theorem dX5_isJoint_61 : decode cX5_isJoint 61 = .ok (.getfield 69, 3) := by decide +kernel
theorem dX5_isJoint_64 : decode cX5_isJoint 64 = .ok (.if_icmp .ge 50, 3) := by decide +kernel
theorem dX5_isJoint_67 : decode cX5_isJoint 67 = .ok (.aload_n 0, 1) := by decide +kernel
theorem dX5_isJoint_68 : decode cX5_isJoint 68 = .ok (.getfield 12, 3) := by decide +kernel
theorem dX5_isJoint_71 : decode cX5_isJoint 71 = .ok (.getfield 86, 3) := by decide +kernel
theorem dX5_isJoint_74 : decode cX5_isJoint 74 = .ok (.iload_n 1, 1) := by decide +kernel
theorem dX5_isJoint_75 : decode cX5_isJoint 75 = .ok (.bipush 10, 2) := by decide +kernel
theorem dX5_isJoint_77 : decode cX5_isJoint 77 = .ok (.imul, 1) := by decide +kernel
theorem dX5_isJoint_78 : decode cX5_isJoint 78 = .ok (.iload 4, 2) := by decide +kernel
theorem dX5_isJoint_80 : decode cX5_isJoint 80 = .ok (.iadd, 1) := by decide +kernel
theorem dX5_isJoint_81 : decode cX5_isJoint 81 = .ok (.iaload, 1) := by decide +kernel
theorem dX5_isJoint_82 : decode cX5_isJoint 82 = .ok (.aload_n 0, 1) := by decide +kernel
theorem dX5_isJoint_83 : decode cX5_isJoint 83 = .ok (.getfield 12, 3) := by decide +kernel
theorem dX5_isJoint_86 : decode cX5_isJoint 86 = .ok (.getfield 86, 3) := by decide +kernel
theorem dX5_isJoint_89 : decode cX5_isJoint 89 = .ok (.iload_n 3, 1) := by decide +kernel
theorem dX5_isJoint_90 : decode cX5_isJoint 90 = .ok (.bipush 10, 2) := by decide +kernel
theorem dX5_isJoint_92 : decode cX5_isJoint 92 = .ok (.imul, 1) := by decide +kernel
theorem dX5_isJoint_93 : decode cX5_isJoint 93 = .ok (.iload 4, 2) := by decide +kernel
theorem dX5_isJoint_95 : decode cX5_isJoint 95 = .ok (.iadd, 1) := by decide +kernel
theorem dX5_isJoint_96 : decode cX5_isJoint 96 = .ok (.iaload, 1) := by decide +kernel
theorem dX5_isJoint_97 : decode cX5_isJoint 97 = .ok (.iadd, 1) := by decide +kernel
theorem dX5_isJoint_98 : decode cX5_isJoint 98 = .ok (.istore 5, 2) := by decide +kernel
theorem dX5_isJoint_100 : decode cX5_isJoint 100 = .ok (.iload 5, 2) := by decide +kernel
theorem dX5_isJoint_102 : decode cX5_isJoint 102 = .ok (.iconst 3, 1) := by decide +kernel
theorem dX5_isJoint_103 : decode cX5_isJoint 103 = .ok (.if_icmp .le 5, 3) := by decide +kernel
theorem dX5_isJoint_106 : decode cX5_isJoint 106 = .ok (.iconst 0, 1) := by decide +kernel
theorem dX5_isJoint_107 : decode cX5_isJoint 107 = .ok (.ireturn, 1) := by decide +kernel
theorem dX5_isJoint_108 : decode cX5_isJoint 108 = .ok (.iinc 4 1, 3) := by decide +kernel
theorem dX5_isJoint_111 : decode cX5_isJoint 111 = .ok (.goto (-56), 3) := by decide +kernel
theorem dX5_isJoint_114 : decode cX5_isJoint 114 = .ok (.iconst 1, 1) := by decide +kernel
theorem dX5_isJoint_115 : decode cX5_isJoint 115 = .ok (.ireturn, 1) := by decide +kernel
theorem dX5_joinPlaces_0 : decode cX5_joinPlaces 0 = .ok (.iconst 0, 1) := by decide +kernel
theorem dX5_joinPlaces_1 : decode cX5_joinPlaces 1 = .ok (.istore_n 1, 1) := by decide +kernel
theorem dX5_joinPlaces_2 : decode cX5_joinPlaces 2 = .ok (.iload_n 1, 1) := by decide +kernel
theorem dX5_joinPlaces_3 : decode cX5_joinPlaces 3 = .ok (.aload_n 0, 1) := by decide +kernel
theorem dX5_joinPlaces_4 : decode cX5_joinPlaces 4 = .ok (.getfield 12, 3) := by decide +kernel
theorem dX5_joinPlaces_7 : decode cX5_joinPlaces 7 = .ok (.getfield 93, 3) := by decide +kernel
theorem dX5_joinPlaces_10 : decode cX5_joinPlaces 10 = .ok (.if_icmp .ge 226, 3) := by decide +kernel
theorem dX5_joinPlaces_13 : decode cX5_joinPlaces 13 = .ok (.aload_n 0, 1) := by decide +kernel
theorem dX5_joinPlaces_14 : decode cX5_joinPlaces 14 = .ok (.getfield 12, 3) := by decide +kernel
theorem dX5_joinPlaces_17 : decode cX5_joinPlaces 17 = .ok (.iload_n 1, 1) := by decide +kernel
theorem dX5_joinPlaces_18 : decode cX5_joinPlaces 18 = .ok (.invokevirtual 96, 3) := by decide +kernel
theorem dX5_joinPlaces_21 : decode cX5_joinPlaces 21 = .ok (.ifCond .eq 209, 3) := by decide +kernel
theorem dX5_joinPlaces_24 : decode cX5_joinPlaces 24 = .ok (.aload_n 0, 1) := by decide +kernel
theorem dX5_joinPlaces_25 : decode cX5_joinPlaces 25 = .ok (.getfield 12, 3) := by decide +kernel
theorem dX5_joinPlaces_28 : decode cX5_joinPlaces 28 = .ok (.aload_n 0, 1) := by decide +kernel
theorem dX5_joinPlaces_29 : decode cX5_joinPlaces 29 = .ok (.getfield 12, 3) := by decide +kernel
theorem dX5_joinPlaces_32 : decode cX5_joinPlaces 32 = .ok (.getfield 79, 3) := by decide +kernel
theorem dX5_joinPlaces_35 : decode cX5_joinPlaces 35 = .ok (.iload_n 1, 1) := by decide +kernel
theorem dX5_joinPlaces_36 : decode cX5_joinPlaces 36 = .ok (.invokevirtual 139, 3) := by decide +kernel
theorem dX5_joinPlaces_39 : decode cX5_joinPlaces 39 = .ok (.iconst 1, 1) := by decide +kernel
theorem dX5_joinPlaces_40 : decode cX5_joinPlaces 40 = .ok (.if_icmp .ne 190, 3) := by decide +kernel
theorem dX5_joinPlaces_43 : decode cX5_joinPlaces 43 = .ok (.aload_n 0, 1) := by decide +kernel
theorem dX5_joinPlaces_44 : decode cX5_joinPlaces 44 = .ok (.getfield 12, 3) := by decide +kernel
theorem dX5_joinPlaces_47 : decode cX5_joinPlaces 47 = .ok (.aload_n 0, 1) := by decide +kernel
theorem dX5_joinPlaces_48 : decode cX5_joinPlaces 48 = .ok (.getfield 12, 3) := by decide +kernel
theorem dX5_joinPlaces_51 : decode cX5_joinPlaces 51 = .ok (.getfield 86, 3) := by decide +kernel
theorem dX5_joinPlaces_54 : decode cX5_joinPlaces 54 = .ok (.iload_n 1, 1) := by decide +kernel
theorem dX5_joinPlaces_55 : decode cX5_joinPlaces 55 = .ok (.invokevirtual 139, 3) := by decide +kernel
theorem dX5_joinPlaces_58 : decode cX5_joinPlaces 58 = .ok (.iconst 1, 1) := by decide +kernel
theorem dX5_joinPlaces_59 : decode cX5_joinPlaces 59 = .ok (.if_icmp .eq 6, 3) := by decide +kernel
theorem dX5_joinPlaces_62 : decode cX5_joinPlaces 62 = .ok (.goto 168, 3) := by decide +kernel
theorem dX5_joinPlaces_65 : decode cX5_joinPlaces 65 = .ok (.aload_n 0, 1) := by decide +kernel
theorem dX5_joinPlaces_66 : decode cX5_joinPlaces 66 = .ok (.getfield 12, 3) := by decide +kernel
theorem dX5_joinPlaces_69 : decode cX5_joinPlaces 69 = .ok (.iload_n 1, 1) := by decide +kernel
theorem dX5_joinPlaces_70 : decode cX5_joinPlaces 70 = .ok (.invokevirtual 136, 3) := by decide +kernel
theorem dX5_joinPlaces_73 : decode cX5_joinPlaces 73 = .ok (.iconst 0, 1) := by decide +kernel
theorem dX5_joinPlaces_74 : decode cX5_joinPlaces 74 = .ok (.invokestatic 142, 3) := by decide +kernel
theorem dX5_joinPlaces_77 : decode cX5_joinPlaces 77 = .ok (.istore_n 2, 1) := by decide +kernel
theorem dX5_joinPlaces_78 : decode cX5_joinPlaces 78 = .ok (.aload_n 0, 1) := by decide +kernel
theorem dX5_joinPlaces_79 : decode cX5_joinPlaces 79 = .ok (.getfield 12, 3) := by decide +kernel
theorem dX5_joinPlaces_82 : decode cX5_joinPlaces 82 = .ok (.iload_n 1, 1) := by decide +kernel
theorem dX5_joinPlaces_83 : decode cX5_joinPlaces 83 = .ok (.invokevirtual 145, 3) := by decide +kernel
theorem dX5_joinPlaces_86 : decode cX5_joinPlaces 86 = .ok (.iconst 0, 1) := by decide +kernel
theorem dX5_joinPlaces_87 : decode cX5_joinPlaces 87 = .ok (.invokestatic 142, 3) := by decide +kernel
theorem dX5_joinPlaces_90 : decode cX5_joinPlaces 90 = .ok (.istore_n 3, 1) := by decide +kernel
theorem dX5_joinPlaces_91 : decode cX5_joinPlaces 91 = .ok (.iload_n 2, 1) := by decide +kernel
theorem dX5_joinPlaces_92 : decode cX5_joinPlaces 92 = .ok (.iload_n 3, 1) := by decide +kernel
theorem dX5_joinPlaces_93 : decode cX5_joinPlaces 93 = .ok (.if_icmp .eq 137, 3) := by decide +kernel
theorem dX5_joinPlaces_96 : decode cX5_joinPlaces 96 = .ok (.aload_n 0, 1) := by decide +kernel
theorem dX5_joinPlaces_97 : decode cX5_joinPlaces 97 = .ok (.getfield 12, 3) := by decide +kernel
theorem dX5_joinPlaces_100 : decode cX5_joinPlaces 100 = .ok (.iload_n 2, 1) := by decide +kernel
theorem dX5_joinPlaces_101 : decode cX5_joinPlaces 101 = .ok (.invokevirtual 72, 3) := by decide +kernel
theorem dX5_joinPlaces_104 : decode cX5_joinPlaces 104 = .ok (.ifCond .eq 126, 3) := by decide +kernel
theorem dX5_joinPlaces_107 : decode cX5_joinPlaces 107 = .ok (.aload_n 0, 1) := by decide +kernel
theorem dX5_joinPlaces_108 : decode cX5_joinPlaces 108 = .ok (.getfield 12, 3) := by decide +kernel
theorem dX5_joinPlaces_111 : decode cX5_joinPlaces 111 = .ok (.iload_n 3, 1) := by decide +kernel
theorem dX5_joinPlaces_112 : decode cX5_joinPlaces 112 = .ok (.invokevirtual 72, 3) := by decide +kernel
theorem dX5_joinPlaces_115 : decode cX5_joinPlaces 115 = .ok (.ifCond .eq 115, 3) := by decide +kernel
theorem dX5_joinPlaces_118 : decode cX5_joinPlaces 118 = .ok (.aload_n 0, 1) := by decide +kernel
theorem dX5_joinPlaces_119 : decode cX5_joinPlaces 119 = .ok (.getfield 12, 3) := by decide +kernel
theorem dX5_joinPlaces_122 : decode cX5_joinPlaces 122 = .ok (.aload_n 0, 1) := by decide +kernel
theorem dX5_joinPlaces_123 : decode cX5_joinPlaces 123 = .ok (.getfield 12, 3) := by decide +kernel
theorem dX5_joinPlaces_126 : decode cX5_joinPlaces 126 = .ok (.getfield 79, 3) := by decide +kernel
theorem dX5_joinPlaces_129 : decode cX5_joinPlaces 129 = .ok (.iload_n 2, 1) := by decide +kernel
theorem dX5_joinPlaces_130 : decode cX5_joinPlaces 130 = .ok (.invokevirtual 129, 3) := by decide +kernel
theorem dX5_joinPlaces_133 : decode cX5_joinPlaces 133 = .ok (.iload_n 1, 1) := by decide +kernel
theorem dX5_joinPlaces_134 : decode cX5_joinPlaces 134 = .ok (.if_icmp .ne 96, 3) := by decide +kernel
theorem dX5_joinPlaces_137 : decode cX5_joinPlaces 137 = .ok (.aload_n 0, 1) := by decide +kernel
theorem dX5_joinPlaces_138 : decode cX5_joinPlaces 138 = .ok (.iload_n 2, 1) := by decide +kernel
theorem dX5_joinPlaces_139 : decode cX5_joinPlaces 139 = .ok (.iload_n 3, 1) := by decide +kernel
theorem dX5_joinPlaces_140 : decode cX5_joinPlaces 140 = .ok (.invokevirtual 148, 3) := by decide +kernel
theorem dX5_joinPlaces_143 : decode cX5_joinPlaces 143 = .ok (.ifCond .eq 87, 3) := by decide +kernel
theorem dX5_joinPlaces_146 : decode cX5_joinPlaces 146 = .ok (.aload_n 0, 1) := by decide +kernel
theorem dX5_joinPlaces_147 : decode cX5_joinPlaces 147 = .ok (.getfield 12, 3) := by decide +kernel
theorem dX5_joinPlaces_150 : decode cX5_joinPlaces 150 = .ok (.getfield 76, 3) := by decide +kernel
theorem dX5_joinPlaces_153 : decode cX5_joinPlaces 153 = .ok (.iload_n 3, 1) := by decide +kernel
theorem dX5_joinPlaces_154 : decode cX5_joinPlaces 154 = .ok (.dup2, 1) := by decide +kernel
theorem dX5_joinPlaces_155 : decode cX5_joinPlaces 155 = .ok (.iaload, 1) := by decide +kernel
theorem dX5_joinPlaces_156 : decode cX5_joinPlaces 156 = .ok (.aload_n 0, 1) := by decide +kernel
theorem dX5_joinPlaces_157 : decode cX5_joinPlaces 157 = .ok (.getfield 12, 3) := by decide +kernel
theorem dX5_joinPlaces_160 : decode cX5_joinPlaces 160 = .ok (.getfield 76, 3) := by decide +kernel
theorem dX5_joinPlaces_163 : decode cX5_joinPlaces 163 = .ok (.iload_n 2, 1) := by decide +kernel
theorem dX5_joinPlaces_164 : decode cX5_joinPlaces 164 = .ok (.iaload, 1) := by decide +kernel
theorem dX5_joinPlaces_165 : decode cX5_joinPlaces 165 = .ok (.iadd, 1) := by decide +kernel
theorem dX5_joinPlaces_166 : decode cX5_joinPlaces 166 = .ok (.iastore, 1) := by decide +kernel
theorem dX5_joinPlaces_167 : decode cX5_joinPlaces 167 = .ok (.iconst 0, 1) := by decide +kernel
theorem dX5_joinPlaces_168 : decode cX5_joinPlaces 168 = .ok (.istore 4, 2) := by decide +kernel
theorem dX5_joinPlaces_170 : decode cX5_joinPlaces 170 = .ok (.iload 4, 2) := by decide +kernel
theorem dX5_joinPlaces_172 : decode cX5_joinPlaces 172 = .ok (.aload_n 0, 1) := by decide +kernel
theorem dX5_joinPlaces_173 : decode cX5_joinPlaces 173 = .ok (.getfield 12, 3) := by decide +kernel
theorem dX5_joinPlaces_176 : decode cX5_joinPlaces 176 = .ok (.getfield 93, 3) := by decide +kernel
theorem dX5_joinPlaces_179 : decode cX5_joinPlaces 179 = .ok (.if_icmp .ge 42, 3) := by decide +kernel
theorem dX5_joinPlaces_182 : decode cX5_joinPlaces 182 = .ok (.aload_n 0, 1) := by decide +kernel
theorem dX5_joinPlaces_183 : decode cX5_joinPlaces 183 = .ok (.getfield 12, 3) := by decide +kernel
theorem dX5_joinPlaces_186 : decode cX5_joinPlaces 186 = .ok (.getfield 86, 3) := by decide +kernel
theorem dX5_joinPlaces_189 : decode cX5_joinPlaces 189 = .ok (.iload 4, 2) := by decide +kernel
theorem dX5_joinPlaces_191 : decode cX5_joinPlaces 191 = .ok (.bipush 10, 2) := by decide +kernel
theorem dX5_joinPlaces_193 : decode cX5_joinPlaces 193 = .ok (.imul, 1) := by decide +kernel
theorem dX5_joinPlaces_194 : decode cX5_joinPlaces 194 = .ok (.iload_n 3, 1) := by decide +kernel
theorem dX5_joinPlaces_195 : decode cX5_joinPlaces 195 = .ok (.iadd, 1) := by decide +kernel
theorem dX5_joinPlaces_196 : decode cX5_joinPlaces 196 = .ok (.dup2, 1) := by decide +kernel
theorem dX5_joinPlaces_197 : decode cX5_joinPlaces 197 = .ok (.iaload, 1) := by decide +kernel
theorem dX5_joinPlaces_198 : decode cX5_joinPlaces 198 = .ok (.aload_n 0, 1) := by decide +kernel
theorem dX5_joinPlaces_199 : decode cX5_joinPlaces 199 = .ok (.getfield 12, 3) := by decide +kernel
theorem dX5_joinPlaces_202 : decode cX5_joinPlaces 202 = .ok (.getfield 86, 3) := by decide +kernel
theorem dX5_joinPlaces_205 : decode cX5_joinPlaces 205 = .ok (.iload 4, 2) := by decide +kernel
theorem dX5_joinPlaces_207 : decode cX5_joinPlaces 207 = .ok (.bipush 10, 2) := by decide +kernel
theorem dX5_joinPlaces_209 : decode cX5_joinPlaces 209 = .ok (.imul, 1) := by decide +kernel
theorem dX5_joinPlaces_210 : decode cX5_joinPlaces 210 = .ok (.iload_n 2, 1) := by decide +kernel
theorem dX5_joinPlaces_211 : decode cX5_joinPlaces 211 = .ok (.iadd, 1) := by decide +kernel
theorem dX5_joinPlaces_212 : decode cX5_joinPlaces 212 = .ok (.iaload, 1) := by decide +kernel
theorem dX5_joinPlaces_213 : decode cX5_joinPlaces 213 = .ok (.iadd, 1) := by decide +kernel
theorem dX5_joinPlaces_214 : decode cX5_joinPlaces 214 = .ok (.iastore, 1) := by decide +kernel
theorem dX5_joinPlaces_215 : decode cX5_joinPlaces 215 = .ok (.iinc 4 1, 3) := by decide +kernel
theorem dX5_joinPlaces_218 : decode cX5_joinPlaces 218 = .ok (.goto (-48), 3) := by decide +kernel
theorem dX5_joinPlaces_221 : decode cX5_joinPlaces 221 = .ok (.aload_n 0, 1) := by decide +kernel
theorem dX5_joinPlaces_222 : decode cX5_joinPlaces 222 = .ok (.bipush 6, 2) := by decide +kernel
theorem dX5_joinPlaces_224 : decode cX5_joinPlaces 224 = .ok (.iload_n 2, 1) := by decide +kernel
theorem dX5_joinPlaces_225 : decode cX5_joinPlaces 225 = .ok (.iload_n 1, 1) := by decide +kernel
theorem dX5_joinPlaces_226 : decode cX5_joinPlaces 226 = .ok (.invokevirtual 89, 3) := by decide +kernel
theorem dX5_joinPlaces_229 : decode cX5_joinPlaces 229 = .ok (.ireturn, 1) := by decide +kernel
theorem dX5_joinPlaces_230 : decode cX5_joinPlaces 230 = .ok (.iinc 1 1, 3) := by decide +kernel
theorem dX5_joinPlaces_233 : decode cX5_joinPlaces 233 = .ok (.goto (-231), 3) := by decide +kernel
theorem dX5_joinPlaces_236 : decode cX5_joinPlaces 236 = .ok (.iconst 0, 1) := by decide +kernel
theorem dX5_joinPlaces_237 : decode cX5_joinPlaces 237 = .ok (.ireturn, 1) := by decide +kernel
theorem dX5_canJoin_0 : decode cX5_canJoin 0 = .ok (.aload_n 0, 1) := by decide +kernel
theorem dX5_canJoin_1 : decode cX5_canJoin 1 = .ok (.getfield 12, 3) := by decide +kernel
theorem dX5_canJoin_4 : decode cX5_canJoin 4 = .ok (.getfield 76, 3) := by decide +kernel
theorem dX5_canJoin_7 : decode cX5_canJoin 7 = .ok (.iload_n 1, 1) := by decide +kernel
theorem dX5_canJoin_8 : decode cX5_canJoin 8 = .ok (.iaload, 1) := by decide +kernel
theorem dX5_canJoin_9 : decode cX5_canJoin 9 = .ok (.aload_n 0, 1) := by decide +kernel
theorem dX5_canJoin_10 : decode cX5_canJoin 10 = .ok (.getfield 12, 3) := by decide +kernel
theorem dX5_canJoin_13 : decode cX5_canJoin 13 = .ok (.getfield 76, 3) := by decide +kernel
theorem dX5_canJoin_16 : decode cX5_canJoin 16 = .ok (.iload_n 2, 1) := by decide +kernel
theorem dX5_canJoin_17 : decode cX5_canJoin 17 = .ok (.iaload, 1) := by decide +kernel
theorem dX5_canJoin_18 : decode cX5_canJoin 18 = .ok (.iadd, 1) := by decide +kernel
theorem dX5_canJoin_19 : decode cX5_canJoin 19 = .ok (.sipush 999, 3) := by decide +kernel
theorem dX5_canJoin_22 : decode cX5_canJoin 22 = .ok (.if_icmp .le 5, 3) := by decide +kernel
theorem dX5_canJoin_25 : decode cX5_canJoin 25 = .ok (.iconst 0, 1) := by decide +kernel
theorem dX5_canJoin_26 : decode cX5_canJoin 26 = .ok (.ireturn, 1) := by decide +kernel
theorem dX5_canJoin_27 : decode cX5_canJoin 27 = .ok (.iconst 0, 1) := by decide +kernel
theorem dX5_canJoin_28 : decode cX5_canJoin 28 = .ok (.istore_n 3, 1) := by decide +kernel
theorem dX5_canJoin_29 : decode cX5_canJoin 29 = .ok (.iload_n 3, 1) := by decide +kernel
theorem dX5_canJoin_30 : decode cX5_canJoin 30 = .ok (.aload_n 0, 1) := by decide +kernel
theorem dX5_canJoin_31 : decode cX5_canJoin 31 = .ok (.getfield 12, 3) := by decide +kernel
theorem dX5_canJoin_34 : decode cX5_canJoin 34 = .ok (.getfield 93, 3) := by decide +kernel
theorem dX5_canJoin_37 : decode cX5_canJoin 37 = .ok (.if_icmp .ge 48, 3) := by decide +kernel
theorem dX5_canJoin_40 : decode cX5_canJoin 40 = .ok (.aload_n 0, 1) := by decide +kernel
theorem dX5_canJoin_41 : decode cX5_canJoin 41 = .ok (.getfield 12, 3) := by decide +kernel
theorem dX5_canJoin_44 : decode cX5_canJoin 44 = .ok (.getfield 86, 3) := by decide +kernel
theorem dX5_canJoin_47 : decode cX5_canJoin 47 = .ok (.iload_n 3, 1) := by decide +kernel
theorem dX5_canJoin_48 : decode cX5_canJoin 48 = .ok (.bipush 10, 2) := by decide +kernel
theorem dX5_canJoin_50 : decode cX5_canJoin 50 = .ok (.imul, 1) := by decide +kernel
theorem dX5_canJoin_51 : decode cX5_canJoin 51 = .ok (.iload_n 1, 1) := by decide +kernel
theorem dX5_canJoin_52 : decode cX5_canJoin 52 = .ok (.iadd, 1) := by decide +kernel
theorem dX5_canJoin_53 : decode cX5_canJoin 53 = .ok (.iaload, 1) := by decide +kernel
theorem dX5_canJoin_54 : decode cX5_canJoin 54 = .ok (.aload_n 0, 1) := by decide +kernel
theorem dX5_canJoin_55 : decode cX5_canJoin 55 = .ok (.getfield 12, 3) := by decide +kernel
theorem dX5_canJoin_58 : decode cX5_canJoin 58 = .ok (.getfield 86, 3) := by decide +kernel
theorem dX5_canJoin_61 : decode cX5_canJoin 61 = .ok (.iload_n 3, 1) := by decide +kernel
theorem dX5_canJoin_62 : decode cX5_canJoin 62 = .ok (.bipush 10, 2) := by decide +kernel
theorem dX5_canJoin_64 : decode cX5_canJoin 64 = .ok (.imul, 1) := by decide +kernel
theorem dX5_canJoin_65 : decode cX5_canJoin 65 = .ok (.iload_n 2, 1) := by decide +kernel
theorem dX5_canJoin_66 : decode cX5_canJoin 66 = .ok (.iadd, 1) := by decide +kernel
theorem dX5_canJoin_67 : decode cX5_canJoin 67 = .ok (.iaload, 1) := by decide +kernel
theorem dX5_canJoin_68 : decode cX5_canJoin 68 = .ok (.iadd, 1) := by decide +kernel
theorem dX5_canJoin_69 : decode cX5_canJoin 69 = .ok (.istore 4, 2) := by decide +kernel
theorem dX5_canJoin_71 : decode cX5_canJoin 71 = .ok (.iload 4, 2) := by decide +kernel
theorem dX5_canJoin_73 : decode cX5_canJoin 73 = .ok (.iconst 3, 1) := by decide +kernel
theorem dX5_canJoin_74 : decode cX5_canJoin 74 = .ok (.if_icmp .le 5, 3) := by decide +kernel
theorem dX5_canJoin_77 : decode cX5_canJoin 77 = .ok (.iconst 0, 1) := by decide +kernel
theorem dX5_canJoin_78 : decode cX5_canJoin 78 = .ok (.ireturn, 1) := by decide +kernel
theorem dX5_canJoin_79 : decode cX5_canJoin 79 = .ok (.iinc 3 1, 3) := by decide +kernel
theorem dX5_canJoin_82 : decode cX5_canJoin 82 = .ok (.goto (-53), 3) := by decide +kernel
theorem dX5_canJoin_85 : decode cX5_canJoin 85 = .ok (.iconst 1, 1) := by decide +kernel
theorem dX5_canJoin_86 : decode cX5_canJoin 86 = .ok (.ireturn, 1) := by decide +kernel
theorem dX6_init_0 : decode cX6_init 0 = .ok (.aload_n 0, 1) := by decide +kernel
theorem dX6_init_1 : decode cX6_init 1 = .ok (.invokespecial 3, 3) := by decide +kernel
theorem dX6_init_4 : decode cX6_init 4 = .ok (.aload_n 0, 1) := by decide +kernel
theorem dX6_init_5 : decode cX6_init 5 = .ok (.bipush 10, 2) := by decide +kernel
theorem dX6_init_7 : decode cX6_init 7 = .ok (.newarray .int, 2) := by decide +kernel
theorem dX6_init_9 : decode cX6_init 9 = .ok (.putfield 9, 3) := by decide +kernel
theorem dX6_init_12 : decode cX6_init 12 = .ok (.aload_n 0, 1) := by decide +kernel
theorem dX6_init_13 : decode cX6_init 13 = .ok (.bipush 90, 2) := by decide +kernel
theorem dX6_init_15 : decode cX6_init 15 = .ok (.newarray .long, 2) := by decide +kernel
theorem dX6_init_17 : decode cX6_init 17 = .ok (.putfield 15, 3) := by decide +kernel
theorem dX6_init_20 : decode cX6_init 20 = .ok (.aload_n 0, 1) := by decide +kernel
theorem dX6_init_21 : decode cX6_init 21 = .ok (.bipush 8, 2) := by decide +kernel
theorem dX6_init_23 : decode cX6_init 23 = .ok (.newarray .int, 2) := by decide +kernel
theorem dX6_init_25 : decode cX6_init 25 = .ok (.putfield 19, 3) := by decide +kernel
theorem dX6_init_28 : decode cX6_init 28 = .ok (.aload_n 0, 1) := by decide +kernel
theorem dX6_init_29 : decode cX6_init 29 = .ok (.bipush 8, 2) := by decide +kernel
theorem dX6_init_31 : decode cX6_init 31 = .ok (.newarray .int, 2) := by decide +kernel
theorem dX6_init_33 : decode cX6_init 33 = .ok (.putfield 22, 3) := by decide +kernel
theorem dX6_init_36 : decode cX6_init 36 = .ok (.aload_n 0, 1) := by decide +kernel
theorem dX6_init_37 : decode cX6_init 37 = .ok (.bipush 8, 2) := by decide +kernel
theorem dX6_init_39 : decode cX6_init 39 = .ok (.newarray .int, 2) := by decide +kernel
theorem dX6_init_41 : decode cX6_init 41 = .ok (.putfield 25, 3) := by decide +kernel
theorem dX6_init_44 : decode cX6_init 44 = .ok (.aload_n 0, 1) := by decide +kernel
theorem dX6_init_45 : decode cX6_init 45 = .ok (.bipush 12, 2) := by decide +kernel
theorem dX6_init_47 : decode cX6_init 47 = .ok (.newarray .int, 2) := by decide +kernel
theorem dX6_init_49 : decode cX6_init 49 = .ok (.putfield 28, 3) := by decide +kernel
theorem dX6_init_52 : decode cX6_init 52 = .ok (.aload_n 0, 1) := by decide +kernel
theorem dX6_init_53 : decode cX6_init 53 = .ok (.sipush 130, 3) := by decide +kernel
theorem dX6_init_56 : decode cX6_init 56 = .ok (.newarray .int, 2) := by decide +kernel
theorem dX6_init_58 : decode cX6_init 58 = .ok (.putfield 31, 3) := by decide +kernel
theorem dX6_init_61 : decode cX6_init 61 = .ok (.aload_n 0, 1) := by decide +kernel
theorem dX6_init_62 : decode cX6_init 62 = .ok (.bipush 8, 2) := by decide +kernel
theorem dX6_init_64 : decode cX6_init 64 = .ok (.newarray .int, 2) := by decide +kernel
theorem dX6_init_66 : decode cX6_init 66 = .ok (.putfield 34, 3) := by decide +kernel
theorem dX6_init_69 : decode cX6_init 69 = .ok (.aload_n 0, 1) := by decide +kernel
theorem dX6_init_70 : decode cX6_init 70 = .ok (.sipush 1296, 3) := by decide +kernel
theorem dX6_init_73 : decode cX6_init 73 = .ok (.newarray .byte, 2) := by decide +kernel
theorem dX6_init_75 : decode cX6_init 75 = .ok (.putfield 37, 3) := by decide +kernel
theorem dX6_init_78 : decode cX6_init 78 = .ok (.aload_n 0, 1) := by decide +kernel
theorem dX6_init_79 : decode cX6_init 79 = .ok (.iconst (-1), 1) := by decide +kernel
theorem dX6_init_80 : decode cX6_init 80 = .ok (.putfield 41, 3) := by decide +kernel
theorem dX6_init_83 : decode cX6_init 83 = .ok (.aload_n 0, 1) := by decide +kernel
theorem dX6_init_84 : decode cX6_init 84 = .ok (.iconst 0, 1) := by decide +kernel
theorem dX6_init_85 : decode cX6_init 85 = .ok (.putfield 45, 3) := by decide +kernel
theorem dX6_init_88 : decode cX6_init 88 = .ok (.aload_n 0, 1) := by decide +kernel
theorem dX6_init_89 : decode cX6_init 89 = .ok (.iconst 0, 1) := by decide +kernel
theorem dX6_init_90 : decode cX6_init 90 = .ok (.putfield 48, 3) := by decide +kernel
theorem dX6_init_93 : decode cX6_init 93 = .ok (.aload_n 0, 1) := by decide +kernel
theorem dX6_init_94 : decode cX6_init 94 = .ok (.iconst (-1), 1) := by decide +kernel
theorem dX6_init_95 : decode cX6_init 95 = .ok (.putfield 51, 3) := by decide +kernel
theorem dX6_init_98 : decode cX6_init 98 = .ok (.aload_n 0, 1) := by decide +kernel
theorem dX6_init_99 : decode cX6_init 99 = .ok (.iconst 0, 1) := by decide +kernel
theorem dX6_init_100 : decode cX6_init 100 = .ok (.putfield 54, 3) := by decide +kernel
theorem dX6_init_103 : decode cX6_init 103 = .ok (.aload_n 0, 1) := by decide +kernel
theorem dX6_init_104 : decode cX6_init 104 = .ok (.iconst 0, 1) := by decide +kernel
theorem dX6_init_105 : decode cX6_init 105 = .ok (.putfield 58, 3) := by decide +kernel
theorem dX6_init_108 : decode cX6_init 108 = .ok (.return_, 1) := by decide +kernel
theorem dX6_forgetAims_0 : decode cX6_forgetAims 0 = .ok (.aload_n 0, 1) := by decide +kernel
theorem dX6_forgetAims_1 : decode cX6_forgetAims 1 = .ok (.getfield 9, 3) := by decide +kernel
theorem dX6_forgetAims_4 : decode cX6_forgetAims 4 = .ok (.iconst 0, 1) := by decide +kernel
theorem dX6_forgetAims_5 : decode cX6_forgetAims 5 = .ok (.invokestatic 61, 3) := by decide +kernel
theorem dX6_forgetAims_8 : decode cX6_forgetAims 8 = .ok (.aload_n 0, 1) := by decide +kernel
theorem dX6_forgetAims_9 : decode cX6_forgetAims 9 = .ok (.iconst (-1), 1) := by decide +kernel
theorem dX6_forgetAims_10 : decode cX6_forgetAims 10 = .ok (.putfield 51, 3) := by decide +kernel
theorem dX6_forgetAims_13 : decode cX6_forgetAims 13 = .ok (.return_, 1) := by decide +kernel
theorem dX6_putAim_0 : decode cX6_putAim 0 = .ok (.aload_n 0, 1) := by decide +kernel
theorem dX6_putAim_1 : decode cX6_putAim 1 = .ok (.getfield 9, 3) := by decide +kernel
theorem dX6_putAim_4 : decode cX6_putAim 4 = .ok (.iload_n 1, 1) := by decide +kernel
theorem dX6_putAim_5 : decode cX6_putAim 5 = .ok (.iaload, 1) := by decide +kernel
theorem dX6_putAim_6 : decode cX6_putAim 6 = .ok (.istore_n 3, 1) := by decide +kernel
theorem dX6_putAim_7 : decode cX6_putAim 7 = .ok (.aload_n 0, 1) := by decide +kernel
theorem dX6_putAim_8 : decode cX6_putAim 8 = .ok (.getfield 9, 3) := by decide +kernel
theorem dX6_putAim_11 : decode cX6_putAim 11 = .ok (.iload_n 1, 1) := by decide +kernel
theorem dX6_putAim_12 : decode cX6_putAim 12 = .ok (.iload_n 2, 1) := by decide +kernel
theorem dX6_putAim_13 : decode cX6_putAim 13 = .ok (.iastore, 1) := by decide +kernel
theorem dX6_putAim_14 : decode cX6_putAim 14 = .ok (.aload_n 0, 1) := by decide +kernel
theorem dX6_putAim_15 : decode cX6_putAim 15 = .ok (.iconst (-1), 1) := by decide +kernel
theorem dX6_putAim_16 : decode cX6_putAim 16 = .ok (.putfield 51, 3) := by decide +kernel
theorem dX6_putAim_19 : decode cX6_putAim 19 = .ok (.iload_n 3, 1) := by decide +kernel
theorem dX6_putAim_20 : decode cX6_putAim 20 = .ok (.ireturn, 1) := by decide +kernel
theorem dX6_isAimed_0 : decode cX6_isAimed 0 = .ok (.iconst 0, 1) := by decide +kernel
theorem dX6_isAimed_1 : decode cX6_isAimed 1 = .ok (.istore 4, 2) := by decide +kernel
theorem dX6_isAimed_3 : decode cX6_isAimed 3 = .ok (.iload 4, 2) := by decide +kernel
theorem dX6_isAimed_5 : decode cX6_isAimed 5 = .ok (.bipush 10, 2) := by decide +kernel
theorem dX6_isAimed_7 : decode cX6_isAimed 7 = .ok (.if_icmp .ge 37, 3) := by decide +kernel
theorem dX6_isAimed_10 : decode cX6_isAimed 10 = .ok (.iload_n 1, 1) := by decide +kernel
theorem dX6_isAimed_11 : decode cX6_isAimed 11 = .ok (.iload 4, 2) := by decide +kernel
theorem dX6_isAimed_13 : decode cX6_isAimed 13 = .ok (.ishr, 1) := by decide +kernel
theorem dX6_isAimed_14 : decode cX6_isAimed 14 = .ok (.iconst 1, 1) := by decide +kernel
theorem dX6_isAimed_15 : decode cX6_isAimed 15 = .ok (.iand, 1) := by decide +kernel
theorem dX6_isAimed_16 : decode cX6_isAimed 16 = .ok (.iconst 1, 1) := by decide +kernel
theorem dX6_isAimed_17 : decode cX6_isAimed 17 = .ok (.if_icmp .ne 21, 3) := by decide +kernel
theorem dX6_isAimed_20 : decode cX6_isAimed 20 = .ok (.aload_n 2, 1) := by decide +kernel
theorem dX6_isAimed_21 : decode cX6_isAimed 21 = .ok (.iload_n 3, 1) := by decide +kernel
theorem dX6_isAimed_22 : decode cX6_isAimed 22 = .ok (.iload 4, 2) := by decide +kernel
theorem dX6_isAimed_24 : decode cX6_isAimed 24 = .ok (.iadd, 1) := by decide +kernel
theorem dX6_isAimed_25 : decode cX6_isAimed 25 = .ok (.iaload, 1) := by decide +kernel
theorem dX6_isAimed_26 : decode cX6_isAimed 26 = .ok (.aload_n 0, 1) := by decide +kernel
theorem dX6_isAimed_27 : decode cX6_isAimed 27 = .ok (.getfield 9, 3) := by decide +kernel
theorem dX6_isAimed_30 : decode cX6_isAimed 30 = .ok (.iload 4, 2) := by decide +kernel
theorem dX6_isAimed_32 : decode cX6_isAimed 32 = .ok (.iaload, 1) := by decide +kernel
theorem dX6_isAimed_33 : decode cX6_isAimed 33 = .ok (.if_icmp .eq 5, 3) := by decide +kernel
theorem dX6_isAimed_36 : decode cX6_isAimed 36 = .ok (.iconst 0, 1) := by decide +kernel
theorem dX6_isAimed_37 : decode cX6_isAimed 37 = .ok (.ireturn, 1) := by decide +kernel
theorem dX6_isAimed_38 : decode cX6_isAimed 38 = .ok (.iinc 4 1, 3) := by decide +kernel
theorem dX6_isAimed_41 : decode cX6_isAimed 41 = .ok (.goto (-38), 3) := by decide +kernel
theorem dX6_isAimed_44 : decode cX6_isAimed 44 = .ok (.iconst 1, 1) := by decide +kernel
theorem dX6_isAimed_45 : decode cX6_isAimed 45 = .ok (.ireturn, 1) := by decide +kernel
theorem dX6_findCounts_0 : decode cX6_findCounts 0 = .ok (.aload_n 0, 1) := by decide +kernel
theorem dX6_findCounts_1 : decode cX6_findCounts 1 = .ok (.getfield 51, 3) := by decide +kernel
theorem dX6_findCounts_4 : decode cX6_findCounts 4 = .ok (.aload_n 1, 1) := by decide +kernel
theorem dX6_findCounts_5 : decode cX6_findCounts 5 = .ok (.getfield 67, 3) := by decide +kernel
theorem dX6_findCounts_8 : decode cX6_findCounts 8 = .ok (.if_icmp .ne 4, 3) := by decide +kernel
theorem dX6_findCounts_11 : decode cX6_findCounts 11 = .ok (.return_, 1) := by decide +kernel
theorem dX6_findCounts_12 : decode cX6_findCounts 12 = .ok (.aload_n 0, 1) := by decide +kernel
theorem dX6_findCounts_13 : decode cX6_findCounts 13 = .ok (.aload_n 1, 1) := by decide +kernel
theorem dX6_findCounts_14 : decode cX6_findCounts 14 = .ok (.getfield 67, 3) := by decide +kernel
theorem dX6_findCounts_17 : decode cX6_findCounts 17 = .ok (.putfield 51, 3) := by decide +kernel
theorem dX6_findCounts_20 : decode cX6_findCounts 20 = .ok (.aload_n 0, 1) := by decide +kernel
theorem dX6_findCounts_21 : decode cX6_findCounts 21 = .ok (.iconst 0, 1) := by decide +kernel
theorem dX6_findCounts_22 : decode cX6_findCounts 22 = .ok (.putfield 54, 3) := by decide +kernel
theorem dX6_findCounts_25 : decode cX6_findCounts 25 = .ok (.aload_n 0, 1) := by decide +kernel
theorem dX6_findCounts_26 : decode cX6_findCounts 26 = .ok (.iconst (-1), 1) := by decide +kernel
theorem dX6_findCounts_27 : decode cX6_findCounts 27 = .ok (.putfield 41, 3) := by decide +kernel
theorem dX6_findCounts_30 : decode cX6_findCounts 30 = .ok (.aload_n 0, 1) := by decide +kernel
theorem dX6_findCounts_31 : decode cX6_findCounts 31 = .ok (.bipush 12, 2) := by decide +kernel
theorem dX6_findCounts_33 : decode cX6_findCounts 33 = .ok (.putfield 45, 3) := by decide +kernel
theorem dX6_findCounts_36 : decode cX6_findCounts 36 = .ok (.aload_n 0, 1) := by decide +kernel
theorem dX6_findCounts_37 : decode cX6_findCounts 37 = .ok (.aload_n 1, 1) := by decide +kernel
theorem dX6_findCounts_38 : decode cX6_findCounts 38 = .ok (.invokevirtual 72, 3) := by decide +kernel
theorem dX6_findCounts_41 : decode cX6_findCounts 41 = .ok (.aload_n 0, 1) := by decide +kernel
theorem dX6_findCounts_42 : decode cX6_findCounts 42 = .ok (.aload_n 1, 1) := by decide +kernel
theorem dX6_findCounts_43 : decode cX6_findCounts 43 = .ok (.invokevirtual 76, 3) := by decide +kernel
theorem dX6_findCounts_46 : decode cX6_findCounts 46 = .ok (.aload_n 0, 1) := by decide +kernel
theorem dX6_findCounts_47 : decode cX6_findCounts 47 = .ok (.invokevirtual 79, 3) := by decide +kernel
theorem dX6_findCounts_50 : decode cX6_findCounts 50 = .ok (.ifCond .eq 9, 3) := by decide +kernel
theorem dX6_findCounts_53 : decode cX6_findCounts 53 = .ok (.aload_n 0, 1) := by decide +kernel
theorem dX6_findCounts_54 : decode cX6_findCounts 54 = .ok (.iconst 0, 1) := by decide +kernel
theorem dX6_findCounts_55 : decode cX6_findCounts 55 = .ok (.iconst 0, 1) := by decide +kernel
theorem dX6_findCounts_56 : decode cX6_findCounts 56 = .ok (.invokevirtual 83, 3) := by decide +kernel
theorem dX6_findCounts_59 : decode cX6_findCounts 59 = .ok (.return_, 1) := by decide +kernel
theorem dX6_findUseful_0 : decode cX6_findUseful 0 = .ok (.aload_n 0, 1) := by decide +kernel
theorem dX6_findUseful_1 : decode cX6_findUseful 1 = .ok (.iconst 0, 1) := by decide +kernel
theorem dX6_findUseful_2 : decode cX6_findUseful 2 = .ok (.putfield 48, 3) := by decide +kernel
theorem dX6_findUseful_5 : decode cX6_findUseful 5 = .ok (.iconst 0, 1) := by decide +kernel
theorem dX6_findUseful_6 : decode cX6_findUseful 6 = .ok (.istore_n 2, 1) := by decide +kernel
theorem dX6_findUseful_7 : decode cX6_findUseful 7 = .ok (.iload_n 2, 1) := by decide +kernel
theorem dX6_findUseful_8 : decode cX6_findUseful 8 = .ok (.bipush 8, 2) := by decide +kernel
theorem dX6_findUseful_10 : decode cX6_findUseful 10 = .ok (.if_icmp .ge 29, 3) := by decide +kernel
theorem dX6_findUseful_13 : decode cX6_findUseful 13 = .ok (.aload_n 1, 1) := by decide +kernel
theorem dX6_findUseful_14 : decode cX6_findUseful 14 = .ok (.iload_n 2, 1) := by decide +kernel
theorem dX6_findUseful_15 : decode cX6_findUseful 15 = .ok (.invokestatic 87, 3) := by decide +kernel
theorem dX6_findUseful_18 : decode cX6_findUseful 18 = .ok (.ifCond .eq 15, 3) := by decide +kernel
theorem dX6_findUseful_21 : decode cX6_findUseful 21 = .ok (.aload_n 0, 1) := by decide +kernel
theorem dX6_findUseful_22 : decode cX6_findUseful 22 = .ok (.dup, 1) := by decide +kernel
theorem dX6_findUseful_23 : decode cX6_findUseful 23 = .ok (.getfield 48, 3) := by decide +kernel
theorem dX6_findUseful_26 : decode cX6_findUseful 26 = .ok (.iconst 1, 1) := by decide +kernel
theorem dX6_findUseful_27 : decode cX6_findUseful 27 = .ok (.iload_n 2, 1) := by decide +kernel
theorem dX6_findUseful_28 : decode cX6_findUseful 28 = .ok (.ishl, 1) := by decide +kernel
theorem dX6_findUseful_29 : decode cX6_findUseful 29 = .ok (.ior, 1) := by decide +kernel
theorem dX6_findUseful_30 : decode cX6_findUseful 30 = .ok (.putfield 48, 3) := by decide +kernel
theorem dX6_findUseful_33 : decode cX6_findUseful 33 = .ok (.iinc 2 1, 3) := by decide +kernel
theorem dX6_findUseful_36 : decode cX6_findUseful 36 = .ok (.goto (-29), 3) := by decide +kernel
theorem dX6_findUseful_39 : decode cX6_findUseful 39 = .ok (.return_, 1) := by decide +kernel
theorem dX6_isUseful_0 : decode cX6_isUseful 0 = .ok (.iload_n 1, 1) := by decide +kernel
theorem dX6_isUseful_1 : decode cX6_isUseful 1 = .ok (.iconst 1, 1) := by decide +kernel
theorem dX6_isUseful_2 : decode cX6_isUseful 2 = .ok (.iadd, 1) := by decide +kernel
theorem dX6_isUseful_3 : decode cX6_isUseful 3 = .ok (.istore_n 2, 1) := by decide +kernel
theorem dX6_isUseful_4 : decode cX6_isUseful 4 = .ok (.iload_n 2, 1) := by decide +kernel
theorem dX6_isUseful_5 : decode cX6_isUseful 5 = .ok (.bipush 8, 2) := by decide +kernel
theorem dX6_isUseful_7 : decode cX6_isUseful 7 = .ok (.if_icmp .ge 20, 3) := by decide +kernel
theorem dX6_isUseful_10 : decode cX6_isUseful 10 = .ok (.aload_n 0, 1) := by decide +kernel
theorem dX6_isUseful_11 : decode cX6_isUseful 11 = .ok (.iload_n 1, 1) := by decide +kernel
theorem dX6_isUseful_12 : decode cX6_isUseful 12 = .ok (.iload_n 2, 1) := by decide +kernel
theorem dX6_isUseful_13 : decode cX6_isUseful 13 = .ok (.invokevirtual 91, 3) := by decide +kernel
theorem dX6_isUseful_16 : decode cX6_isUseful 16 = .ok (.ifCond .eq 5, 3) := by decide +kernel
theorem dX6_isUseful_19 : decode cX6_isUseful 19 = .ok (.iconst 0, 1) := by decide +kernel
theorem dX6_isUseful_20 : decode cX6_isUseful 20 = .ok (.ireturn, 1) := by decide +kernel
theorem dX6_isUseful_21 : decode cX6_isUseful 21 = .ok (.iinc 2 1, 3) := by decide +kernel
theorem dX6_isUseful_24 : decode cX6_isUseful 24 = .ok (.goto (-20), 3) := by decide +kernel
theorem dX6_isUseful_27 : decode cX6_isUseful 27 = .ok (.aload_n 0, 1) := by decide +kernel
theorem dX6_isUseful_28 : decode cX6_isUseful 28 = .ok (.iload_n 1, 1) := by decide +kernel
theorem dX6_isUseful_29 : decode cX6_isUseful 29 = .ok (.invokevirtual 95, 3) := by decide +kernel
theorem dX6_isUseful_32 : decode cX6_isUseful 32 = .ok (.ifCond .ne 7, 3) := by decide +kernel
theorem dX6_isUseful_35 : decode cX6_isUseful 35 = .ok (.iconst 1, 1) := by decide +kernel
theorem dX6_isUseful_36 : decode cX6_isUseful 36 = .ok (.goto 4, 3) := by decide +kernel
theorem dX6_isUseful_39 : decode cX6_isUseful 39 = .ok (.iconst 0, 1) := by decide +kernel
theorem dX6_isUseful_40 : decode cX6_isUseful 40 = .ok (.ireturn, 1) := by decide +kernel
theorem dX6_layRows_0 : decode cX6_layRows 0 = .ok (.iconst 0, 1) := by decide +kernel
theorem dX6_layRows_1 : decode cX6_layRows 1 = .ok (.istore_n 2, 1) := by decide +kernel
theorem dX6_layRows_2 : decode cX6_layRows 2 = .ok (.iload_n 2, 1) := by decide +kernel
theorem dX6_layRows_3 : decode cX6_layRows 3 = .ok (.bipush 10, 2) := by decide +kernel
theorem dX6_layRows_5 : decode cX6_layRows 5 = .ok (.if_icmp .ge 79, 3) := by decide +kernel
theorem dX6_layRows_8 : decode cX6_layRows 8 = .ok (.iconst 0, 1) := by decide +kernel
theorem dX6_layRows_9 : decode cX6_layRows 9 = .ok (.istore_n 3, 1) := by decide +kernel
theorem dX6_layRows_10 : decode cX6_layRows 10 = .ok (.iload_n 3, 1) := by decide +kernel
theorem dX6_layRows_11 : decode cX6_layRows 11 = .ok (.bipush 8, 2) := by decide +kernel
theorem dX6_layRows_13 : decode cX6_layRows 13 = .ok (.if_icmp .ge 27, 3) := by decide +kernel
theorem dX6_layRows_16 : decode cX6_layRows 16 = .ok (.aload_n 0, 1) := by decide +kernel
theorem dX6_layRows_17 : decode cX6_layRows 17 = .ok (.getfield 15, 3) := by decide +kernel
theorem dX6_layRows_20 : decode cX6_layRows 20 = .ok (.iload_n 2, 1) := by decide +kernel
theorem dX6_layRows_21 : decode cX6_layRows 21 = .ok (.bipush 9, 2) := by decide +kernel
theorem dX6_layRows_23 : decode cX6_layRows 23 = .ok (.imul, 1) := by decide +kernel
theorem dX6_layRows_24 : decode cX6_layRows 24 = .ok (.iload_n 3, 1) := by decide +kernel
theorem dX6_layRows_25 : decode cX6_layRows 25 = .ok (.iadd, 1) := by decide +kernel
theorem dX6_layRows_26 : decode cX6_layRows 26 = .ok (.aload_n 1, 1) := by decide +kernel
theorem dX6_layRows_27 : decode cX6_layRows 27 = .ok (.iload_n 3, 1) := by decide +kernel
theorem dX6_layRows_28 : decode cX6_layRows 28 = .ok (.iload_n 2, 1) := by decide +kernel
theorem dX6_layRows_29 : decode cX6_layRows 29 = .ok (.invokevirtual 99, 3) := by decide +kernel
theorem dX6_layRows_32 : decode cX6_layRows 32 = .ok (.i2l, 1) := by decide +kernel
theorem dX6_layRows_33 : decode cX6_layRows 33 = .ok (.lastore, 1) := by decide +kernel
theorem dX6_layRows_34 : decode cX6_layRows 34 = .ok (.iinc 3 1, 3) := by decide +kernel
theorem dX6_layRows_37 : decode cX6_layRows 37 = .ok (.goto (-27), 3) := by decide +kernel
theorem dX6_layRows_40 : decode cX6_layRows 40 = .ok (.aload_n 0, 1) := by decide +kernel
theorem dX6_layRows_41 : decode cX6_layRows 41 = .ok (.getfield 15, 3) := by decide +kernel
theorem dX6_layRows_44 : decode cX6_layRows 44 = .ok (.iload_n 2, 1) := by decide +kernel
theorem dX6_layRows_45 : decode cX6_layRows 45 = .ok (.bipush 9, 2) := by decide +kernel
theorem dX6_layRows_47 : decode cX6_layRows 47 = .ok (.imul, 1) := by decide +kernel
theorem dX6_layRows_48 : decode cX6_layRows 48 = .ok (.bipush 8, 2) := by decide +kernel
theorem dX6_layRows_50 : decode cX6_layRows 50 = .ok (.iadd, 1) := by decide +kernel
theorem dX6_layRows_51 : decode cX6_layRows 51 = .ok (.aload_n 1, 1) := by decide +kernel
theorem dX6_layRows_52 : decode cX6_layRows 52 = .ok (.iload_n 2, 1) := by decide +kernel
theorem dX6_layRows_53 : decode cX6_layRows 53 = .ok (.invokevirtual 103, 3) := by decide +kernel
theorem dX6_layRows_56 : decode cX6_layRows 56 = .ok (.ifCond .eq 20, 3) := by decide +kernel
theorem dX6_layRows_59 : decode cX6_layRows 59 = .ok (.aload_n 0, 1) := by decide +kernel
theorem dX6_layRows_60 : decode cX6_layRows 60 = .ok (.getfield 9, 3) := by decide +kernel
theorem dX6_layRows_63 : decode cX6_layRows 63 = .ok (.iload_n 2, 1) := by decide +kernel
theorem dX6_layRows_64 : decode cX6_layRows 64 = .ok (.iaload, 1) := by decide +kernel
theorem dX6_layRows_65 : decode cX6_layRows 65 = .ok (.aload_n 1, 1) := by decide +kernel
theorem dX6_layRows_66 : decode cX6_layRows 66 = .ok (.getfield 106, 3) := by decide +kernel
theorem dX6_layRows_69 : decode cX6_layRows 69 = .ok (.iload_n 2, 1) := by decide +kernel
theorem dX6_layRows_70 : decode cX6_layRows 70 = .ok (.iaload, 1) := by decide +kernel
theorem dX6_layRows_71 : decode cX6_layRows 71 = .ok (.isub, 1) := by decide +kernel
theorem dX6_layRows_72 : decode cX6_layRows 72 = .ok (.i2l, 1) := by decide +kernel
theorem dX6_layRows_73 : decode cX6_layRows 73 = .ok (.goto 4, 3) := by decide +kernel
theorem dX6_layRows_76 : decode cX6_layRows 76 = .ok (.lconst 0, 1) := by decide +kernel
theorem dX6_layRows_77 : decode cX6_layRows 77 = .ok (.lastore, 1) := by decide +kernel
theorem dX6_layRows_78 : decode cX6_layRows 78 = .ok (.iinc 2 1, 3) := by decide +kernel
theorem dX6_layRows_81 : decode cX6_layRows 81 = .ok (.goto (-79), 3) := by decide +kernel
theorem dX6_layRows_84 : decode cX6_layRows 84 = .ok (.return_, 1) := by decide +kernel
theorem dX6_solveRows_0 : decode cX6_solveRows 0 = .ok (.iconst 0, 1) := by decide +kernel
theorem dX6_solveRows_1 : decode cX6_solveRows 1 = .ok (.istore_n 1, 1) := by decide +kernel
theorem dX6_solveRows_2 : decode cX6_solveRows 2 = .ok (.bipush 7, 2) := by decide +kernel
theorem dX6_solveRows_4 : decode cX6_solveRows 4 = .ok (.istore_n 2, 1) := by decide +kernel
theorem dX6_solveRows_5 : decode cX6_solveRows 5 = .ok (.iload_n 2, 1) := by decide +kernel
theorem dX6_solveRows_6 : decode cX6_solveRows 6 = .ok (.ifCond .lt 75, 3) := by decide +kernel
theorem dX6_solveRows_9 : decode cX6_solveRows 9 = .ok (.aload_n 0, 1) := by decide +kernel
theorem dX6_solveRows_10 : decode cX6_solveRows 10 = .ok (.iload_n 2, 1) := by decide +kernel
theorem dX6_solveRows_11 : decode cX6_solveRows 11 = .ok (.iload_n 1, 1) := by decide +kernel
theorem dX6_solveRows_12 : decode cX6_solveRows 12 = .ok (.invokevirtual 109, 3) := by decide +kernel
theorem dX6_solveRows_15 : decode cX6_solveRows 15 = .ok (.istore_n 3, 1) := by decide +kernel
theorem dX6_solveRows_16 : decode cX6_solveRows 16 = .ok (.aload_n 0, 1) := by decide +kernel
theorem dX6_solveRows_17 : decode cX6_solveRows 17 = .ok (.getfield 19, 3) := by decide +kernel
theorem dX6_solveRows_20 : decode cX6_solveRows 20 = .ok (.iload_n 2, 1) := by decide +kernel
theorem dX6_solveRows_21 : decode cX6_solveRows 21 = .ok (.iload_n 3, 1) := by decide +kernel
theorem dX6_solveRows_22 : decode cX6_solveRows 22 = .ok (.iastore, 1) := by decide +kernel
theorem dX6_solveRows_23 : decode cX6_solveRows 23 = .ok (.iload_n 3, 1) := by decide +kernel
theorem dX6_solveRows_24 : decode cX6_solveRows 24 = .ok (.iconst (-1), 1) := by decide +kernel
theorem dX6_solveRows_25 : decode cX6_solveRows 25 = .ok (.if_icmp .ne 6, 3) := by decide +kernel
theorem dX6_solveRows_28 : decode cX6_solveRows 28 = .ok (.goto 47, 3) := by decide +kernel
theorem dX6_solveRows_31 : decode cX6_solveRows 31 = .ok (.iload_n 1, 1) := by decide +kernel
theorem dX6_solveRows_32 : decode cX6_solveRows 32 = .ok (.iconst 1, 1) := by decide +kernel
theorem dX6_solveRows_33 : decode cX6_solveRows 33 = .ok (.iload_n 3, 1) := by decide +kernel
theorem dX6_solveRows_34 : decode cX6_solveRows 34 = .ok (.ishl, 1) := by decide +kernel
theorem dX6_solveRows_35 : decode cX6_solveRows 35 = .ok (.ior, 1) := by decide +kernel
theorem dX6_solveRows_36 : decode cX6_solveRows 36 = .ok (.istore_n 1, 1) := by decide +kernel
theorem dX6_solveRows_37 : decode cX6_solveRows 37 = .ok (.iconst 0, 1) := by decide +kernel
theorem dX6_solveRows_38 : decode cX6_solveRows 38 = .ok (.istore 4, 2) := by decide +kernel
theorem dX6_solveRows_40 : decode cX6_solveRows 40 = .ok (.iload 4, 2) := by decide +kernel
theorem dX6_solveRows_42 : decode cX6_solveRows 42 = .ok (.bipush 10, 2) := by decide +kernel
theorem dX6_solveRows_44 : decode cX6_solveRows 44 = .ok (.if_icmp .ge 31, 3) := by decide +kernel
theorem dX6_solveRows_47 : decode cX6_solveRows 47 = .ok (.iload_n 1, 1) := by decide +kernel
theorem dX6_solveRows_48 : decode cX6_solveRows 48 = .ok (.iload 4, 2) := by decide +kernel
theorem dX6_solveRows_50 : decode cX6_solveRows 50 = .ok (.ishr, 1) := by decide +kernel
theorem dX6_solveRows_51 : decode cX6_solveRows 51 = .ok (.iconst 1, 1) := by decide +kernel
theorem dX6_solveRows_52 : decode cX6_solveRows 52 = .ok (.iand, 1) := by decide +kernel
theorem dX6_solveRows_53 : decode cX6_solveRows 53 = .ok (.ifCond .ne 16, 3) := by decide +kernel
theorem dX6_solveRows_56 : decode cX6_solveRows 56 = .ok (.aload_n 0, 1) := by decide +kernel
theorem dX6_solveRows_57 : decode cX6_solveRows 57 = .ok (.getfield 15, 3) := by decide +kernel
theorem dX6_solveRows_60 : decode cX6_solveRows 60 = .ok (.iload 4, 2) := by decide +kernel
theorem dX6_solveRows_62 : decode cX6_solveRows 62 = .ok (.iload_n 3, 1) := by decide +kernel
theorem dX6_solveRows_63 : decode cX6_solveRows 63 = .ok (.iload_n 2, 1) := by decide +kernel
theorem dX6_solveRows_64 : decode cX6_solveRows 64 = .ok (.bipush 9, 2) := by decide +kernel
theorem dX6_solveRows_66 : decode cX6_solveRows 66 = .ok (.invokestatic 112, 3) := by decide +kernel
theorem dX6_solveRows_69 : decode cX6_solveRows 69 = .ok (.iinc 4 1, 3) := by decide +kernel
theorem dX6_solveRows_72 : decode cX6_solveRows 72 = .ok (.goto (-32), 3) := by decide +kernel
theorem dX6_solveRows_75 : decode cX6_solveRows 75 = .ok (.iinc 2 (-1), 3) := by decide +kernel
theorem dX6_solveRows_78 : decode cX6_solveRows 78 = .ok (.goto (-73), 3) := by decide +kernel
theorem dX6_solveRows_81 : decode cX6_solveRows 81 = .ok (.aload_n 0, 1) := by decide +kernel
theorem dX6_solveRows_82 : decode cX6_solveRows 82 = .ok (.invokevirtual 116, 3) := by decide +kernel
theorem dX6_solveRows_85 : decode cX6_solveRows 85 = .ok (.ireturn, 1) := by decide +kernel
theorem dX6_canBeWhole_0 : decode cX6_canBeWhole 0 = .ok (.iconst 0, 1) := by decide +kernel
theorem dX6_canBeWhole_1 : decode cX6_canBeWhole 1 = .ok (.istore_n 1, 1) := by decide +kernel
theorem dX6_canBeWhole_2 : decode cX6_canBeWhole 2 = .ok (.iload_n 1, 1) := by decide +kernel
theorem dX6_canBeWhole_3 : decode cX6_canBeWhole 3 = .ok (.bipush 10, 2) := by decide +kernel
theorem dX6_canBeWhole_5 : decode cX6_canBeWhole 5 = .ok (.if_icmp .ge 85, 3) := by decide +kernel
theorem dX6_canBeWhole_8 : decode cX6_canBeWhole 8 = .ok (.lconst 0, 1) := by decide +kernel
theorem dX6_canBeWhole_9 : decode cX6_canBeWhole 9 = .ok (.lstore_n 2, 1) := by decide +kernel
theorem dX6_canBeWhole_10 : decode cX6_canBeWhole 10 = .ok (.iconst 0, 1) := by decide +kernel
theorem dX6_canBeWhole_11 : decode cX6_canBeWhole 11 = .ok (.istore 4, 2) := by decide +kernel
theorem dX6_canBeWhole_13 : decode cX6_canBeWhole 13 = .ok (.iload 4, 2) := by decide +kernel
theorem dX6_canBeWhole_15 : decode cX6_canBeWhole 15 = .ok (.bipush 8, 2) := by decide +kernel
theorem dX6_canBeWhole_17 : decode cX6_canBeWhole 17 = .ok (.if_icmp .ge 26, 3) := by decide +kernel
theorem dX6_canBeWhole_20 : decode cX6_canBeWhole 20 = .ok (.lload_n 2, 1) := by decide +kernel
theorem dX6_canBeWhole_21 : decode cX6_canBeWhole 21 = .ok (.aload_n 0, 1) := by decide +kernel
theorem dX6_canBeWhole_22 : decode cX6_canBeWhole 22 = .ok (.getfield 15, 3) := by decide +kernel
theorem dX6_canBeWhole_25 : decode cX6_canBeWhole 25 = .ok (.iload_n 1, 1) := by decide +kernel
theorem dX6_canBeWhole_26 : decode cX6_canBeWhole 26 = .ok (.bipush 9, 2) := by decide +kernel
theorem dX6_canBeWhole_28 : decode cX6_canBeWhole 28 = .ok (.imul, 1) := by decide +kernel
theorem dX6_canBeWhole_29 : decode cX6_canBeWhole 29 = .ok (.iload 4, 2) := by decide +kernel
theorem dX6_canBeWhole_31 : decode cX6_canBeWhole 31 = .ok (.iadd, 1) := by decide +kernel
theorem dX6_canBeWhole_32 : decode cX6_canBeWhole 32 = .ok (.laload, 1) := by decide +kernel
theorem dX6_canBeWhole_33 : decode cX6_canBeWhole 33 = .ok (.invokestatic 119, 3) := by decide +kernel
theorem dX6_canBeWhole_36 : decode cX6_canBeWhole 36 = .ok (.lstore_n 2, 1) := by decide +kernel
theorem dX6_canBeWhole_37 : decode cX6_canBeWhole 37 = .ok (.iinc 4 1, 3) := by decide +kernel
theorem dX6_canBeWhole_40 : decode cX6_canBeWhole 40 = .ok (.goto (-27), 3) := by decide +kernel
theorem dX6_canBeWhole_43 : decode cX6_canBeWhole 43 = .ok (.aload_n 0, 1) := by decide +kernel
theorem dX6_canBeWhole_44 : decode cX6_canBeWhole 44 = .ok (.getfield 15, 3) := by decide +kernel
theorem dX6_canBeWhole_47 : decode cX6_canBeWhole 47 = .ok (.iload_n 1, 1) := by decide +kernel
theorem dX6_canBeWhole_48 : decode cX6_canBeWhole 48 = .ok (.bipush 9, 2) := by decide +kernel
theorem dX6_canBeWhole_50 : decode cX6_canBeWhole 50 = .ok (.imul, 1) := by decide +kernel
theorem dX6_canBeWhole_51 : decode cX6_canBeWhole 51 = .ok (.bipush 8, 2) := by decide +kernel
theorem dX6_canBeWhole_53 : decode cX6_canBeWhole 53 = .ok (.iadd, 1) := by decide +kernel
theorem dX6_canBeWhole_54 : decode cX6_canBeWhole 54 = .ok (.laload, 1) := by decide +kernel
theorem dX6_canBeWhole_55 : decode cX6_canBeWhole 55 = .ok (.lstore 4, 2) := by decide +kernel
theorem dX6_canBeWhole_57 : decode cX6_canBeWhole 57 = .ok (.lload_n 2, 1) := by decide +kernel
theorem dX6_canBeWhole_58 : decode cX6_canBeWhole 58 = .ok (.lconst 0, 1) := by decide +kernel
theorem dX6_canBeWhole_59 : decode cX6_canBeWhole 59 = .ok (.lcmp, 1) := by decide +kernel
theorem dX6_canBeWhole_60 : decode cX6_canBeWhole 60 = .ok (.ifCond .ne 13, 3) := by decide +kernel
theorem dX6_canBeWhole_63 : decode cX6_canBeWhole 63 = .ok (.lload 4, 2) := by decide +kernel
theorem dX6_canBeWhole_65 : decode cX6_canBeWhole 65 = .ok (.lconst 0, 1) := by decide +kernel
theorem dX6_canBeWhole_66 : decode cX6_canBeWhole 66 = .ok (.lcmp, 1) := by decide +kernel
theorem dX6_canBeWhole_67 : decode cX6_canBeWhole 67 = .ok (.ifCond .eq 17, 3) := by decide +kernel
theorem dX6_canBeWhole_70 : decode cX6_canBeWhole 70 = .ok (.goto 12, 3) := by decide +kernel
theorem dX6_canBeWhole_73 : decode cX6_canBeWhole 73 = .ok (.lload 4, 2) := by decide +kernel
theorem dX6_canBeWhole_75 : decode cX6_canBeWhole 75 = .ok (.lload_n 2, 1) := by decide +kernel
theorem dX6_canBeWhole_76 : decode cX6_canBeWhole 76 = .ok (.lrem, 1) := by decide +kernel
theorem dX6_canBeWhole_77 : decode cX6_canBeWhole 77 = .ok (.lconst 0, 1) := by decide +kernel
theorem dX6_canBeWhole_78 : decode cX6_canBeWhole 78 = .ok (.lcmp, 1) := by decide +kernel
theorem dX6_canBeWhole_79 : decode cX6_canBeWhole 79 = .ok (.ifCond .eq 5, 3) := by decide +kernel
theorem dX6_canBeWhole_82 : decode cX6_canBeWhole 82 = .ok (.iconst 0, 1) := by decide +kernel
theorem dX6_canBeWhole_83 : decode cX6_canBeWhole 83 = .ok (.ireturn, 1) := by decide +kernel
theorem dX6_canBeWhole_84 : decode cX6_canBeWhole 84 = .ok (.iinc 1 1, 3) := by decide +kernel
theorem dX6_canBeWhole_87 : decode cX6_canBeWhole 87 = .ok (.goto (-85), 3) := by decide +kernel
theorem dX6_canBeWhole_90 : decode cX6_canBeWhole 90 = .ok (.iconst 1, 1) := by decide +kernel
theorem dX6_canBeWhole_91 : decode cX6_canBeWhole 91 = .ok (.ireturn, 1) := by decide +kernel
theorem dX6_freeRowWith_0 : decode cX6_freeRowWith 0 = .ok (.iconst 0, 1) := by decide +kernel
theorem dX6_freeRowWith_1 : decode cX6_freeRowWith 1 = .ok (.istore_n 3, 1) := by decide +kernel
theorem dX6_freeRowWith_2 : decode cX6_freeRowWith 2 = .ok (.iload_n 3, 1) := by decide +kernel
theorem dX6_freeRowWith_3 : decode cX6_freeRowWith 3 = .ok (.bipush 10, 2) := by decide +kernel
theorem dX6_freeRowWith_5 : decode cX6_freeRowWith 5 = .ok (.if_icmp .ge 35, 3) := by decide +kernel
theorem dX6_freeRowWith_8 : decode cX6_freeRowWith 8 = .ok (.iload_n 2, 1) := by decide +kernel
theorem dX6_freeRowWith_9 : decode cX6_freeRowWith 9 = .ok (.iload_n 3, 1) := by decide +kernel
theorem dX6_freeRowWith_10 : decode cX6_freeRowWith 10 = .ok (.ishr, 1) := by decide +kernel
theorem dX6_freeRowWith_11 : decode cX6_freeRowWith 11 = .ok (.iconst 1, 1) := by decide +kernel
theorem dX6_freeRowWith_12 : decode cX6_freeRowWith 12 = .ok (.iand, 1) := by decide +kernel
theorem dX6_freeRowWith_13 : decode cX6_freeRowWith 13 = .ok (.ifCond .ne 21, 3) := by decide +kernel
theorem dX6_freeRowWith_16 : decode cX6_freeRowWith 16 = .ok (.aload_n 0, 1) := by decide +kernel
theorem dX6_freeRowWith_17 : decode cX6_freeRowWith 17 = .ok (.getfield 15, 3) := by decide +kernel
theorem dX6_freeRowWith_20 : decode cX6_freeRowWith 20 = .ok (.iload_n 3, 1) := by decide +kernel
theorem dX6_freeRowWith_21 : decode cX6_freeRowWith 21 = .ok (.bipush 9, 2) := by decide +kernel
theorem dX6_freeRowWith_23 : decode cX6_freeRowWith 23 = .ok (.imul, 1) := by decide +kernel
theorem dX6_freeRowWith_24 : decode cX6_freeRowWith 24 = .ok (.iload_n 1, 1) := by decide +kernel
theorem dX6_freeRowWith_25 : decode cX6_freeRowWith 25 = .ok (.iadd, 1) := by decide +kernel
theorem dX6_freeRowWith_26 : decode cX6_freeRowWith 26 = .ok (.laload, 1) := by decide +kernel
theorem dX6_freeRowWith_27 : decode cX6_freeRowWith 27 = .ok (.lconst 0, 1) := by decide +kernel
theorem dX6_freeRowWith_28 : decode cX6_freeRowWith 28 = .ok (.lcmp, 1) := by decide +kernel
theorem dX6_freeRowWith_29 : decode cX6_freeRowWith 29 = .ok (.ifCond .eq 5, 3) := by decide +kernel
theorem dX6_freeRowWith_32 : decode cX6_freeRowWith 32 = .ok (.iload_n 3, 1) := by decide +kernel
theorem dX6_freeRowWith_33 : decode cX6_freeRowWith 33 = .ok (.ireturn, 1) := by decide +kernel
theorem dX6_freeRowWith_34 : decode cX6_freeRowWith 34 = .ok (.iinc 3 1, 3) := by decide +kernel
theorem dX6_freeRowWith_37 : decode cX6_freeRowWith 37 = .ok (.goto (-35), 3) := by decide +kernel
theorem dX6_freeRowWith_40 : decode cX6_freeRowWith 40 = .ok (.iconst (-1), 1) := by decide +kernel
theorem dX6_freeRowWith_41 : decode cX6_freeRowWith 41 = .ok (.ireturn, 1) := by decide +kernel
theorem dX6_seek_0 : decode cX6_seek 0 = .ok (.iload_n 2, 1) := by decide +kernel
theorem dX6_seek_1 : decode cX6_seek 1 = .ok (.aload_n 0, 1) := by decide +kernel
theorem dX6_seek_2 : decode cX6_seek 2 = .ok (.getfield 45, 3) := by decide +kernel
theorem dX6_seek_5 : decode cX6_seek 5 = .ok (.if_icmp .gt 17, 3) := by decide +kernel
theorem dX6_seek_8 : decode cX6_seek 8 = .ok (.aload_n 0, 1) := by decide +kernel
theorem dX6_seek_9 : decode cX6_seek 9 = .ok (.iload_n 1, 1) := by decide +kernel
theorem dX6_seek_10 : decode cX6_seek 10 = .ok (.aload_n 0, 1) := by decide +kernel
theorem dX6_seek_11 : decode cX6_seek 11 = .ok (.getfield 45, 3) := by decide +kernel
theorem dX6_seek_14 : decode cX6_seek 14 = .ok (.iload_n 2, 1) := by decide +kernel
theorem dX6_seek_15 : decode cX6_seek 15 = .ok (.isub, 1) := by decide +kernel
theorem dX6_seek_16 : decode cX6_seek 16 = .ok (.invokevirtual 123, 3) := by decide +kernel
theorem dX6_seek_19 : decode cX6_seek 19 = .ok (.ifCond .ne 4, 3) := by decide +kernel
theorem dX6_seek_22 : decode cX6_seek 22 = .ok (.return_, 1) := by decide +kernel
theorem dX6_seek_23 : decode cX6_seek 23 = .ok (.iload_n 1, 1) := by decide +kernel
theorem dX6_seek_24 : decode cX6_seek 24 = .ok (.bipush 8, 2) := by decide +kernel
theorem dX6_seek_26 : decode cX6_seek 26 = .ok (.if_icmp .lt 31, 3) := by decide +kernel
theorem dX6_seek_29 : decode cX6_seek 29 = .ok (.aload_n 0, 1) := by decide +kernel
theorem dX6_seek_30 : decode cX6_seek 30 = .ok (.iload_n 2, 1) := by decide +kernel
theorem dX6_seek_31 : decode cX6_seek 31 = .ok (.putfield 41, 3) := by decide +kernel
theorem dX6_seek_34 : decode cX6_seek 34 = .ok (.aload_n 0, 1) := by decide +kernel
theorem dX6_seek_35 : decode cX6_seek 35 = .ok (.iload_n 2, 1) := by decide +kernel
theorem dX6_seek_36 : decode cX6_seek 36 = .ok (.iconst 1, 1) := by decide +kernel
theorem dX6_seek_37 : decode cX6_seek 37 = .ok (.isub, 1) := by decide +kernel
theorem dX6_seek_38 : decode cX6_seek 38 = .ok (.putfield 45, 3) := by decide +kernel
theorem dX6_seek_41 : decode cX6_seek 41 = .ok (.aload_n 0, 1) := by decide +kernel
theorem dX6_seek_42 : decode cX6_seek 42 = .ok (.getfield 22, 3) := by decide +kernel
theorem dX6_seek_45 : decode cX6_seek 45 = .ok (.iconst 0, 1) := by decide +kernel
theorem dX6_seek_46 : decode cX6_seek 46 = .ok (.aload_n 0, 1) := by decide +kernel
theorem dX6_seek_47 : decode cX6_seek 47 = .ok (.getfield 25, 3) := by decide +kernel
theorem dX6_seek_50 : decode cX6_seek 50 = .ok (.iconst 0, 1) := by decide +kernel
theorem dX6_seek_51 : decode cX6_seek 51 = .ok (.bipush 8, 2) := by decide +kernel
theorem dX6_seek_53 : decode cX6_seek 53 = .ok (.invokestatic 126, 3) := by decide +kernel
theorem dX6_seek_56 : decode cX6_seek 56 = .ok (.return_, 1) := by decide +kernel
theorem dX6_seek_57 : decode cX6_seek 57 = .ok (.iconst 0, 1) := by decide +kernel
theorem dX6_seek_58 : decode cX6_seek 58 = .ok (.istore_n 3, 1) := by decide +kernel
theorem dX6_seek_59 : decode cX6_seek 59 = .ok (.aload_n 0, 1) := by decide +kernel
theorem dX6_seek_60 : decode cX6_seek 60 = .ok (.getfield 48, 3) := by decide +kernel
theorem dX6_seek_63 : decode cX6_seek 63 = .ok (.iload_n 1, 1) := by decide +kernel
theorem dX6_seek_64 : decode cX6_seek 64 = .ok (.ishr, 1) := by decide +kernel
theorem dX6_seek_65 : decode cX6_seek 65 = .ok (.iconst 1, 1) := by decide +kernel
theorem dX6_seek_66 : decode cX6_seek 66 = .ok (.iand, 1) := by decide +kernel
theorem dX6_seek_67 : decode cX6_seek 67 = .ok (.iconst 1, 1) := by decide +kernel
theorem dX6_seek_68 : decode cX6_seek 68 = .ok (.if_icmp .ne 8, 3) := by decide +kernel
theorem dX6_seek_71 : decode cX6_seek 71 = .ok (.bipush 12, 2) := by decide +kernel
theorem dX6_seek_73 : decode cX6_seek 73 = .ok (.goto 4, 3) := by decide +kernel
theorem dX6_seek_76 : decode cX6_seek 76 = .ok (.iconst 0, 1) := by decide +kernel
theorem dX6_seek_77 : decode cX6_seek 77 = .ok (.istore 4, 2) := by decide +kernel
theorem dX6_seek_79 : decode cX6_seek 79 = .ok (.aload_n 0, 1) := by decide +kernel
theorem dX6_seek_80 : decode cX6_seek 80 = .ok (.getfield 19, 3) := by decide +kernel
theorem dX6_seek_83 : decode cX6_seek 83 = .ok (.iload_n 1, 1) := by decide +kernel
theorem dX6_seek_84 : decode cX6_seek 84 = .ok (.iaload, 1) := by decide +kernel
theorem dX6_seek_85 : decode cX6_seek 85 = .ok (.iconst (-1), 1) := by decide +kernel
theorem dX6_seek_86 : decode cX6_seek 86 = .ok (.if_icmp .eq 12, 3) := by decide +kernel
theorem dX6_seek_89 : decode cX6_seek 89 = .ok (.aload_n 0, 1) := by decide +kernel
theorem dX6_seek_90 : decode cX6_seek 90 = .ok (.iload_n 1, 1) := by decide +kernel
theorem dX6_seek_91 : decode cX6_seek 91 = .ok (.invokevirtual 132, 3) := by decide +kernel
theorem dX6_seek_94 : decode cX6_seek 94 = .ok (.istore_n 3, 1) := by decide +kernel
theorem dX6_seek_95 : decode cX6_seek 95 = .ok (.iload_n 3, 1) := by decide +kernel
theorem dX6_seek_96 : decode cX6_seek 96 = .ok (.istore 4, 2) := by decide +kernel
theorem dX6_seek_98 : decode cX6_seek 98 = .ok (.iload_n 3, 1) := by decide +kernel
theorem dX6_seek_99 : decode cX6_seek 99 = .ok (.istore 5, 2) := by decide +kernel
theorem dX6_seek_101 : decode cX6_seek 101 = .ok (.iload 5, 2) := by decide +kernel
theorem dX6_seek_103 : decode cX6_seek 103 = .ok (.ifCond .lt 46, 3) := by decide +kernel
theorem dX6_seek_106 : decode cX6_seek 106 = .ok (.iload 5, 2) := by decide +kernel
theorem dX6_seek_108 : decode cX6_seek 108 = .ok (.iload 4, 2) := by decide +kernel
theorem dX6_seek_110 : decode cX6_seek 110 = .ok (.if_icmp .gt 39, 3) := by decide +kernel
theorem dX6_seek_113 : decode cX6_seek 113 = .ok (.iload_n 2, 1) := by decide +kernel
theorem dX6_seek_114 : decode cX6_seek 114 = .ok (.iload 5, 2) := by decide +kernel
theorem dX6_seek_116 : decode cX6_seek 116 = .ok (.iadd, 1) := by decide +kernel
theorem dX6_seek_117 : decode cX6_seek 117 = .ok (.aload_n 0, 1) := by decide +kernel
theorem dX6_seek_118 : decode cX6_seek 118 = .ok (.getfield 45, 3) := by decide +kernel
theorem dX6_seek_121 : decode cX6_seek 121 = .ok (.if_icmp .gt 28, 3) := by decide +kernel
theorem dX6_seek_124 : decode cX6_seek 124 = .ok (.aload_n 0, 1) := by decide +kernel
theorem dX6_seek_125 : decode cX6_seek 125 = .ok (.getfield 22, 3) := by decide +kernel
theorem dX6_seek_128 : decode cX6_seek 128 = .ok (.iload_n 1, 1) := by decide +kernel
theorem dX6_seek_129 : decode cX6_seek 129 = .ok (.iload 5, 2) := by decide +kernel
theorem dX6_seek_131 : decode cX6_seek 131 = .ok (.iastore, 1) := by decide +kernel
theorem dX6_seek_132 : decode cX6_seek 132 = .ok (.aload_n 0, 1) := by decide +kernel
theorem dX6_seek_133 : decode cX6_seek 133 = .ok (.iload_n 1, 1) := by decide +kernel
theorem dX6_seek_134 : decode cX6_seek 134 = .ok (.iconst 1, 1) := by decide +kernel
theorem dX6_seek_135 : decode cX6_seek 135 = .ok (.iadd, 1) := by decide +kernel
theorem dX6_seek_136 : decode cX6_seek 136 = .ok (.iload_n 2, 1) := by decide +kernel
theorem dX6_seek_137 : decode cX6_seek 137 = .ok (.iload 5, 2) := by decide +kernel
theorem dX6_seek_139 : decode cX6_seek 139 = .ok (.iadd, 1) := by decide +kernel
theorem dX6_seek_140 : decode cX6_seek 140 = .ok (.invokevirtual 83, 3) := by decide +kernel
theorem dX6_seek_143 : decode cX6_seek 143 = .ok (.iinc 5 1, 3) := by decide +kernel
theorem dX6_seek_146 : decode cX6_seek 146 = .ok (.goto (-45), 3) := by decide +kernel
theorem dX6_seek_149 : decode cX6_seek 149 = .ok (.return_, 1) := by decide +kernel
theorem dX6_canStillBe_0 : decode cX6_canStillBe 0 = .ok (.iload_n 1, 1) := by decide +kernel
theorem dX6_canStillBe_1 : decode cX6_canStillBe 1 = .ok (.istore_n 3, 1) := by decide +kernel
theorem dX6_canStillBe_2 : decode cX6_canStillBe 2 = .ok (.iload_n 3, 1) := by decide +kernel
theorem dX6_canStillBe_3 : decode cX6_canStillBe 3 = .ok (.bipush 8, 2) := by decide +kernel
theorem dX6_canStillBe_5 : decode cX6_canStillBe 5 = .ok (.if_icmp .ge 121, 3) := by decide +kernel
theorem dX6_canStillBe_8 : decode cX6_canStillBe 8 = .ok (.aload_n 0, 1) := by decide +kernel
theorem dX6_canStillBe_9 : decode cX6_canStillBe 9 = .ok (.getfield 19, 3) := by decide +kernel
theorem dX6_canStillBe_12 : decode cX6_canStillBe 12 = .ok (.iload_n 3, 1) := by decide +kernel
theorem dX6_canStillBe_13 : decode cX6_canStillBe 13 = .ok (.iaload, 1) := by decide +kernel
theorem dX6_canStillBe_14 : decode cX6_canStillBe 14 = .ok (.iconst (-1), 1) := by decide +kernel
theorem dX6_canStillBe_15 : decode cX6_canStillBe 15 = .ok (.if_icmp .ne 6, 3) := by decide +kernel
theorem dX6_canStillBe_18 : decode cX6_canStillBe 18 = .ok (.goto 102, 3) := by decide +kernel
theorem dX6_canStillBe_21 : decode cX6_canStillBe 21 = .ok (.aload_n 0, 1) := by decide +kernel
theorem dX6_canStillBe_22 : decode cX6_canStillBe 22 = .ok (.getfield 19, 3) := by decide +kernel
theorem dX6_canStillBe_25 : decode cX6_canStillBe 25 = .ok (.iload_n 3, 1) := by decide +kernel
theorem dX6_canStillBe_26 : decode cX6_canStillBe 26 = .ok (.iaload, 1) := by decide +kernel
theorem dX6_canStillBe_27 : decode cX6_canStillBe 27 = .ok (.bipush 9, 2) := by decide +kernel
theorem dX6_canStillBe_29 : decode cX6_canStillBe 29 = .ok (.imul, 1) := by decide +kernel
theorem dX6_canStillBe_30 : decode cX6_canStillBe 30 = .ok (.istore 4, 2) := by decide +kernel
theorem dX6_canStillBe_32 : decode cX6_canStillBe 32 = .ok (.lconst 0, 1) := by decide +kernel
theorem dX6_canStillBe_33 : decode cX6_canStillBe 33 = .ok (.lstore 5, 2) := by decide +kernel
theorem dX6_canStillBe_35 : decode cX6_canStillBe 35 = .ok (.lconst 0, 1) := by decide +kernel
theorem dX6_canStillBe_36 : decode cX6_canStillBe 36 = .ok (.lstore 7, 2) := by decide +kernel
theorem dX6_canStillBe_38 : decode cX6_canStillBe 38 = .ok (.iload_n 1, 1) := by decide +kernel
theorem dX6_canStillBe_39 : decode cX6_canStillBe 39 = .ok (.istore 9, 2) := by decide +kernel
theorem dX6_canStillBe_41 : decode cX6_canStillBe 41 = .ok (.iload 9, 2) := by decide +kernel
theorem dX6_canStillBe_43 : decode cX6_canStillBe 43 = .ok (.iload_n 3, 1) := by decide +kernel
theorem dX6_canStillBe_44 : decode cX6_canStillBe 44 = .ok (.if_icmp .gt 43, 3) := by decide +kernel
theorem dX6_canStillBe_47 : decode cX6_canStillBe 47 = .ok (.lload 5, 2) := by decide +kernel
theorem dX6_canStillBe_49 : decode cX6_canStillBe 49 = .ok (.aload_n 0, 1) := by decide +kernel
theorem dX6_canStillBe_50 : decode cX6_canStillBe 50 = .ok (.getfield 15, 3) := by decide +kernel
theorem dX6_canStillBe_53 : decode cX6_canStillBe 53 = .ok (.iload 4, 2) := by decide +kernel
theorem dX6_canStillBe_55 : decode cX6_canStillBe 55 = .ok (.iload 9, 2) := by decide +kernel
theorem dX6_canStillBe_57 : decode cX6_canStillBe 57 = .ok (.iadd, 1) := by decide +kernel
theorem dX6_canStillBe_58 : decode cX6_canStillBe 58 = .ok (.laload, 1) := by decide +kernel
theorem dX6_canStillBe_59 : decode cX6_canStillBe 59 = .ok (.invokestatic 136, 3) := by decide +kernel
theorem dX6_canStillBe_62 : decode cX6_canStillBe 62 = .ok (.lstore 5, 2) := by decide +kernel
theorem dX6_canStillBe_64 : decode cX6_canStillBe 64 = .ok (.lload 7, 2) := by decide +kernel
theorem dX6_canStillBe_66 : decode cX6_canStillBe 66 = .ok (.aload_n 0, 1) := by decide +kernel
theorem dX6_canStillBe_67 : decode cX6_canStillBe 67 = .ok (.getfield 15, 3) := by decide +kernel
theorem dX6_canStillBe_70 : decode cX6_canStillBe 70 = .ok (.iload 4, 2) := by decide +kernel
theorem dX6_canStillBe_72 : decode cX6_canStillBe 72 = .ok (.iload 9, 2) := by decide +kernel
theorem dX6_canStillBe_74 : decode cX6_canStillBe 74 = .ok (.iadd, 1) := by decide +kernel
theorem dX6_canStillBe_75 : decode cX6_canStillBe 75 = .ok (.laload, 1) := by decide +kernel
theorem dX6_canStillBe_76 : decode cX6_canStillBe 76 = .ok (.invokestatic 141, 3) := by decide +kernel
theorem dX6_canStillBe_79 : decode cX6_canStillBe 79 = .ok (.lstore 7, 2) := by decide +kernel
theorem dX6_canStillBe_81 : decode cX6_canStillBe 81 = .ok (.iinc 9 1, 3) := by decide +kernel
theorem dX6_canStillBe_84 : decode cX6_canStillBe 84 = .ok (.goto (-43), 3) := by decide +kernel
theorem dX6_canStillBe_87 : decode cX6_canStillBe 87 = .ok (.aload_n 0, 1) := by decide +kernel
theorem dX6_canStillBe_88 : decode cX6_canStillBe 88 = .ok (.iload 4, 2) := by decide +kernel
theorem dX6_canStillBe_90 : decode cX6_canStillBe 90 = .ok (.iload_n 1, 1) := by decide +kernel
theorem dX6_canStillBe_91 : decode cX6_canStillBe 91 = .ok (.invokevirtual 144, 3) := by decide +kernel
theorem dX6_canStillBe_94 : decode cX6_canStillBe 94 = .ok (.lstore 9, 2) := by decide +kernel
theorem dX6_canStillBe_96 : decode cX6_canStillBe 96 = .ok (.lload 9, 2) := by decide +kernel
theorem dX6_canStillBe_98 : decode cX6_canStillBe 98 = .ok (.lload 5, 2) := by decide +kernel
theorem dX6_canStillBe_100 : decode cX6_canStillBe 100 = .ok (.iload_n 2, 1) := by decide +kernel
theorem dX6_canStillBe_101 : decode cX6_canStillBe 101 = .ok (.i2l, 1) := by decide +kernel
theorem dX6_canStillBe_102 : decode cX6_canStillBe 102 = .ok (.lmul, 1) := by decide +kernel
theorem dX6_canStillBe_103 : decode cX6_canStillBe 103 = .ok (.lcmp, 1) := by decide +kernel
theorem dX6_canStillBe_104 : decode cX6_canStillBe 104 = .ok (.ifCond .lt 14, 3) := by decide +kernel
theorem dX6_canStillBe_107 : decode cX6_canStillBe 107 = .ok (.lload 9, 2) := by decide +kernel
theorem dX6_canStillBe_109 : decode cX6_canStillBe 109 = .ok (.lload 7, 2) := by decide +kernel
theorem dX6_canStillBe_111 : decode cX6_canStillBe 111 = .ok (.iload_n 2, 1) := by decide +kernel
theorem dX6_canStillBe_112 : decode cX6_canStillBe 112 = .ok (.i2l, 1) := by decide +kernel
theorem dX6_canStillBe_113 : decode cX6_canStillBe 113 = .ok (.lmul, 1) := by decide +kernel
theorem dX6_canStillBe_114 : decode cX6_canStillBe 114 = .ok (.lcmp, 1) := by decide +kernel
theorem dX6_canStillBe_115 : decode cX6_canStillBe 115 = .ok (.ifCond .le 5, 3) := by decide +kernel
theorem dX6_canStillBe_118 : decode cX6_canStillBe 118 = .ok (.iconst 0, 1) := by decide +kernel
theorem dX6_canStillBe_119 : decode cX6_canStillBe 119 = .ok (.ireturn, 1) := by decide +kernel
theorem dX6_canStillBe_120 : decode cX6_canStillBe 120 = .ok (.iinc 3 1, 3) := by decide +kernel
theorem dX6_canStillBe_123 : decode cX6_canStillBe 123 = .ok (.goto (-121), 3) := by decide +kernel
theorem dX6_canStillBe_126 : decode cX6_canStillBe 126 = .ok (.iconst 1, 1) := by decide +kernel
theorem dX6_canStillBe_127 : decode cX6_canStillBe 127 = .ok (.ireturn, 1) := by decide +kernel
theorem dX6_missingIn_0 : decode cX6_missingIn 0 = .ok (.aload_n 0, 1) := by decide +kernel
theorem dX6_missingIn_1 : decode cX6_missingIn 1 = .ok (.getfield 15, 3) := by decide +kernel
theorem dX6_missingIn_4 : decode cX6_missingIn 4 = .ok (.iload_n 1, 1) := by decide +kernel
theorem dX6_missingIn_5 : decode cX6_missingIn 5 = .ok (.bipush 8, 2) := by decide +kernel
theorem dX6_missingIn_7 : decode cX6_missingIn 7 = .ok (.iadd, 1) := by decide +kernel
theorem dX6_missingIn_8 : decode cX6_missingIn 8 = .ok (.laload, 1) := by decide +kernel
theorem dX6_missingIn_9 : decode cX6_missingIn 9 = .ok (.lstore_n 3, 1) := by decide +kernel
theorem dX6_missingIn_10 : decode cX6_missingIn 10 = .ok (.iconst 0, 1) := by decide +kernel
theorem dX6_missingIn_11 : decode cX6_missingIn 11 = .ok (.istore 5, 2) := by decide +kernel
theorem dX6_missingIn_13 : decode cX6_missingIn 13 = .ok (.iload 5, 2) := by decide +kernel
theorem dX6_missingIn_15 : decode cX6_missingIn 15 = .ok (.iload_n 2, 1) := by decide +kernel
theorem dX6_missingIn_16 : decode cX6_missingIn 16 = .ok (.if_icmp .ge 30, 3) := by decide +kernel
theorem dX6_missingIn_19 : decode cX6_missingIn 19 = .ok (.lload_n 3, 1) := by decide +kernel
theorem dX6_missingIn_20 : decode cX6_missingIn 20 = .ok (.aload_n 0, 1) := by decide +kernel
theorem dX6_missingIn_21 : decode cX6_missingIn 21 = .ok (.getfield 15, 3) := by decide +kernel
theorem dX6_missingIn_24 : decode cX6_missingIn 24 = .ok (.iload_n 1, 1) := by decide +kernel
theorem dX6_missingIn_25 : decode cX6_missingIn 25 = .ok (.iload 5, 2) := by decide +kernel
theorem dX6_missingIn_27 : decode cX6_missingIn 27 = .ok (.iadd, 1) := by decide +kernel
theorem dX6_missingIn_28 : decode cX6_missingIn 28 = .ok (.laload, 1) := by decide +kernel
theorem dX6_missingIn_29 : decode cX6_missingIn 29 = .ok (.aload_n 0, 1) := by decide +kernel
theorem dX6_missingIn_30 : decode cX6_missingIn 30 = .ok (.getfield 22, 3) := by decide +kernel
theorem dX6_missingIn_33 : decode cX6_missingIn 33 = .ok (.iload 5, 2) := by decide +kernel
theorem dX6_missingIn_35 : decode cX6_missingIn 35 = .ok (.iaload, 1) := by decide +kernel
theorem dX6_missingIn_36 : decode cX6_missingIn 36 = .ok (.i2l, 1) := by decide +kernel
theorem dX6_missingIn_37 : decode cX6_missingIn 37 = .ok (.lmul, 1) := by decide +kernel
theorem dX6_missingIn_38 : decode cX6_missingIn 38 = .ok (.lsub, 1) := by decide +kernel
theorem dX6_missingIn_39 : decode cX6_missingIn 39 = .ok (.lstore_n 3, 1) := by decide +kernel
theorem dX6_missingIn_40 : decode cX6_missingIn 40 = .ok (.iinc 5 1, 3) := by decide +kernel
theorem dX6_missingIn_43 : decode cX6_missingIn 43 = .ok (.goto (-30), 3) := by decide +kernel
theorem dX6_missingIn_46 : decode cX6_missingIn 46 = .ok (.lload_n 3, 1) := by decide +kernel
theorem dX6_missingIn_47 : decode cX6_missingIn 47 = .ok (.lreturn, 1) := by decide +kernel
theorem dX6_countByRow_0 : decode cX6_countByRow 0 = .ok (.aload_n 0, 1) := by decide +kernel
theorem dX6_countByRow_1 : decode cX6_countByRow 1 = .ok (.getfield 19, 3) := by decide +kernel
theorem dX6_countByRow_4 : decode cX6_countByRow 4 = .ok (.iload_n 1, 1) := by decide +kernel
theorem dX6_countByRow_5 : decode cX6_countByRow 5 = .ok (.iaload, 1) := by decide +kernel
theorem dX6_countByRow_6 : decode cX6_countByRow 6 = .ok (.bipush 9, 2) := by decide +kernel
theorem dX6_countByRow_8 : decode cX6_countByRow 8 = .ok (.imul, 1) := by decide +kernel
theorem dX6_countByRow_9 : decode cX6_countByRow 9 = .ok (.istore_n 2, 1) := by decide +kernel
theorem dX6_countByRow_10 : decode cX6_countByRow 10 = .ok (.aload_n 0, 1) := by decide +kernel
theorem dX6_countByRow_11 : decode cX6_countByRow 11 = .ok (.getfield 15, 3) := by decide +kernel
theorem dX6_countByRow_14 : decode cX6_countByRow 14 = .ok (.iload_n 2, 1) := by decide +kernel
theorem dX6_countByRow_15 : decode cX6_countByRow 15 = .ok (.iload_n 1, 1) := by decide +kernel
theorem dX6_countByRow_16 : decode cX6_countByRow 16 = .ok (.iadd, 1) := by decide +kernel
theorem dX6_countByRow_17 : decode cX6_countByRow 17 = .ok (.laload, 1) := by decide +kernel
theorem dX6_countByRow_18 : decode cX6_countByRow 18 = .ok (.lstore_n 3, 1) := by decide +kernel
theorem dX6_countByRow_19 : decode cX6_countByRow 19 = .ok (.aload_n 0, 1) := by decide +kernel
theorem dX6_countByRow_20 : decode cX6_countByRow 20 = .ok (.iload_n 2, 1) := by decide +kernel
theorem dX6_countByRow_21 : decode cX6_countByRow 21 = .ok (.iload_n 1, 1) := by decide +kernel
theorem dX6_countByRow_22 : decode cX6_countByRow 22 = .ok (.invokevirtual 144, 3) := by decide +kernel
theorem dX6_countByRow_25 : decode cX6_countByRow 25 = .ok (.lstore 5, 2) := by decide +kernel
theorem dX6_countByRow_27 : decode cX6_countByRow 27 = .ok (.lload_n 3, 1) := by decide +kernel
theorem dX6_countByRow_28 : decode cX6_countByRow 28 = .ok (.lconst 0, 1) := by decide +kernel
theorem dX6_countByRow_29 : decode cX6_countByRow 29 = .ok (.lcmp, 1) := by decide +kernel
theorem dX6_countByRow_30 : decode cX6_countByRow 30 = .ok (.ifCond .eq 12, 3) := by decide +kernel
theorem dX6_countByRow_33 : decode cX6_countByRow 33 = .ok (.lload 5, 2) := by decide +kernel
theorem dX6_countByRow_35 : decode cX6_countByRow 35 = .ok (.lload_n 3, 1) := by decide +kernel
theorem dX6_countByRow_36 : decode cX6_countByRow 36 = .ok (.lrem, 1) := by decide +kernel
theorem dX6_countByRow_37 : decode cX6_countByRow 37 = .ok (.lconst 0, 1) := by decide +kernel
theorem dX6_countByRow_38 : decode cX6_countByRow 38 = .ok (.lcmp, 1) := by decide +kernel
theorem dX6_countByRow_39 : decode cX6_countByRow 39 = .ok (.ifCond .eq 5, 3) := by decide +kernel
theorem dX6_countByRow_42 : decode cX6_countByRow 42 = .ok (.iconst (-1), 1) := by decide +kernel
theorem dX6_countByRow_43 : decode cX6_countByRow 43 = .ok (.ireturn, 1) := by decide +kernel
theorem dX6_countByRow_44 : decode cX6_countByRow 44 = .ok (.lload 5, 2) := by decide +kernel
theorem dX6_countByRow_46 : decode cX6_countByRow 46 = .ok (.lload_n 3, 1) := by decide +kernel
theorem dX6_countByRow_47 : decode cX6_countByRow 47 = .ok (.ldiv, 1) := by decide +kernel
theorem dX6_countByRow_48 : decode cX6_countByRow 48 = .ok (.lstore 7, 2) := by decide +kernel
theorem dX6_countByRow_50 : decode cX6_countByRow 50 = .ok (.lload 7, 2) := by decide +kernel
theorem dX6_countByRow_52 : decode cX6_countByRow 52 = .ok (.lconst 0, 1) := by decide +kernel
theorem dX6_countByRow_53 : decode cX6_countByRow 53 = .ok (.lcmp, 1) := by decide +kernel
theorem dX6_countByRow_54 : decode cX6_countByRow 54 = .ok (.ifCond .lt 18, 3) := by decide +kernel
theorem dX6_countByRow_57 : decode cX6_countByRow 57 = .ok (.lload 7, 2) := by decide +kernel
theorem dX6_countByRow_59 : decode cX6_countByRow 59 = .ok (.ldc2_w 148, 3) := by decide +kernel
theorem dX6_countByRow_62 : decode cX6_countByRow 62 = .ok (.lcmp, 1) := by decide +kernel
theorem dX6_countByRow_63 : decode cX6_countByRow 63 = .ok (.ifCond .gt 9, 3) := by decide +kernel
theorem dX6_countByRow_66 : decode cX6_countByRow 66 = .ok (.lload 7, 2) := by decide +kernel
theorem dX6_countByRow_68 : decode cX6_countByRow 68 = .ok (.l2i, 1) := by decide +kernel
theorem dX6_countByRow_69 : decode cX6_countByRow 69 = .ok (.goto 4, 3) := by decide +kernel
theorem dX6_countByRow_72 : decode cX6_countByRow 72 = .ok (.iconst (-1), 1) := by decide +kernel
theorem dX6_countByRow_73 : decode cX6_countByRow 73 = .ok (.ireturn, 1) := by decide +kernel
theorem dX6_findOrder_0 : decode cX6_findOrder 0 = .ok (.aload_n 0, 1) := by decide +kernel
theorem dX6_findOrder_1 : decode cX6_findOrder 1 = .ok (.getfield 54, 3) := by decide +kernel
theorem dX6_findOrder_4 : decode cX6_findOrder 4 = .ok (.ifCond .eq 8, 3) := by decide +kernel
theorem dX6_findOrder_7 : decode cX6_findOrder 7 = .ok (.aload_n 0, 1) := by decide +kernel
theorem dX6_findOrder_8 : decode cX6_findOrder 8 = .ok (.getfield 58, 3) := by decide +kernel
theorem dX6_findOrder_11 : decode cX6_findOrder 11 = .ok (.ireturn, 1) := by decide +kernel
theorem dX6_findOrder_12 : decode cX6_findOrder 12 = .ok (.aload_n 0, 1) := by decide +kernel
theorem dX6_findOrder_13 : decode cX6_findOrder 13 = .ok (.iconst 1, 1) := by decide +kernel
theorem dX6_findOrder_14 : decode cX6_findOrder 14 = .ok (.putfield 54, 3) := by decide +kernel
theorem dX6_findOrder_17 : decode cX6_findOrder 17 = .ok (.aload_n 0, 1) := by decide +kernel
theorem dX6_findOrder_18 : decode cX6_findOrder 18 = .ok (.getfield 25, 3) := by decide +kernel
theorem dX6_findOrder_21 : decode cX6_findOrder 21 = .ok (.iconst 0, 1) := by decide +kernel
theorem dX6_findOrder_22 : decode cX6_findOrder 22 = .ok (.aload_n 0, 1) := by decide +kernel
theorem dX6_findOrder_23 : decode cX6_findOrder 23 = .ok (.getfield 34, 3) := by decide +kernel
theorem dX6_findOrder_26 : decode cX6_findOrder 26 = .ok (.iconst 0, 1) := by decide +kernel
theorem dX6_findOrder_27 : decode cX6_findOrder 27 = .ok (.bipush 8, 2) := by decide +kernel
theorem dX6_findOrder_29 : decode cX6_findOrder 29 = .ok (.invokestatic 126, 3) := by decide +kernel
theorem dX6_findOrder_32 : decode cX6_findOrder 32 = .ok (.aload_n 1, 1) := by decide +kernel
theorem dX6_findOrder_33 : decode cX6_findOrder 33 = .ok (.getfield 106, 3) := by decide +kernel
theorem dX6_findOrder_36 : decode cX6_findOrder 36 = .ok (.iconst 0, 1) := by decide +kernel
theorem dX6_findOrder_37 : decode cX6_findOrder 37 = .ok (.aload_n 0, 1) := by decide +kernel
theorem dX6_findOrder_38 : decode cX6_findOrder 38 = .ok (.getfield 31, 3) := by decide +kernel
theorem dX6_findOrder_41 : decode cX6_findOrder 41 = .ok (.iconst 0, 1) := by decide +kernel
theorem dX6_findOrder_42 : decode cX6_findOrder 42 = .ok (.bipush 10, 2) := by decide +kernel
theorem dX6_findOrder_44 : decode cX6_findOrder 44 = .ok (.invokestatic 126, 3) := by decide +kernel
theorem dX6_findOrder_47 : decode cX6_findOrder 47 = .ok (.aload_n 0, 1) := by decide +kernel
theorem dX6_findOrder_48 : decode cX6_findOrder 48 = .ok (.getfield 37, 3) := by decide +kernel
theorem dX6_findOrder_51 : decode cX6_findOrder 51 = .ok (.iconst 0, 1) := by decide +kernel
theorem dX6_findOrder_52 : decode cX6_findOrder 52 = .ok (.invokestatic 150, 3) := by decide +kernel
theorem dX6_findOrder_55 : decode cX6_findOrder 55 = .ok (.aload_n 0, 1) := by decide +kernel
theorem dX6_findOrder_56 : decode cX6_findOrder 56 = .ok (.aload_n 0, 1) := by decide +kernel
theorem dX6_findOrder_57 : decode cX6_findOrder 57 = .ok (.aload_n 1, 1) := by decide +kernel
theorem dX6_findOrder_58 : decode cX6_findOrder 58 = .ok (.iconst 0, 1) := by decide +kernel
theorem dX6_findOrder_59 : decode cX6_findOrder 59 = .ok (.invokevirtual 153, 3) := by decide +kernel
theorem dX6_findOrder_62 : decode cX6_findOrder 62 = .ok (.putfield 58, 3) := by decide +kernel
theorem dX6_findOrder_65 : decode cX6_findOrder 65 = .ok (.aload_n 0, 1) := by decide +kernel
theorem dX6_findOrder_66 : decode cX6_findOrder 66 = .ok (.getfield 58, 3) := by decide +kernel
theorem dX6_findOrder_69 : decode cX6_findOrder 69 = .ok (.ireturn, 1) := by decide +kernel
theorem dX6_goOn_0 : decode cX6_goOn 0 = .ok (.iload_n 2, 1) := by decide +kernel
theorem dX6_goOn_1 : decode cX6_goOn 1 = .ok (.aload_n 0, 1) := by decide +kernel
theorem dX6_goOn_2 : decode cX6_goOn 2 = .ok (.getfield 41, 3) := by decide +kernel
theorem dX6_goOn_5 : decode cX6_goOn 5 = .ok (.if_icmp .ge 9, 3) := by decide +kernel
theorem dX6_goOn_8 : decode cX6_goOn 8 = .ok (.iload_n 2, 1) := by decide +kernel
theorem dX6_goOn_9 : decode cX6_goOn 9 = .ok (.bipush 12, 2) := by decide +kernel
theorem dX6_goOn_11 : decode cX6_goOn 11 = .ok (.if_icmp .lt 5, 3) := by decide +kernel
theorem dX6_goOn_14 : decode cX6_goOn 14 = .ok (.iconst 1, 1) := by decide +kernel
theorem dX6_goOn_15 : decode cX6_goOn 15 = .ok (.ireturn, 1) := by decide +kernel
theorem dX6_goOn_16 : decode cX6_goOn 16 = .ok (.aload_n 0, 1) := by decide +kernel
theorem dX6_goOn_17 : decode cX6_goOn 17 = .ok (.invokevirtual 156, 3) := by decide +kernel
theorem dX6_goOn_20 : decode cX6_goOn 20 = .ok (.istore_n 3, 1) := by decide +kernel
theorem dX6_goOn_21 : decode cX6_goOn 21 = .ok (.iload_n 3, 1) := by decide +kernel
theorem dX6_goOn_22 : decode cX6_goOn 22 = .ok (.sipush 1296, 3) := by decide +kernel
theorem dX6_goOn_25 : decode cX6_goOn 25 = .ok (.if_icmp .ge 13, 3) := by decide +kernel
theorem dX6_goOn_28 : decode cX6_goOn 28 = .ok (.aload_n 0, 1) := by decide +kernel
theorem dX6_goOn_29 : decode cX6_goOn 29 = .ok (.getfield 37, 3) := by decide +kernel
theorem dX6_goOn_32 : decode cX6_goOn 32 = .ok (.iload_n 3, 1) := by decide +kernel
theorem dX6_goOn_33 : decode cX6_goOn 33 = .ok (.baload, 1) := by decide +kernel
theorem dX6_goOn_34 : decode cX6_goOn 34 = .ok (.iconst 1, 1) := by decide +kernel
theorem dX6_goOn_35 : decode cX6_goOn 35 = .ok (.if_icmp .ne 5, 3) := by decide +kernel
theorem dX6_goOn_38 : decode cX6_goOn 38 = .ok (.iconst 0, 1) := by decide +kernel
theorem dX6_goOn_39 : decode cX6_goOn 39 = .ok (.ireturn, 1) := by decide +kernel
theorem dX6_goOn_40 : decode cX6_goOn 40 = .ok (.iconst 0, 1) := by decide +kernel
theorem dX6_goOn_41 : decode cX6_goOn 41 = .ok (.istore 4, 2) := by decide +kernel
theorem dX6_goOn_43 : decode cX6_goOn 43 = .ok (.iload 4, 2) := by decide +kernel
theorem dX6_goOn_45 : decode cX6_goOn 45 = .ok (.bipush 8, 2) := by decide +kernel
theorem dX6_goOn_47 : decode cX6_goOn 47 = .ok (.if_icmp .ge 99, 3) := by decide +kernel
theorem dX6_goOn_50 : decode cX6_goOn 50 = .ok (.aload_n 0, 1) := by decide +kernel
theorem dX6_goOn_51 : decode cX6_goOn 51 = .ok (.getfield 34, 3) := by decide +kernel
theorem dX6_goOn_54 : decode cX6_goOn 54 = .ok (.iload 4, 2) := by decide +kernel
theorem dX6_goOn_56 : decode cX6_goOn 56 = .ok (.iaload, 1) := by decide +kernel
theorem dX6_goOn_57 : decode cX6_goOn 57 = .ok (.ifCond .le 83, 3) := by decide +kernel
theorem dX6_goOn_60 : decode cX6_goOn 60 = .ok (.aload_n 1, 1) := by decide +kernel
theorem dX6_goOn_61 : decode cX6_goOn 61 = .ok (.iload 4, 2) := by decide +kernel
theorem dX6_goOn_63 : decode cX6_goOn 63 = .ok (.aload_n 0, 1) := by decide +kernel
theorem dX6_goOn_64 : decode cX6_goOn 64 = .ok (.getfield 31, 3) := by decide +kernel
theorem dX6_goOn_67 : decode cX6_goOn 67 = .ok (.iload_n 2, 1) := by decide +kernel
theorem dX6_goOn_68 : decode cX6_goOn 68 = .ok (.bipush 10, 2) := by decide +kernel
theorem dX6_goOn_70 : decode cX6_goOn 70 = .ok (.imul, 1) := by decide +kernel
theorem dX6_goOn_71 : decode cX6_goOn 71 = .ok (.invokevirtual 160, 3) := by decide +kernel
theorem dX6_goOn_74 : decode cX6_goOn 74 = .ok (.ifCond .eq 66, 3) := by decide +kernel
theorem dX6_goOn_77 : decode cX6_goOn 77 = .ok (.aload_n 1, 1) := by decide +kernel
theorem dX6_goOn_78 : decode cX6_goOn 78 = .ok (.iload 4, 2) := by decide +kernel
theorem dX6_goOn_80 : decode cX6_goOn 80 = .ok (.aload_n 0, 1) := by decide +kernel
theorem dX6_goOn_81 : decode cX6_goOn 81 = .ok (.getfield 31, 3) := by decide +kernel
theorem dX6_goOn_84 : decode cX6_goOn 84 = .ok (.iload_n 2, 1) := by decide +kernel
theorem dX6_goOn_85 : decode cX6_goOn 85 = .ok (.bipush 10, 2) := by decide +kernel
theorem dX6_goOn_87 : decode cX6_goOn 87 = .ok (.imul, 1) := by decide +kernel
theorem dX6_goOn_88 : decode cX6_goOn 88 = .ok (.iload_n 2, 1) := by decide +kernel
theorem dX6_goOn_89 : decode cX6_goOn 89 = .ok (.iconst 1, 1) := by decide +kernel
theorem dX6_goOn_90 : decode cX6_goOn 90 = .ok (.iadd, 1) := by decide +kernel
theorem dX6_goOn_91 : decode cX6_goOn 91 = .ok (.bipush 10, 2) := by decide +kernel
theorem dX6_goOn_93 : decode cX6_goOn 93 = .ok (.imul, 1) := by decide +kernel
theorem dX6_goOn_94 : decode cX6_goOn 94 = .ok (.invokevirtual 164, 3) := by decide +kernel
theorem dX6_goOn_97 : decode cX6_goOn 97 = .ok (.aload_n 0, 1) := by decide +kernel
theorem dX6_goOn_98 : decode cX6_goOn 98 = .ok (.getfield 28, 3) := by decide +kernel
theorem dX6_goOn_101 : decode cX6_goOn 101 = .ok (.iload_n 2, 1) := by decide +kernel
theorem dX6_goOn_102 : decode cX6_goOn 102 = .ok (.iload 4, 2) := by decide +kernel
theorem dX6_goOn_104 : decode cX6_goOn 104 = .ok (.iastore, 1) := by decide +kernel
theorem dX6_goOn_105 : decode cX6_goOn 105 = .ok (.aload_n 0, 1) := by decide +kernel
theorem dX6_goOn_106 : decode cX6_goOn 106 = .ok (.getfield 34, 3) := by decide +kernel
theorem dX6_goOn_109 : decode cX6_goOn 109 = .ok (.iload 4, 2) := by decide +kernel
theorem dX6_goOn_111 : decode cX6_goOn 111 = .ok (.dup2, 1) := by decide +kernel
theorem dX6_goOn_112 : decode cX6_goOn 112 = .ok (.iaload, 1) := by decide +kernel
theorem dX6_goOn_113 : decode cX6_goOn 113 = .ok (.iconst 1, 1) := by decide +kernel
theorem dX6_goOn_114 : decode cX6_goOn 114 = .ok (.isub, 1) := by decide +kernel
theorem dX6_goOn_115 : decode cX6_goOn 115 = .ok (.iastore, 1) := by decide +kernel
theorem dX6_goOn_116 : decode cX6_goOn 116 = .ok (.aload_n 0, 1) := by decide +kernel
theorem dX6_goOn_117 : decode cX6_goOn 117 = .ok (.aload_n 1, 1) := by decide +kernel
theorem dX6_goOn_118 : decode cX6_goOn 118 = .ok (.iload_n 2, 1) := by decide +kernel
theorem dX6_goOn_119 : decode cX6_goOn 119 = .ok (.iconst 1, 1) := by decide +kernel
theorem dX6_goOn_120 : decode cX6_goOn 120 = .ok (.iadd, 1) := by decide +kernel
theorem dX6_goOn_121 : decode cX6_goOn 121 = .ok (.invokevirtual 153, 3) := by decide +kernel
theorem dX6_goOn_124 : decode cX6_goOn 124 = .ok (.ifCond .eq 5, 3) := by decide +kernel
theorem dX6_goOn_127 : decode cX6_goOn 127 = .ok (.iconst 1, 1) := by decide +kernel
theorem dX6_goOn_128 : decode cX6_goOn 128 = .ok (.ireturn, 1) := by decide +kernel
theorem dX6_goOn_129 : decode cX6_goOn 129 = .ok (.aload_n 0, 1) := by decide +kernel
theorem dX6_goOn_130 : decode cX6_goOn 130 = .ok (.getfield 34, 3) := by decide +kernel
theorem dX6_goOn_133 : decode cX6_goOn 133 = .ok (.iload 4, 2) := by decide +kernel
theorem dX6_goOn_135 : decode cX6_goOn 135 = .ok (.dup2, 1) := by decide +kernel
theorem dX6_goOn_136 : decode cX6_goOn 136 = .ok (.iaload, 1) := by decide +kernel
theorem dX6_goOn_137 : decode cX6_goOn 137 = .ok (.iconst 1, 1) := by decide +kernel
theorem dX6_goOn_138 : decode cX6_goOn 138 = .ok (.iadd, 1) := by decide +kernel
theorem dX6_goOn_139 : decode cX6_goOn 139 = .ok (.iastore, 1) := by decide +kernel
theorem dX6_goOn_140 : decode cX6_goOn 140 = .ok (.iinc 4 1, 3) := by decide +kernel
theorem dX6_goOn_143 : decode cX6_goOn 143 = .ok (.goto (-100), 3) := by decide +kernel
theorem dX6_goOn_146 : decode cX6_goOn 146 = .ok (.aload_n 0, 1) := by decide +kernel
theorem dX6_goOn_147 : decode cX6_goOn 147 = .ok (.getfield 37, 3) := by decide +kernel
theorem dX6_goOn_150 : decode cX6_goOn 150 = .ok (.iload_n 3, 1) := by decide +kernel
theorem dX6_goOn_151 : decode cX6_goOn 151 = .ok (.iconst 1, 1) := by decide +kernel
theorem dX6_goOn_152 : decode cX6_goOn 152 = .ok (.bastore, 1) := by decide +kernel
theorem dX6_goOn_153 : decode cX6_goOn 153 = .ok (.iconst 0, 1) := by decide +kernel
theorem dX6_goOn_154 : decode cX6_goOn 154 = .ok (.ireturn, 1) := by decide +kernel
theorem dX6_partLeft_0 : decode cX6_partLeft 0 = .ok (.iconst 0, 1) := by decide +kernel
theorem dX6_partLeft_1 : decode cX6_partLeft 1 = .ok (.istore_n 1, 1) := by decide +kernel
theorem dX6_partLeft_2 : decode cX6_partLeft 2 = .ok (.iconst 0, 1) := by decide +kernel
theorem dX6_partLeft_3 : decode cX6_partLeft 3 = .ok (.istore_n 2, 1) := by decide +kernel
theorem dX6_partLeft_4 : decode cX6_partLeft 4 = .ok (.iload_n 2, 1) := by decide +kernel
theorem dX6_partLeft_5 : decode cX6_partLeft 5 = .ok (.bipush 8, 2) := by decide +kernel
theorem dX6_partLeft_7 : decode cX6_partLeft 7 = .ok (.if_icmp .ge 27, 3) := by decide +kernel
theorem dX6_partLeft_10 : decode cX6_partLeft 10 = .ok (.iload_n 1, 1) := by decide +kernel
theorem dX6_partLeft_11 : decode cX6_partLeft 11 = .ok (.aload_n 0, 1) := by decide +kernel
theorem dX6_partLeft_12 : decode cX6_partLeft 12 = .ok (.getfield 25, 3) := by decide +kernel
theorem dX6_partLeft_15 : decode cX6_partLeft 15 = .ok (.iload_n 2, 1) := by decide +kernel
theorem dX6_partLeft_16 : decode cX6_partLeft 16 = .ok (.iaload, 1) := by decide +kernel
theorem dX6_partLeft_17 : decode cX6_partLeft 17 = .ok (.iconst 1, 1) := by decide +kernel
theorem dX6_partLeft_18 : decode cX6_partLeft 18 = .ok (.iadd, 1) := by decide +kernel
theorem dX6_partLeft_19 : decode cX6_partLeft 19 = .ok (.imul, 1) := by decide +kernel
theorem dX6_partLeft_20 : decode cX6_partLeft 20 = .ok (.aload_n 0, 1) := by decide +kernel
theorem dX6_partLeft_21 : decode cX6_partLeft 21 = .ok (.getfield 34, 3) := by decide +kernel
theorem dX6_partLeft_24 : decode cX6_partLeft 24 = .ok (.iload_n 2, 1) := by decide +kernel
theorem dX6_partLeft_25 : decode cX6_partLeft 25 = .ok (.iaload, 1) := by decide +kernel
theorem dX6_partLeft_26 : decode cX6_partLeft 26 = .ok (.iadd, 1) := by decide +kernel
theorem dX6_partLeft_27 : decode cX6_partLeft 27 = .ok (.istore_n 1, 1) := by decide +kernel
theorem dX6_partLeft_28 : decode cX6_partLeft 28 = .ok (.iinc 2 1, 3) := by decide +kernel
theorem dX6_partLeft_31 : decode cX6_partLeft 31 = .ok (.goto (-27), 3) := by decide +kernel
theorem dX6_partLeft_34 : decode cX6_partLeft 34 = .ok (.iload_n 1, 1) := by decide +kernel
theorem dX6_partLeft_35 : decode cX6_partLeft 35 = .ok (.ireturn, 1) := by decide +kernel
theorem dX7_init_0 : decode cX7_init 0 = .ok (.aload_n 0, 1) := by decide +kernel
theorem dX7_init_1 : decode cX7_init 1 = .ok (.invokespecial 3, 3) := by decide +kernel
theorem dX7_init_4 : decode cX7_init 4 = .ok (.aload_n 0, 1) := by decide +kernel
theorem dX7_init_5 : decode cX7_init 5 = .ok (.sipush 220, 3) := by decide +kernel
theorem dX7_init_8 : decode cX7_init 8 = .ok (.newarray .long, 2) := by decide +kernel
theorem dX7_init_10 : decode cX7_init 10 = .ok (.putfield 11, 3) := by decide +kernel
theorem dX7_init_13 : decode cX7_init 13 = .ok (.aload_n 0, 1) := by decide +kernel
theorem dX7_init_14 : decode cX7_init 14 = .ok (.bipush 11, 2) := by decide +kernel
theorem dX7_init_16 : decode cX7_init 16 = .ok (.newarray .int, 2) := by decide +kernel
theorem dX7_init_18 : decode cX7_init 18 = .ok (.putfield 15, 3) := by decide +kernel
theorem dX7_init_21 : decode cX7_init 21 = .ok (.aload_n 0, 1) := by decide +kernel
theorem dX7_init_22 : decode cX7_init 22 = .ok (.sipush 256, 3) := by decide +kernel
theorem dX7_init_25 : decode cX7_init 25 = .ok (.newarray .int, 2) := by decide +kernel
theorem dX7_init_27 : decode cX7_init 27 = .ok (.putfield 19, 3) := by decide +kernel
theorem dX7_init_30 : decode cX7_init 30 = .ok (.aload_n 0, 1) := by decide +kernel
theorem dX7_init_31 : decode cX7_init 31 = .ok (.sipush 2560, 3) := by decide +kernel
theorem dX7_init_34 : decode cX7_init 34 = .ok (.newarray .int, 2) := by decide +kernel
theorem dX7_init_36 : decode cX7_init 36 = .ok (.putfield 22, 3) := by decide +kernel
theorem dX7_init_39 : decode cX7_init 39 = .ok (.aload_n 0, 1) := by decide +kernel
theorem dX7_init_40 : decode cX7_init 40 = .ok (.iconst 0, 1) := by decide +kernel
theorem dX7_init_41 : decode cX7_init 41 = .ok (.putfield 25, 3) := by decide +kernel
theorem dX7_init_44 : decode cX7_init 44 = .ok (.aload_n 0, 1) := by decide +kernel
theorem dX7_init_45 : decode cX7_init 45 = .ok (.iconst 0, 1) := by decide +kernel
theorem dX7_init_46 : decode cX7_init 46 = .ok (.putfield 29, 3) := by decide +kernel
theorem dX7_init_49 : decode cX7_init 49 = .ok (.aload_n 0, 1) := by decide +kernel
theorem dX7_init_50 : decode cX7_init 50 = .ok (.iconst (-1), 1) := by decide +kernel
theorem dX7_init_51 : decode cX7_init 51 = .ok (.putfield 32, 3) := by decide +kernel
theorem dX7_init_54 : decode cX7_init 54 = .ok (.aload_n 0, 1) := by decide +kernel
theorem dX7_init_55 : decode cX7_init 55 = .ok (.iload_n 1, 1) := by decide +kernel
theorem dX7_init_56 : decode cX7_init 56 = .ok (.putfield 35, 3) := by decide +kernel
theorem dX7_init_59 : decode cX7_init 59 = .ok (.return_, 1) := by decide +kernel
theorem dX7_findLeast_0 : decode cX7_findLeast 0 = .ok (.aload_n 0, 1) := by decide +kernel
theorem dX7_findLeast_1 : decode cX7_findLeast 1 = .ok (.getfield 32, 3) := by decide +kernel
theorem dX7_findLeast_4 : decode cX7_findLeast 4 = .ok (.aload_n 1, 1) := by decide +kernel
theorem dX7_findLeast_5 : decode cX7_findLeast 5 = .ok (.getfield 39, 3) := by decide +kernel
theorem dX7_findLeast_8 : decode cX7_findLeast 8 = .ok (.if_icmp .ne 4, 3) := by decide +kernel
theorem dX7_findLeast_11 : decode cX7_findLeast 11 = .ok (.return_, 1) := by decide +kernel
theorem dX7_findLeast_12 : decode cX7_findLeast 12 = .ok (.aload_n 0, 1) := by decide +kernel
theorem dX7_findLeast_13 : decode cX7_findLeast 13 = .ok (.aload_n 1, 1) := by decide +kernel
theorem dX7_findLeast_14 : decode cX7_findLeast 14 = .ok (.getfield 39, 3) := by decide +kernel
theorem dX7_findLeast_17 : decode cX7_findLeast 17 = .ok (.putfield 32, 3) := by decide +kernel
theorem dX7_findLeast_20 : decode cX7_findLeast 20 = .ok (.aload_n 0, 1) := by decide +kernel
theorem dX7_findLeast_21 : decode cX7_findLeast 21 = .ok (.iconst 0, 1) := by decide +kernel
theorem dX7_findLeast_22 : decode cX7_findLeast 22 = .ok (.putfield 25, 3) := by decide +kernel
theorem dX7_findLeast_25 : decode cX7_findLeast 25 = .ok (.aload_n 0, 1) := by decide +kernel
theorem dX7_findLeast_26 : decode cX7_findLeast 26 = .ok (.iconst 0, 1) := by decide +kernel
theorem dX7_findLeast_27 : decode cX7_findLeast 27 = .ok (.putfield 29, 3) := by decide +kernel
theorem dX7_findLeast_30 : decode cX7_findLeast 30 = .ok (.aload_n 0, 1) := by decide +kernel
theorem dX7_findLeast_31 : decode cX7_findLeast 31 = .ok (.aload_n 1, 1) := by decide +kernel
theorem dX7_findLeast_32 : decode cX7_findLeast 32 = .ok (.bipush 9, 2) := by decide +kernel
theorem dX7_findLeast_34 : decode cX7_findLeast 34 = .ok (.iconst 0, 1) := by decide +kernel
theorem dX7_findLeast_35 : decode cX7_findLeast 35 = .ok (.iconst 0, 1) := by decide +kernel
theorem dX7_findLeast_36 : decode cX7_findLeast 36 = .ok (.invokevirtual 42, 3) := by decide +kernel
theorem dX7_findLeast_39 : decode cX7_findLeast 39 = .ok (.return_, 1) := by decide +kernel
theorem dX7_rankOf_0 : decode cX7_rankOf 0 = .ok (.iconst 0, 1) := by decide +kernel
theorem dX7_rankOf_1 : decode cX7_rankOf 1 = .ok (.istore_n 2, 1) := by decide +kernel
theorem dX7_rankOf_2 : decode cX7_rankOf 2 = .ok (.iconst 0, 1) := by decide +kernel
theorem dX7_rankOf_3 : decode cX7_rankOf 3 = .ok (.istore_n 3, 1) := by decide +kernel
theorem dX7_rankOf_4 : decode cX7_rankOf 4 = .ok (.iload_n 3, 1) := by decide +kernel
theorem dX7_rankOf_5 : decode cX7_rankOf 5 = .ok (.bipush 10, 2) := by decide +kernel
theorem dX7_rankOf_7 : decode cX7_rankOf 7 = .ok (.if_icmp .ge 31, 3) := by decide +kernel
theorem dX7_rankOf_10 : decode cX7_rankOf 10 = .ok (.aload_n 0, 1) := by decide +kernel
theorem dX7_rankOf_11 : decode cX7_rankOf 11 = .ok (.aload_n 1, 1) := by decide +kernel
theorem dX7_rankOf_12 : decode cX7_rankOf 12 = .ok (.iload_n 3, 1) := by decide +kernel
theorem dX7_rankOf_13 : decode cX7_rankOf 13 = .ok (.invokevirtual 46, 3) := by decide +kernel
theorem dX7_rankOf_16 : decode cX7_rankOf 16 = .ok (.ifCond .eq 16, 3) := by decide +kernel
theorem dX7_rankOf_19 : decode cX7_rankOf 19 = .ok (.aload_n 0, 1) := by decide +kernel
theorem dX7_rankOf_20 : decode cX7_rankOf 20 = .ok (.aload_n 1, 1) := by decide +kernel
theorem dX7_rankOf_21 : decode cX7_rankOf 21 = .ok (.iload_n 3, 1) := by decide +kernel
theorem dX7_rankOf_22 : decode cX7_rankOf 22 = .ok (.iload_n 2, 1) := by decide +kernel
theorem dX7_rankOf_23 : decode cX7_rankOf 23 = .ok (.invokevirtual 50, 3) := by decide +kernel
theorem dX7_rankOf_26 : decode cX7_rankOf 26 = .ok (.ifCond .eq 6, 3) := by decide +kernel
theorem dX7_rankOf_29 : decode cX7_rankOf 29 = .ok (.iinc 2 1, 3) := by decide +kernel
theorem dX7_rankOf_32 : decode cX7_rankOf 32 = .ok (.iinc 3 1, 3) := by decide +kernel
theorem dX7_rankOf_35 : decode cX7_rankOf 35 = .ok (.goto (-31), 3) := by decide +kernel
theorem dX7_rankOf_38 : decode cX7_rankOf 38 = .ok (.iload_n 2, 1) := by decide +kernel
theorem dX7_rankOf_39 : decode cX7_rankOf 39 = .ok (.ireturn, 1) := by decide +kernel
theorem dX7_search_0 : decode cX7_search 0 = .ok (.iload_n 2, 1) := by decide +kernel
theorem dX7_search_1 : decode cX7_search 1 = .ok (.ifCond .lt 10, 3) := by decide +kernel
theorem dX7_search_4 : decode cX7_search 4 = .ok (.iload 4, 2) := by decide +kernel
theorem dX7_search_6 : decode cX7_search 6 = .ok (.bipush 10, 2) := by decide +kernel
theorem dX7_search_8 : decode cX7_search 8 = .ok (.if_icmp .le 4, 3) := by decide +kernel
theorem dX7_search_11 : decode cX7_search 11 = .ok (.return_, 1) := by decide +kernel
theorem dX7_search_12 : decode cX7_search 12 = .ok (.aload_n 0, 1) := by decide +kernel
theorem dX7_search_13 : decode cX7_search 13 = .ok (.aload_n 1, 1) := by decide +kernel
theorem dX7_search_14 : decode cX7_search 14 = .ok (.iload_n 2, 1) := by decide +kernel
theorem dX7_search_15 : decode cX7_search 15 = .ok (.iconst 1, 1) := by decide +kernel
theorem dX7_search_16 : decode cX7_search 16 = .ok (.isub, 1) := by decide +kernel
theorem dX7_search_17 : decode cX7_search 17 = .ok (.iload_n 3, 1) := by decide +kernel
theorem dX7_search_18 : decode cX7_search 18 = .ok (.iload 4, 2) := by decide +kernel
theorem dX7_search_20 : decode cX7_search 20 = .ok (.invokevirtual 42, 3) := by decide +kernel
theorem dX7_search_23 : decode cX7_search 23 = .ok (.aload_n 0, 1) := by decide +kernel
theorem dX7_search_24 : decode cX7_search 24 = .ok (.aload_n 1, 1) := by decide +kernel
theorem dX7_search_25 : decode cX7_search 25 = .ok (.iload_n 2, 1) := by decide +kernel
theorem dX7_search_26 : decode cX7_search 26 = .ok (.invokevirtual 46, 3) := by decide +kernel
theorem dX7_search_29 : decode cX7_search 29 = .ok (.ifCond .ne 4, 3) := by decide +kernel
theorem dX7_search_32 : decode cX7_search 32 = .ok (.return_, 1) := by decide +kernel
theorem dX7_search_33 : decode cX7_search 33 = .ok (.aload_n 0, 1) := by decide +kernel
theorem dX7_search_34 : decode cX7_search 34 = .ok (.aload_n 1, 1) := by decide +kernel
theorem dX7_search_35 : decode cX7_search 35 = .ok (.iload_n 2, 1) := by decide +kernel
theorem dX7_search_36 : decode cX7_search 36 = .ok (.iload 4, 2) := by decide +kernel
theorem dX7_search_38 : decode cX7_search 38 = .ok (.invokevirtual 50, 3) := by decide +kernel
theorem dX7_search_41 : decode cX7_search 41 = .ok (.ifCond .eq 23, 3) := by decide +kernel
theorem dX7_search_44 : decode cX7_search 44 = .ok (.aload_n 0, 1) := by decide +kernel
theorem dX7_search_45 : decode cX7_search 45 = .ok (.aload_n 1, 1) := by decide +kernel
theorem dX7_search_46 : decode cX7_search 46 = .ok (.iload_n 2, 1) := by decide +kernel
theorem dX7_search_47 : decode cX7_search 47 = .ok (.iconst 1, 1) := by decide +kernel
theorem dX7_search_48 : decode cX7_search 48 = .ok (.isub, 1) := by decide +kernel
theorem dX7_search_49 : decode cX7_search 49 = .ok (.iload_n 3, 1) := by decide +kernel
theorem dX7_search_50 : decode cX7_search 50 = .ok (.iconst 1, 1) := by decide +kernel
theorem dX7_search_51 : decode cX7_search 51 = .ok (.iload_n 2, 1) := by decide +kernel
theorem dX7_search_52 : decode cX7_search 52 = .ok (.ishl, 1) := by decide +kernel
theorem dX7_search_53 : decode cX7_search 53 = .ok (.ior, 1) := by decide +kernel
theorem dX7_search_54 : decode cX7_search 54 = .ok (.iload 4, 2) := by decide +kernel
theorem dX7_search_56 : decode cX7_search 56 = .ok (.iconst 1, 1) := by decide +kernel
theorem dX7_search_57 : decode cX7_search 57 = .ok (.iadd, 1) := by decide +kernel
theorem dX7_search_58 : decode cX7_search 58 = .ok (.invokevirtual 42, 3) := by decide +kernel
theorem dX7_search_61 : decode cX7_search 61 = .ok (.goto 20, 3) := by decide +kernel
theorem dX7_search_64 : decode cX7_search 64 = .ok (.aload_n 0, 1) := by decide +kernel
theorem dX7_search_65 : decode cX7_search 65 = .ok (.iload_n 3, 1) := by decide +kernel
theorem dX7_search_66 : decode cX7_search 66 = .ok (.iconst 1, 1) := by decide +kernel
theorem dX7_search_67 : decode cX7_search 67 = .ok (.iload_n 2, 1) := by decide +kernel
theorem dX7_search_68 : decode cX7_search 68 = .ok (.ishl, 1) := by decide +kernel
theorem dX7_search_69 : decode cX7_search 69 = .ok (.ior, 1) := by decide +kernel
theorem dX7_search_70 : decode cX7_search 70 = .ok (.iload 4, 2) := by decide +kernel
theorem dX7_search_72 : decode cX7_search 72 = .ok (.bipush 20, 2) := by decide +kernel
theorem dX7_search_74 : decode cX7_search 74 = .ok (.imul, 1) := by decide +kernel
theorem dX7_search_75 : decode cX7_search 75 = .ok (.bipush 10, 2) := by decide +kernel
theorem dX7_search_77 : decode cX7_search 77 = .ok (.iadd, 1) := by decide +kernel
theorem dX7_search_78 : decode cX7_search 78 = .ok (.invokevirtual 54, 3) := by decide +kernel
theorem dX7_search_81 : decode cX7_search 81 = .ok (.return_, 1) := by decide +kernel
theorem dX7_isUnit_0 : decode cX7_isUnit 0 = .ok (.aload_n 0, 1) := by decide +kernel
theorem dX7_isUnit_1 : decode cX7_isUnit 1 = .ok (.getfield 35, 3) := by decide +kernel
theorem dX7_isUnit_4 : decode cX7_isUnit 4 = .ok (.ifCond .eq 11, 3) := by decide +kernel
theorem dX7_isUnit_7 : decode cX7_isUnit 7 = .ok (.aload_n 1, 1) := by decide +kernel
theorem dX7_isUnit_8 : decode cX7_isUnit 8 = .ok (.iload_n 2, 1) := by decide +kernel
theorem dX7_isUnit_9 : decode cX7_isUnit 9 = .ok (.invokevirtual 58, 3) := by decide +kernel
theorem dX7_isUnit_12 : decode cX7_isUnit 12 = .ok (.goto 8, 3) := by decide +kernel
theorem dX7_isUnit_15 : decode cX7_isUnit 15 = .ok (.aload_n 1, 1) := by decide +kernel
theorem dX7_isUnit_16 : decode cX7_isUnit 16 = .ok (.iload_n 2, 1) := by decide +kernel
theorem dX7_isUnit_17 : decode cX7_isUnit 17 = .ok (.invokevirtual 62, 3) := by decide +kernel
theorem dX7_isUnit_20 : decode cX7_isUnit 20 = .ok (.ireturn, 1) := by decide +kernel
theorem dX7_isIndependent_0 : decode cX7_isIndependent 0 = .ok (.iload_n 3, 1) := by decide +kernel
theorem dX7_isIndependent_1 : decode cX7_isIndependent 1 = .ok (.bipush 20, 2) := by decide +kernel
theorem dX7_isIndependent_3 : decode cX7_isIndependent 3 = .ok (.imul, 1) := by decide +kernel
theorem dX7_isIndependent_4 : decode cX7_isIndependent 4 = .ok (.istore 4, 2) := by decide +kernel
theorem dX7_isIndependent_6 : decode cX7_isIndependent 6 = .ok (.iconst 0, 1) := by decide +kernel
theorem dX7_isIndependent_7 : decode cX7_isIndependent 7 = .ok (.istore 5, 2) := by decide +kernel
theorem dX7_isIndependent_9 : decode cX7_isIndependent 9 = .ok (.iload 5, 2) := by decide +kernel
theorem dX7_isIndependent_11 : decode cX7_isIndependent 11 = .ok (.bipush 10, 2) := by decide +kernel
theorem dX7_isIndependent_13 : decode cX7_isIndependent 13 = .ok (.if_icmp .ge 52, 3) := by decide +kernel
theorem dX7_isIndependent_16 : decode cX7_isIndependent 16 = .ok (.aload_n 0, 1) := by decide +kernel
theorem dX7_isIndependent_17 : decode cX7_isIndependent 17 = .ok (.getfield 11, 3) := by decide +kernel
theorem dX7_isIndependent_20 : decode cX7_isIndependent 20 = .ok (.iload 4, 2) := by decide +kernel
theorem dX7_isIndependent_22 : decode cX7_isIndependent 22 = .ok (.iload 5, 2) := by decide +kernel
theorem dX7_isIndependent_24 : decode cX7_isIndependent 24 = .ok (.iadd, 1) := by decide +kernel
theorem dX7_isIndependent_25 : decode cX7_isIndependent 25 = .ok (.aload_n 0, 1) := by decide +kernel
theorem dX7_isIndependent_26 : decode cX7_isIndependent 26 = .ok (.aload_n 1, 1) := by decide +kernel
theorem dX7_isIndependent_27 : decode cX7_isIndependent 27 = .ok (.iload_n 2, 1) := by decide +kernel
theorem dX7_isIndependent_28 : decode cX7_isIndependent 28 = .ok (.iload 5, 2) := by decide +kernel
theorem dX7_isIndependent_30 : decode cX7_isIndependent 30 = .ok (.invokevirtual 65, 3) := by decide +kernel
theorem dX7_isIndependent_33 : decode cX7_isIndependent 33 = .ok (.i2l, 1) := by decide +kernel
theorem dX7_isIndependent_34 : decode cX7_isIndependent 34 = .ok (.lastore, 1) := by decide +kernel
theorem dX7_isIndependent_35 : decode cX7_isIndependent 35 = .ok (.aload_n 0, 1) := by decide +kernel
theorem dX7_isIndependent_36 : decode cX7_isIndependent 36 = .ok (.getfield 11, 3) := by decide +kernel
theorem dX7_isIndependent_39 : decode cX7_isIndependent 39 = .ok (.iload 4, 2) := by decide +kernel
theorem dX7_isIndependent_41 : decode cX7_isIndependent 41 = .ok (.bipush 10, 2) := by decide +kernel
theorem dX7_isIndependent_43 : decode cX7_isIndependent 43 = .ok (.iadd, 1) := by decide +kernel
theorem dX7_isIndependent_44 : decode cX7_isIndependent 44 = .ok (.iload 5, 2) := by decide +kernel
theorem dX7_isIndependent_46 : decode cX7_isIndependent 46 = .ok (.iadd, 1) := by decide +kernel
theorem dX7_isIndependent_47 : decode cX7_isIndependent 47 = .ok (.iload 5, 2) := by decide +kernel
theorem dX7_isIndependent_49 : decode cX7_isIndependent 49 = .ok (.iload_n 2, 1) := by decide +kernel
theorem dX7_isIndependent_50 : decode cX7_isIndependent 50 = .ok (.if_icmp .ne 7, 3) := by decide +kernel
theorem dX7_isIndependent_53 : decode cX7_isIndependent 53 = .ok (.lconst 1, 1) := by decide +kernel
theorem dX7_isIndependent_54 : decode cX7_isIndependent 54 = .ok (.goto 4, 3) := by decide +kernel
theorem dX7_isIndependent_57 : decode cX7_isIndependent 57 = .ok (.lconst 0, 1) := by decide +kernel
theorem dX7_isIndependent_58 : decode cX7_isIndependent 58 = .ok (.lastore, 1) := by decide +kernel
theorem dX7_isIndependent_59 : decode cX7_isIndependent 59 = .ok (.iinc 5 1, 3) := by decide +kernel
theorem dX7_isIndependent_62 : decode cX7_isIndependent 62 = .ok (.goto (-53), 3) := by decide +kernel
theorem dX7_isIndependent_65 : decode cX7_isIndependent 65 = .ok (.iconst 0, 1) := by decide +kernel
theorem dX7_isIndependent_66 : decode cX7_isIndependent 66 = .ok (.istore 5, 2) := by decide +kernel
theorem dX7_isIndependent_68 : decode cX7_isIndependent 68 = .ok (.iload 5, 2) := by decide +kernel
theorem dX7_isIndependent_70 : decode cX7_isIndependent 70 = .ok (.iload_n 3, 1) := by decide +kernel
theorem dX7_isIndependent_71 : decode cX7_isIndependent 71 = .ok (.if_icmp .ge 28, 3) := by decide +kernel
theorem dX7_isIndependent_74 : decode cX7_isIndependent 74 = .ok (.aload_n 0, 1) := by decide +kernel
theorem dX7_isIndependent_75 : decode cX7_isIndependent 75 = .ok (.getfield 11, 3) := by decide +kernel
theorem dX7_isIndependent_78 : decode cX7_isIndependent 78 = .ok (.iload_n 3, 1) := by decide +kernel
theorem dX7_isIndependent_79 : decode cX7_isIndependent 79 = .ok (.iload 5, 2) := by decide +kernel
theorem dX7_isIndependent_81 : decode cX7_isIndependent 81 = .ok (.aload_n 0, 1) := by decide +kernel
theorem dX7_isIndependent_82 : decode cX7_isIndependent 82 = .ok (.getfield 15, 3) := by decide +kernel
theorem dX7_isIndependent_85 : decode cX7_isIndependent 85 = .ok (.iload 5, 2) := by decide +kernel
theorem dX7_isIndependent_87 : decode cX7_isIndependent 87 = .ok (.iaload, 1) := by decide +kernel
theorem dX7_isIndependent_88 : decode cX7_isIndependent 88 = .ok (.bipush 20, 2) := by decide +kernel
theorem dX7_isIndependent_90 : decode cX7_isIndependent 90 = .ok (.invokestatic 69, 3) := by decide +kernel
theorem dX7_isIndependent_93 : decode cX7_isIndependent 93 = .ok (.iinc 5 1, 3) := by decide +kernel
theorem dX7_isIndependent_96 : decode cX7_isIndependent 96 = .ok (.goto (-28), 3) := by decide +kernel
theorem dX7_isIndependent_99 : decode cX7_isIndependent 99 = .ok (.iconst 0, 1) := by decide +kernel
theorem dX7_isIndependent_100 : decode cX7_isIndependent 100 = .ok (.istore 5, 2) := by decide +kernel
theorem dX7_isIndependent_102 : decode cX7_isIndependent 102 = .ok (.iload 5, 2) := by decide +kernel
theorem dX7_isIndependent_104 : decode cX7_isIndependent 104 = .ok (.bipush 10, 2) := by decide +kernel
theorem dX7_isIndependent_106 : decode cX7_isIndependent 106 = .ok (.if_icmp .ge 34, 3) := by decide +kernel
theorem dX7_isIndependent_109 : decode cX7_isIndependent 109 = .ok (.aload_n 0, 1) := by decide +kernel
theorem dX7_isIndependent_110 : decode cX7_isIndependent 110 = .ok (.getfield 11, 3) := by decide +kernel
theorem dX7_isIndependent_113 : decode cX7_isIndependent 113 = .ok (.iload 4, 2) := by decide +kernel
theorem dX7_isIndependent_115 : decode cX7_isIndependent 115 = .ok (.iload 5, 2) := by decide +kernel
theorem dX7_isIndependent_117 : decode cX7_isIndependent 117 = .ok (.iadd, 1) := by decide +kernel
theorem dX7_isIndependent_118 : decode cX7_isIndependent 118 = .ok (.laload, 1) := by decide +kernel
theorem dX7_isIndependent_119 : decode cX7_isIndependent 119 = .ok (.lconst 0, 1) := by decide +kernel
theorem dX7_isIndependent_120 : decode cX7_isIndependent 120 = .ok (.lcmp, 1) := by decide +kernel
theorem dX7_isIndependent_121 : decode cX7_isIndependent 121 = .ok (.ifCond .eq 13, 3) := by decide +kernel
theorem dX7_isIndependent_124 : decode cX7_isIndependent 124 = .ok (.aload_n 0, 1) := by decide +kernel
theorem dX7_isIndependent_125 : decode cX7_isIndependent 125 = .ok (.getfield 15, 3) := by decide +kernel
theorem dX7_isIndependent_128 : decode cX7_isIndependent 128 = .ok (.iload_n 3, 1) := by decide +kernel
theorem dX7_isIndependent_129 : decode cX7_isIndependent 129 = .ok (.iload 5, 2) := by decide +kernel
theorem dX7_isIndependent_131 : decode cX7_isIndependent 131 = .ok (.iastore, 1) := by decide +kernel
theorem dX7_isIndependent_132 : decode cX7_isIndependent 132 = .ok (.iconst 1, 1) := by decide +kernel
theorem dX7_isIndependent_133 : decode cX7_isIndependent 133 = .ok (.ireturn, 1) := by decide +kernel
theorem dX7_isIndependent_134 : decode cX7_isIndependent 134 = .ok (.iinc 5 1, 3) := by decide +kernel
theorem dX7_isIndependent_137 : decode cX7_isIndependent 137 = .ok (.goto (-35), 3) := by decide +kernel
theorem dX7_isIndependent_140 : decode cX7_isIndependent 140 = .ok (.iconst 0, 1) := by decide +kernel
theorem dX7_isIndependent_141 : decode cX7_isIndependent 141 = .ok (.ireturn, 1) := by decide +kernel
theorem dX7_changeOf_0 : decode cX7_changeOf 0 = .ok (.aload_n 0, 1) := by decide +kernel
theorem dX7_changeOf_1 : decode cX7_changeOf 1 = .ok (.getfield 35, 3) := by decide +kernel
theorem dX7_changeOf_4 : decode cX7_changeOf 4 = .ok (.ifCond .eq 10, 3) := by decide +kernel
theorem dX7_changeOf_7 : decode cX7_changeOf 7 = .ok (.aload_n 1, 1) := by decide +kernel
theorem dX7_changeOf_8 : decode cX7_changeOf 8 = .ok (.iload_n 2, 1) := by decide +kernel
theorem dX7_changeOf_9 : decode cX7_changeOf 9 = .ok (.iload_n 3, 1) := by decide +kernel
theorem dX7_changeOf_10 : decode cX7_changeOf 10 = .ok (.invokevirtual 73, 3) := by decide +kernel
theorem dX7_changeOf_13 : decode cX7_changeOf 13 = .ok (.ireturn, 1) := by decide +kernel
theorem dX7_changeOf_14 : decode cX7_changeOf 14 = .ok (.iload_n 3, 1) := by decide +kernel
theorem dX7_changeOf_15 : decode cX7_changeOf 15 = .ok (.bipush 8, 2) := by decide +kernel
theorem dX7_changeOf_17 : decode cX7_changeOf 17 = .ok (.if_icmp .ge 12, 3) := by decide +kernel
theorem dX7_changeOf_20 : decode cX7_changeOf 20 = .ok (.aload_n 1, 1) := by decide +kernel
theorem dX7_changeOf_21 : decode cX7_changeOf 21 = .ok (.iload_n 3, 1) := by decide +kernel
theorem dX7_changeOf_22 : decode cX7_changeOf 22 = .ok (.iload_n 2, 1) := by decide +kernel
theorem dX7_changeOf_23 : decode cX7_changeOf 23 = .ok (.invokevirtual 73, 3) := by decide +kernel
theorem dX7_changeOf_26 : decode cX7_changeOf 26 = .ok (.goto 4, 3) := by decide +kernel
theorem dX7_changeOf_29 : decode cX7_changeOf 29 = .ok (.iconst 0, 1) := by decide +kernel
theorem dX7_changeOf_30 : decode cX7_changeOf 30 = .ok (.ireturn, 1) := by decide +kernel
theorem dX7_keepIfAbove_0 : decode cX7_keepIfAbove 0 = .ok (.iconst 1, 1) := by decide +kernel
theorem dX7_keepIfAbove_1 : decode cX7_keepIfAbove 1 = .ok (.istore_n 3, 1) := by decide +kernel
theorem dX7_keepIfAbove_2 : decode cX7_keepIfAbove 2 = .ok (.iconst 1, 1) := by decide +kernel
theorem dX7_keepIfAbove_3 : decode cX7_keepIfAbove 3 = .ok (.istore 4, 2) := by decide +kernel
theorem dX7_keepIfAbove_5 : decode cX7_keepIfAbove 5 = .ok (.iconst 0, 1) := by decide +kernel
theorem dX7_keepIfAbove_6 : decode cX7_keepIfAbove 6 = .ok (.istore 5, 2) := by decide +kernel
theorem dX7_keepIfAbove_8 : decode cX7_keepIfAbove 8 = .ok (.iload 5, 2) := by decide +kernel
theorem dX7_keepIfAbove_10 : decode cX7_keepIfAbove 10 = .ok (.bipush 10, 2) := by decide +kernel
theorem dX7_keepIfAbove_12 : decode cX7_keepIfAbove 12 = .ok (.if_icmp .ge 69, 3) := by decide +kernel
theorem dX7_keepIfAbove_15 : decode cX7_keepIfAbove 15 = .ok (.iload_n 1, 1) := by decide +kernel
theorem dX7_keepIfAbove_16 : decode cX7_keepIfAbove 16 = .ok (.iload 5, 2) := by decide +kernel
theorem dX7_keepIfAbove_18 : decode cX7_keepIfAbove 18 = .ok (.ishr, 1) := by decide +kernel
theorem dX7_keepIfAbove_19 : decode cX7_keepIfAbove 19 = .ok (.iconst 1, 1) := by decide +kernel
theorem dX7_keepIfAbove_20 : decode cX7_keepIfAbove 20 = .ok (.iand, 1) := by decide +kernel
theorem dX7_keepIfAbove_21 : decode cX7_keepIfAbove 21 = .ok (.iconst 1, 1) := by decide +kernel
theorem dX7_keepIfAbove_22 : decode cX7_keepIfAbove 22 = .ok (.if_icmp .ne 53, 3) := by decide +kernel
theorem dX7_keepIfAbove_25 : decode cX7_keepIfAbove 25 = .ok (.iload_n 3, 1) := by decide +kernel
theorem dX7_keepIfAbove_26 : decode cX7_keepIfAbove 26 = .ok (.ifCond .eq 21, 3) := by decide +kernel
theorem dX7_keepIfAbove_29 : decode cX7_keepIfAbove 29 = .ok (.aload_n 0, 1) := by decide +kernel
theorem dX7_keepIfAbove_30 : decode cX7_keepIfAbove 30 = .ok (.getfield 11, 3) := by decide +kernel
theorem dX7_keepIfAbove_33 : decode cX7_keepIfAbove 33 = .ok (.iload_n 2, 1) := by decide +kernel
theorem dX7_keepIfAbove_34 : decode cX7_keepIfAbove 34 = .ok (.iload 5, 2) := by decide +kernel
theorem dX7_keepIfAbove_36 : decode cX7_keepIfAbove 36 = .ok (.iadd, 1) := by decide +kernel
theorem dX7_keepIfAbove_37 : decode cX7_keepIfAbove 37 = .ok (.laload, 1) := by decide +kernel
theorem dX7_keepIfAbove_38 : decode cX7_keepIfAbove 38 = .ok (.lconst 0, 1) := by decide +kernel
theorem dX7_keepIfAbove_39 : decode cX7_keepIfAbove 39 = .ok (.lcmp, 1) := by decide +kernel
theorem dX7_keepIfAbove_40 : decode cX7_keepIfAbove 40 = .ok (.ifCond .le 7, 3) := by decide +kernel
theorem dX7_keepIfAbove_43 : decode cX7_keepIfAbove 43 = .ok (.iconst 1, 1) := by decide +kernel
theorem dX7_keepIfAbove_44 : decode cX7_keepIfAbove 44 = .ok (.goto 4, 3) := by decide +kernel
theorem dX7_keepIfAbove_47 : decode cX7_keepIfAbove 47 = .ok (.iconst 0, 1) := by decide +kernel
theorem dX7_keepIfAbove_48 : decode cX7_keepIfAbove 48 = .ok (.istore_n 3, 1) := by decide +kernel
theorem dX7_keepIfAbove_49 : decode cX7_keepIfAbove 49 = .ok (.iload 4, 2) := by decide +kernel
theorem dX7_keepIfAbove_51 : decode cX7_keepIfAbove 51 = .ok (.ifCond .eq 21, 3) := by decide +kernel
theorem dX7_keepIfAbove_54 : decode cX7_keepIfAbove 54 = .ok (.aload_n 0, 1) := by decide +kernel
theorem dX7_keepIfAbove_55 : decode cX7_keepIfAbove 55 = .ok (.getfield 11, 3) := by decide +kernel
theorem dX7_keepIfAbove_58 : decode cX7_keepIfAbove 58 = .ok (.iload_n 2, 1) := by decide +kernel
theorem dX7_keepIfAbove_59 : decode cX7_keepIfAbove 59 = .ok (.iload 5, 2) := by decide +kernel
theorem dX7_keepIfAbove_61 : decode cX7_keepIfAbove 61 = .ok (.iadd, 1) := by decide +kernel
theorem dX7_keepIfAbove_62 : decode cX7_keepIfAbove 62 = .ok (.laload, 1) := by decide +kernel
theorem dX7_keepIfAbove_63 : decode cX7_keepIfAbove 63 = .ok (.lconst 0, 1) := by decide +kernel
theorem dX7_keepIfAbove_64 : decode cX7_keepIfAbove 64 = .ok (.lcmp, 1) := by decide +kernel
theorem dX7_keepIfAbove_65 : decode cX7_keepIfAbove 65 = .ok (.ifCond .ge 7, 3) := by decide +kernel
theorem dX7_keepIfAbove_68 : decode cX7_keepIfAbove 68 = .ok (.iconst 1, 1) := by decide +kernel
theorem dX7_keepIfAbove_69 : decode cX7_keepIfAbove 69 = .ok (.goto 4, 3) := by decide +kernel
theorem dX7_keepIfAbove_72 : decode cX7_keepIfAbove 72 = .ok (.iconst 0, 1) := by decide +kernel
theorem dX7_keepIfAbove_73 : decode cX7_keepIfAbove 73 = .ok (.istore 4, 2) := by decide +kernel
theorem dX7_keepIfAbove_75 : decode cX7_keepIfAbove 75 = .ok (.iinc 5 1, 3) := by decide +kernel
theorem dX7_keepIfAbove_78 : decode cX7_keepIfAbove 78 = .ok (.goto (-70), 3) := by decide +kernel
theorem dX7_keepIfAbove_81 : decode cX7_keepIfAbove 81 = .ok (.aload_n 0, 1) := by decide +kernel
theorem dX7_keepIfAbove_82 : decode cX7_keepIfAbove 82 = .ok (.getfield 25, 3) := by decide +kernel
theorem dX7_keepIfAbove_85 : decode cX7_keepIfAbove 85 = .ok (.sipush 256, 3) := by decide +kernel
theorem dX7_keepIfAbove_88 : decode cX7_keepIfAbove 88 = .ok (.if_icmp .ge 12, 3) := by decide +kernel
theorem dX7_keepIfAbove_91 : decode cX7_keepIfAbove 91 = .ok (.iload_n 3, 1) := by decide +kernel
theorem dX7_keepIfAbove_92 : decode cX7_keepIfAbove 92 = .ok (.ifCond .ne 9, 3) := by decide +kernel
theorem dX7_keepIfAbove_95 : decode cX7_keepIfAbove 95 = .ok (.iload 4, 2) := by decide +kernel
theorem dX7_keepIfAbove_97 : decode cX7_keepIfAbove 97 = .ok (.ifCond .ne 4, 3) := by decide +kernel
theorem dX7_keepIfAbove_100 : decode cX7_keepIfAbove 100 = .ok (.return_, 1) := by decide +kernel
theorem dX7_keepIfAbove_101 : decode cX7_keepIfAbove 101 = .ok (.aload_n 0, 1) := by decide +kernel
theorem dX7_keepIfAbove_102 : decode cX7_keepIfAbove 102 = .ok (.getfield 19, 3) := by decide +kernel
theorem dX7_keepIfAbove_105 : decode cX7_keepIfAbove 105 = .ok (.aload_n 0, 1) := by decide +kernel
theorem dX7_keepIfAbove_106 : decode cX7_keepIfAbove 106 = .ok (.getfield 25, 3) := by decide +kernel
theorem dX7_keepIfAbove_109 : decode cX7_keepIfAbove 109 = .ok (.iload_n 1, 1) := by decide +kernel
theorem dX7_keepIfAbove_110 : decode cX7_keepIfAbove 110 = .ok (.iastore, 1) := by decide +kernel
theorem dX7_keepIfAbove_111 : decode cX7_keepIfAbove 111 = .ok (.iconst 0, 1) := by decide +kernel
theorem dX7_keepIfAbove_112 : decode cX7_keepIfAbove 112 = .ok (.istore 5, 2) := by decide +kernel
theorem dX7_keepIfAbove_114 : decode cX7_keepIfAbove 114 = .ok (.iload 5, 2) := by decide +kernel
theorem dX7_keepIfAbove_116 : decode cX7_keepIfAbove 116 = .ok (.bipush 10, 2) := by decide +kernel
theorem dX7_keepIfAbove_118 : decode cX7_keepIfAbove 118 = .ok (.if_icmp .ge 37, 3) := by decide +kernel
theorem dX7_keepIfAbove_121 : decode cX7_keepIfAbove 121 = .ok (.aload_n 0, 1) := by decide +kernel
theorem dX7_keepIfAbove_122 : decode cX7_keepIfAbove 122 = .ok (.getfield 22, 3) := by decide +kernel
theorem dX7_keepIfAbove_125 : decode cX7_keepIfAbove 125 = .ok (.aload_n 0, 1) := by decide +kernel
theorem dX7_keepIfAbove_126 : decode cX7_keepIfAbove 126 = .ok (.getfield 25, 3) := by decide +kernel
theorem dX7_keepIfAbove_129 : decode cX7_keepIfAbove 129 = .ok (.bipush 10, 2) := by decide +kernel
theorem dX7_keepIfAbove_131 : decode cX7_keepIfAbove 131 = .ok (.imul, 1) := by decide +kernel
theorem dX7_keepIfAbove_132 : decode cX7_keepIfAbove 132 = .ok (.iload 5, 2) := by decide +kernel
theorem dX7_keepIfAbove_134 : decode cX7_keepIfAbove 134 = .ok (.iadd, 1) := by decide +kernel
theorem dX7_keepIfAbove_135 : decode cX7_keepIfAbove 135 = .ok (.aload_n 0, 1) := by decide +kernel
theorem dX7_keepIfAbove_136 : decode cX7_keepIfAbove 136 = .ok (.getfield 11, 3) := by decide +kernel
theorem dX7_keepIfAbove_139 : decode cX7_keepIfAbove 139 = .ok (.iload_n 2, 1) := by decide +kernel
theorem dX7_keepIfAbove_140 : decode cX7_keepIfAbove 140 = .ok (.iload 5, 2) := by decide +kernel
theorem dX7_keepIfAbove_142 : decode cX7_keepIfAbove 142 = .ok (.iadd, 1) := by decide +kernel
theorem dX7_keepIfAbove_143 : decode cX7_keepIfAbove 143 = .ok (.laload, 1) := by decide +kernel
theorem dX7_keepIfAbove_144 : decode cX7_keepIfAbove 144 = .ok (.invokestatic 77, 3) := by decide +kernel
theorem dX7_keepIfAbove_147 : decode cX7_keepIfAbove 147 = .ok (.l2i, 1) := by decide +kernel
theorem dX7_keepIfAbove_148 : decode cX7_keepIfAbove 148 = .ok (.iastore, 1) := by decide +kernel
theorem dX7_keepIfAbove_149 : decode cX7_keepIfAbove 149 = .ok (.iinc 5 1, 3) := by decide +kernel
theorem dX7_keepIfAbove_152 : decode cX7_keepIfAbove 152 = .ok (.goto (-38), 3) := by decide +kernel
theorem dX7_keepIfAbove_155 : decode cX7_keepIfAbove 155 = .ok (.aload_n 0, 1) := by decide +kernel
theorem dX7_keepIfAbove_156 : decode cX7_keepIfAbove 156 = .ok (.dup, 1) := by decide +kernel
theorem dX7_keepIfAbove_157 : decode cX7_keepIfAbove 157 = .ok (.getfield 29, 3) := by decide +kernel
theorem dX7_keepIfAbove_160 : decode cX7_keepIfAbove 160 = .ok (.iload_n 1, 1) := by decide +kernel
theorem dX7_keepIfAbove_161 : decode cX7_keepIfAbove 161 = .ok (.ior, 1) := by decide +kernel
theorem dX7_keepIfAbove_162 : decode cX7_keepIfAbove 162 = .ok (.putfield 29, 3) := by decide +kernel
theorem dX7_keepIfAbove_165 : decode cX7_keepIfAbove 165 = .ok (.aload_n 0, 1) := by decide +kernel
theorem dX7_keepIfAbove_166 : decode cX7_keepIfAbove 166 = .ok (.dup, 1) := by decide +kernel
theorem dX7_keepIfAbove_167 : decode cX7_keepIfAbove 167 = .ok (.getfield 25, 3) := by decide +kernel
theorem dX7_keepIfAbove_170 : decode cX7_keepIfAbove 170 = .ok (.iconst 1, 1) := by decide +kernel
theorem dX7_keepIfAbove_171 : decode cX7_keepIfAbove 171 = .ok (.iadd, 1) := by decide +kernel
theorem dX7_keepIfAbove_172 : decode cX7_keepIfAbove 172 = .ok (.putfield 25, 3) := by decide +kernel
theorem dX7_keepIfAbove_175 : decode cX7_keepIfAbove 175 = .ok (.return_, 1) := by decide +kernel
theorem dX7_weigh_0 : decode cX7_weigh 0 = .ok (.lconst 0, 1) := by decide +kernel
theorem dX7_weigh_1 : decode cX7_weigh 1 = .ok (.lstore_n 3, 1) := by decide +kernel
theorem dX7_weigh_2 : decode cX7_weigh 2 = .ok (.iconst 0, 1) := by decide +kernel
theorem dX7_weigh_3 : decode cX7_weigh 3 = .ok (.istore 5, 2) := by decide +kernel
theorem dX7_weigh_5 : decode cX7_weigh 5 = .ok (.iload 5, 2) := by decide +kernel
theorem dX7_weigh_7 : decode cX7_weigh 7 = .ok (.bipush 10, 2) := by decide +kernel
theorem dX7_weigh_9 : decode cX7_weigh 9 = .ok (.if_icmp .ge 34, 3) := by decide +kernel
theorem dX7_weigh_12 : decode cX7_weigh 12 = .ok (.lload_n 3, 1) := by decide +kernel
theorem dX7_weigh_13 : decode cX7_weigh 13 = .ok (.aload_n 0, 1) := by decide +kernel
theorem dX7_weigh_14 : decode cX7_weigh 14 = .ok (.getfield 22, 3) := by decide +kernel
theorem dX7_weigh_17 : decode cX7_weigh 17 = .ok (.iload_n 1, 1) := by decide +kernel
theorem dX7_weigh_18 : decode cX7_weigh 18 = .ok (.bipush 10, 2) := by decide +kernel
theorem dX7_weigh_20 : decode cX7_weigh 20 = .ok (.imul, 1) := by decide +kernel
theorem dX7_weigh_21 : decode cX7_weigh 21 = .ok (.iload 5, 2) := by decide +kernel
theorem dX7_weigh_23 : decode cX7_weigh 23 = .ok (.iadd, 1) := by decide +kernel
theorem dX7_weigh_24 : decode cX7_weigh 24 = .ok (.iaload, 1) := by decide +kernel
theorem dX7_weigh_25 : decode cX7_weigh 25 = .ok (.i2l, 1) := by decide +kernel
theorem dX7_weigh_26 : decode cX7_weigh 26 = .ok (.aload_n 2, 1) := by decide +kernel
theorem dX7_weigh_27 : decode cX7_weigh 27 = .ok (.getfield 83, 3) := by decide +kernel
theorem dX7_weigh_30 : decode cX7_weigh 30 = .ok (.iload 5, 2) := by decide +kernel
theorem dX7_weigh_32 : decode cX7_weigh 32 = .ok (.iaload, 1) := by decide +kernel
theorem dX7_weigh_33 : decode cX7_weigh 33 = .ok (.i2l, 1) := by decide +kernel
theorem dX7_weigh_34 : decode cX7_weigh 34 = .ok (.lmul, 1) := by decide +kernel
theorem dX7_weigh_35 : decode cX7_weigh 35 = .ok (.ladd, 1) := by decide +kernel
theorem dX7_weigh_36 : decode cX7_weigh 36 = .ok (.lstore_n 3, 1) := by decide +kernel
theorem dX7_weigh_37 : decode cX7_weigh 37 = .ok (.iinc 5 1, 3) := by decide +kernel
theorem dX7_weigh_40 : decode cX7_weigh 40 = .ok (.goto (-35), 3) := by decide +kernel
theorem dX7_weigh_43 : decode cX7_weigh 43 = .ok (.lload_n 3, 1) := by decide +kernel
theorem dX7_weigh_44 : decode cX7_weigh 44 = .ok (.lreturn, 1) := by decide +kernel
theorem dX7_leastBound_0 : decode cX7_leastBound 0 = .ok (.ldc2_w 86, 3) := by decide +kernel
theorem dX7_leastBound_3 : decode cX7_leastBound 3 = .ok (.lstore_n 3, 1) := by decide +kernel
theorem dX7_leastBound_4 : decode cX7_leastBound 4 = .ok (.iconst 0, 1) := by decide +kernel
theorem dX7_leastBound_5 : decode cX7_leastBound 5 = .ok (.istore 5, 2) := by decide +kernel
theorem dX7_leastBound_7 : decode cX7_leastBound 7 = .ok (.iload 5, 2) := by decide +kernel
theorem dX7_leastBound_9 : decode cX7_leastBound 9 = .ok (.aload_n 0, 1) := by decide +kernel
theorem dX7_leastBound_10 : decode cX7_leastBound 10 = .ok (.getfield 25, 3) := by decide +kernel
theorem dX7_leastBound_13 : decode cX7_leastBound 13 = .ok (.if_icmp .ge 61, 3) := by decide +kernel
theorem dX7_leastBound_16 : decode cX7_leastBound 16 = .ok (.aload_n 0, 1) := by decide +kernel
theorem dX7_leastBound_17 : decode cX7_leastBound 17 = .ok (.getfield 22, 3) := by decide +kernel
theorem dX7_leastBound_20 : decode cX7_leastBound 20 = .ok (.iload 5, 2) := by decide +kernel
theorem dX7_leastBound_22 : decode cX7_leastBound 22 = .ok (.bipush 10, 2) := by decide +kernel
theorem dX7_leastBound_24 : decode cX7_leastBound 24 = .ok (.imul, 1) := by decide +kernel
theorem dX7_leastBound_25 : decode cX7_leastBound 25 = .ok (.iload_n 1, 1) := by decide +kernel
theorem dX7_leastBound_26 : decode cX7_leastBound 26 = .ok (.iadd, 1) := by decide +kernel
theorem dX7_leastBound_27 : decode cX7_leastBound 27 = .ok (.iaload, 1) := by decide +kernel
theorem dX7_leastBound_28 : decode cX7_leastBound 28 = .ok (.istore 6, 2) := by decide +kernel
theorem dX7_leastBound_30 : decode cX7_leastBound 30 = .ok (.iload 6, 2) := by decide +kernel
theorem dX7_leastBound_32 : decode cX7_leastBound 32 = .ok (.ifCond .le 36, 3) := by decide +kernel
theorem dX7_leastBound_35 : decode cX7_leastBound 35 = .ok (.aload_n 0, 1) := by decide +kernel
theorem dX7_leastBound_36 : decode cX7_leastBound 36 = .ok (.iload 5, 2) := by decide +kernel
theorem dX7_leastBound_38 : decode cX7_leastBound 38 = .ok (.aload_n 2, 1) := by decide +kernel
theorem dX7_leastBound_39 : decode cX7_leastBound 39 = .ok (.invokevirtual 88, 3) := by decide +kernel
theorem dX7_leastBound_42 : decode cX7_leastBound 42 = .ok (.iload 6, 2) := by decide +kernel
theorem dX7_leastBound_44 : decode cX7_leastBound 44 = .ok (.i2l, 1) := by decide +kernel
theorem dX7_leastBound_45 : decode cX7_leastBound 45 = .ok (.ldiv, 1) := by decide +kernel
theorem dX7_leastBound_46 : decode cX7_leastBound 46 = .ok (.lstore 7, 2) := by decide +kernel
theorem dX7_leastBound_48 : decode cX7_leastBound 48 = .ok (.lload_n 3, 1) := by decide +kernel
theorem dX7_leastBound_49 : decode cX7_leastBound 49 = .ok (.ldc2_w 86, 3) := by decide +kernel
theorem dX7_leastBound_52 : decode cX7_leastBound 52 = .ok (.lcmp, 1) := by decide +kernel
theorem dX7_leastBound_53 : decode cX7_leastBound 53 = .ok (.ifCond .ne 8, 3) := by decide +kernel
theorem dX7_leastBound_56 : decode cX7_leastBound 56 = .ok (.lload 7, 2) := by decide +kernel
theorem dX7_leastBound_58 : decode cX7_leastBound 58 = .ok (.goto 9, 3) := by decide +kernel
theorem dX7_leastBound_61 : decode cX7_leastBound 61 = .ok (.lload_n 3, 1) := by decide +kernel
theorem dX7_leastBound_62 : decode cX7_leastBound 62 = .ok (.lload 7, 2) := by decide +kernel
theorem dX7_leastBound_64 : decode cX7_leastBound 64 = .ok (.invokestatic 92, 3) := by decide +kernel
theorem dX7_leastBound_67 : decode cX7_leastBound 67 = .ok (.lstore_n 3, 1) := by decide +kernel
theorem dX7_leastBound_68 : decode cX7_leastBound 68 = .ok (.iinc 5 1, 3) := by decide +kernel
theorem dX7_leastBound_71 : decode cX7_leastBound 71 = .ok (.goto (-64), 3) := by decide +kernel
theorem dX7_leastBound_74 : decode cX7_leastBound 74 = .ok (.lload_n 3, 1) := by decide +kernel
theorem dX7_leastBound_75 : decode cX7_leastBound 75 = .ok (.lreturn, 1) := by decide +kernel
theorem dX8_init_0 : decode cX8_init 0 = .ok (.aload_n 0, 1) := by decide +kernel
theorem dX8_init_1 : decode cX8_init 1 = .ok (.invokespecial 3, 3) := by decide +kernel
theorem dX8_init_4 : decode cX8_init 4 = .ok (.aload_n 0, 1) := by decide +kernel
theorem dX8_init_5 : decode cX8_init 5 = .ok (.new 9, 3) := by decide +kernel
theorem dX8_init_8 : decode cX8_init 8 = .ok (.dup, 1) := by decide +kernel
theorem dX8_init_9 : decode cX8_init 9 = .ok (.invokespecial 11, 3) := by decide +kernel
theorem dX8_init_12 : decode cX8_init 12 = .ok (.putfield 12, 3) := by decide +kernel
theorem dX8_init_15 : decode cX8_init 15 = .ok (.aload_n 0, 1) := by decide +kernel
theorem dX8_init_16 : decode cX8_init 16 = .ok (.new 16, 3) := by decide +kernel
theorem dX8_init_19 : decode cX8_init 19 = .ok (.dup, 1) := by decide +kernel
theorem dX8_init_20 : decode cX8_init 20 = .ok (.invokespecial 18, 3) := by decide +kernel
theorem dX8_init_23 : decode cX8_init 23 = .ok (.putfield 19, 3) := by decide +kernel
theorem dX8_init_26 : decode cX8_init 26 = .ok (.aload_n 0, 1) := by decide +kernel
theorem dX8_init_27 : decode cX8_init 27 = .ok (.new 16, 3) := by decide +kernel
theorem dX8_init_30 : decode cX8_init 30 = .ok (.dup, 1) := by decide +kernel
theorem dX8_init_31 : decode cX8_init 31 = .ok (.invokespecial 18, 3) := by decide +kernel
theorem dX8_init_34 : decode cX8_init 34 = .ok (.putfield 23, 3) := by decide +kernel
theorem dX8_init_37 : decode cX8_init 37 = .ok (.aload_n 0, 1) := by decide +kernel
theorem dX8_init_38 : decode cX8_init 38 = .ok (.new 26, 3) := by decide +kernel
theorem dX8_init_41 : decode cX8_init 41 = .ok (.dup, 1) := by decide +kernel
theorem dX8_init_42 : decode cX8_init 42 = .ok (.invokespecial 28, 3) := by decide +kernel
theorem dX8_init_45 : decode cX8_init 45 = .ok (.putfield 29, 3) := by decide +kernel
theorem dX8_init_48 : decode cX8_init 48 = .ok (.aload_n 0, 1) := by decide +kernel
theorem dX8_init_49 : decode cX8_init 49 = .ok (.new 33, 3) := by decide +kernel
theorem dX8_init_52 : decode cX8_init 52 = .ok (.dup, 1) := by decide +kernel
theorem dX8_init_53 : decode cX8_init 53 = .ok (.iconst 0, 1) := by decide +kernel
theorem dX8_init_54 : decode cX8_init 54 = .ok (.invokespecial 35, 3) := by decide +kernel
theorem dX8_init_57 : decode cX8_init 57 = .ok (.putfield 38, 3) := by decide +kernel
theorem dX8_init_60 : decode cX8_init 60 = .ok (.aload_n 0, 1) := by decide +kernel
theorem dX8_init_61 : decode cX8_init 61 = .ok (.new 33, 3) := by decide +kernel
theorem dX8_init_64 : decode cX8_init 64 = .ok (.dup, 1) := by decide +kernel
theorem dX8_init_65 : decode cX8_init 65 = .ok (.iconst 1, 1) := by decide +kernel
theorem dX8_init_66 : decode cX8_init 66 = .ok (.invokespecial 35, 3) := by decide +kernel
theorem dX8_init_69 : decode cX8_init 69 = .ok (.putfield 42, 3) := by decide +kernel
theorem dX8_init_72 : decode cX8_init 72 = .ok (.aload_n 0, 1) := by decide +kernel
theorem dX8_init_73 : decode cX8_init 73 = .ok (.new 45, 3) := by decide +kernel
theorem dX8_init_76 : decode cX8_init 76 = .ok (.dup, 1) := by decide +kernel
theorem dX8_init_77 : decode cX8_init 77 = .ok (.iconst 0, 1) := by decide +kernel
theorem dX8_init_78 : decode cX8_init 78 = .ok (.invokespecial 47, 3) := by decide +kernel
theorem dX8_init_81 : decode cX8_init 81 = .ok (.putfield 48, 3) := by decide +kernel
theorem dX8_init_84 : decode cX8_init 84 = .ok (.aload_n 0, 1) := by decide +kernel
theorem dX8_init_85 : decode cX8_init 85 = .ok (.new 45, 3) := by decide +kernel
theorem dX8_init_88 : decode cX8_init 88 = .ok (.dup, 1) := by decide +kernel
theorem dX8_init_89 : decode cX8_init 89 = .ok (.iconst 1, 1) := by decide +kernel
theorem dX8_init_90 : decode cX8_init 90 = .ok (.invokespecial 47, 3) := by decide +kernel
theorem dX8_init_93 : decode cX8_init 93 = .ok (.putfield 52, 3) := by decide +kernel
theorem dX8_init_96 : decode cX8_init 96 = .ok (.aload_n 0, 1) := by decide +kernel
theorem dX8_init_97 : decode cX8_init 97 = .ok (.new 55, 3) := by decide +kernel
theorem dX8_init_100 : decode cX8_init 100 = .ok (.dup, 1) := by decide +kernel
theorem dX8_init_101 : decode cX8_init 101 = .ok (.invokespecial 57, 3) := by decide +kernel
theorem dX8_init_104 : decode cX8_init 104 = .ok (.putfield 58, 3) := by decide +kernel
theorem dX8_init_107 : decode cX8_init 107 = .ok (.aload_n 0, 1) := by decide +kernel
theorem dX8_init_108 : decode cX8_init 108 = .ok (.new 62, 3) := by decide +kernel
theorem dX8_init_111 : decode cX8_init 111 = .ok (.dup, 1) := by decide +kernel
theorem dX8_init_112 : decode cX8_init 112 = .ok (.invokespecial 64, 3) := by decide +kernel
theorem dX8_init_115 : decode cX8_init 115 = .ok (.putfield 65, 3) := by decide +kernel
theorem dX8_init_118 : decode cX8_init 118 = .ok (.aload_n 0, 1) := by decide +kernel
theorem dX8_init_119 : decode cX8_init 119 = .ok (.new 69, 3) := by decide +kernel
theorem dX8_init_122 : decode cX8_init 122 = .ok (.dup, 1) := by decide +kernel
theorem dX8_init_123 : decode cX8_init 123 = .ok (.invokespecial 71, 3) := by decide +kernel
theorem dX8_init_126 : decode cX8_init 126 = .ok (.putfield 72, 3) := by decide +kernel
theorem dX8_init_129 : decode cX8_init 129 = .ok (.aload_n 0, 1) := by decide +kernel
theorem dX8_init_130 : decode cX8_init 130 = .ok (.new 62, 3) := by decide +kernel
theorem dX8_init_133 : decode cX8_init 133 = .ok (.dup, 1) := by decide +kernel
theorem dX8_init_134 : decode cX8_init 134 = .ok (.invokespecial 64, 3) := by decide +kernel
theorem dX8_init_137 : decode cX8_init 137 = .ok (.putfield 76, 3) := by decide +kernel
theorem dX8_init_140 : decode cX8_init 140 = .ok (.aload_n 0, 1) := by decide +kernel
theorem dX8_init_141 : decode cX8_init 141 = .ok (.iconst 0, 1) := by decide +kernel
theorem dX8_init_142 : decode cX8_init 142 = .ok (.putfield 79, 3) := by decide +kernel
theorem dX8_init_145 : decode cX8_init 145 = .ok (.return_, 1) := by decide +kernel
theorem dX8_feed_0 : decode cX8_feed 0 = .ok (.aload_n 0, 1) := by decide +kernel
theorem dX8_feed_1 : decode cX8_feed 1 = .ok (.getfield 12, 3) := by decide +kernel
theorem dX8_feed_4 : decode cX8_feed 4 = .ok (.getfield 83, 3) := by decide +kernel
theorem dX8_feed_7 : decode cX8_feed 7 = .ok (.bipush 20, 2) := by decide +kernel
theorem dX8_feed_9 : decode cX8_feed 9 = .ok (.iadd, 1) := by decide +kernel
theorem dX8_feed_10 : decode cX8_feed 10 = .ok (.sipush 900, 3) := by decide +kernel
theorem dX8_feed_13 : decode cX8_feed 13 = .ok (.if_icmp .le 5, 3) := by decide +kernel
theorem dX8_feed_16 : decode cX8_feed 16 = .ok (.iconst (-1), 1) := by decide +kernel
theorem dX8_feed_17 : decode cX8_feed 17 = .ok (.ireturn, 1) := by decide +kernel
theorem dX8_feed_18 : decode cX8_feed 18 = .ok (.aload_n 0, 1) := by decide +kernel
theorem dX8_feed_19 : decode cX8_feed 19 = .ok (.getfield 12, 3) := by decide +kernel
theorem dX8_feed_22 : decode cX8_feed 22 = .ok (.iload_n 1, 1) := by decide +kernel
theorem dX8_feed_23 : decode cX8_feed 23 = .ok (.invokevirtual 86, 3) := by decide +kernel
theorem dX8_feed_26 : decode cX8_feed 26 = .ok (.aload_n 0, 1) := by decide +kernel
theorem dX8_feed_27 : decode cX8_feed 27 = .ok (.getfield 12, 3) := by decide +kernel
theorem dX8_feed_30 : decode cX8_feed 30 = .ok (.iload_n 2, 1) := by decide +kernel
theorem dX8_feed_31 : decode cX8_feed 31 = .ok (.invokevirtual 86, 3) := by decide +kernel
theorem dX8_feed_34 : decode cX8_feed 34 = .ok (.aload_n 0, 1) := by decide +kernel
theorem dX8_feed_35 : decode cX8_feed 35 = .ok (.getfield 12, 3) := by decide +kernel
theorem dX8_feed_38 : decode cX8_feed 38 = .ok (.iload_n 3, 1) := by decide +kernel
theorem dX8_feed_39 : decode cX8_feed 39 = .ok (.invokevirtual 86, 3) := by decide +kernel
theorem dX8_feed_42 : decode cX8_feed 42 = .ok (.aload_n 0, 1) := by decide +kernel
theorem dX8_feed_43 : decode cX8_feed 43 = .ok (.getfield 12, 3) := by decide +kernel
theorem dX8_feed_46 : decode cX8_feed 46 = .ok (.iload 4, 2) := by decide +kernel
theorem dX8_feed_48 : decode cX8_feed 48 = .ok (.invokevirtual 86, 3) := by decide +kernel
theorem dX8_feed_51 : decode cX8_feed 51 = .ok (.aload_n 0, 1) := by decide +kernel
theorem dX8_feed_52 : decode cX8_feed 52 = .ok (.getfield 12, 3) := by decide +kernel
theorem dX8_feed_55 : decode cX8_feed 55 = .ok (.iload 5, 2) := by decide +kernel
theorem dX8_feed_57 : decode cX8_feed 57 = .ok (.invokevirtual 86, 3) := by decide +kernel
theorem dX8_feed_60 : decode cX8_feed 60 = .ok (.aload_n 0, 1) := by decide +kernel
theorem dX8_feed_61 : decode cX8_feed 61 = .ok (.getfield 12, 3) := by decide +kernel
theorem dX8_feed_64 : decode cX8_feed 64 = .ok (.getfield 83, 3) := by decide +kernel
theorem dX8_feed_67 : decode cX8_feed 67 = .ok (.ireturn, 1) := by decide +kernel
theorem dX8_end_0 : decode cX8_end 0 = .ok (.iload_n 1, 1) := by decide +kernel
theorem dX8_end_1 : decode cX8_end 1 = .ok (.ifCond .lt 14, 3) := by decide +kernel
theorem dX8_end_4 : decode cX8_end 4 = .ok (.iload_n 1, 1) := by decide +kernel
theorem dX8_end_5 : decode cX8_end 5 = .ok (.aload_n 0, 1) := by decide +kernel
theorem dX8_end_6 : decode cX8_end 6 = .ok (.getfield 12, 3) := by decide +kernel
theorem dX8_end_9 : decode cX8_end 9 = .ok (.getfield 83, 3) := by decide +kernel
theorem dX8_end_12 : decode cX8_end 12 = .ok (.if_icmp .le 5, 3) := by decide +kernel
theorem dX8_end_15 : decode cX8_end 15 = .ok (.iconst (-1), 1) := by decide +kernel
theorem dX8_end_16 : decode cX8_end 16 = .ok (.ireturn, 1) := by decide +kernel
theorem dX8_end_17 : decode cX8_end 17 = .ok (.aload_n 0, 1) := by decide +kernel
theorem dX8_end_18 : decode cX8_end 18 = .ok (.getfield 12, 3) := by decide +kernel
theorem dX8_end_21 : decode cX8_end 21 = .ok (.iload_n 1, 1) := by decide +kernel
theorem dX8_end_22 : decode cX8_end 22 = .ok (.putfield 83, 3) := by decide +kernel
theorem dX8_end_25 : decode cX8_end 25 = .ok (.iload_n 1, 1) := by decide +kernel
theorem dX8_end_26 : decode cX8_end 26 = .ok (.ireturn, 1) := by decide +kernel
theorem dX8_net_0 : decode cX8_net 0 = .ok (.aload_n 0, 1) := by decide +kernel
theorem dX8_net_1 : decode cX8_net 1 = .ok (.getfield 12, 3) := by decide +kernel
theorem dX8_net_4 : decode cX8_net 4 = .ok (.aload_n 0, 1) := by decide +kernel
theorem dX8_net_5 : decode cX8_net 5 = .ok (.getfield 19, 3) := by decide +kernel
theorem dX8_net_8 : decode cX8_net 8 = .ok (.invokevirtual 90, 3) := by decide +kernel
theorem dX8_net_11 : decode cX8_net 11 = .ok (.istore_n 1, 1) := by decide +kernel
theorem dX8_net_12 : decode cX8_net 12 = .ok (.aload_n 0, 1) := by decide +kernel
theorem dX8_net_13 : decode cX8_net 13 = .ok (.getfield 12, 3) := by decide +kernel
theorem dX8_net_16 : decode cX8_net 16 = .ok (.iconst 0, 1) := by decide +kernel
theorem dX8_net_17 : decode cX8_net 17 = .ok (.putfield 83, 3) := by decide +kernel
theorem dX8_net_20 : decode cX8_net 20 = .ok (.iload_n 1, 1) := by decide +kernel
theorem dX8_net_21 : decode cX8_net 21 = .ok (.ifCond .ne 5, 3) := by decide +kernel
theorem dX8_net_24 : decode cX8_net 24 = .ok (.iconst (-1), 1) := by decide +kernel
theorem dX8_net_25 : decode cX8_net 25 = .ok (.ireturn, 1) := by decide +kernel
theorem dX8_net_26 : decode cX8_net 26 = .ok (.aload_n 0, 1) := by decide +kernel
theorem dX8_net_27 : decode cX8_net 27 = .ok (.getfield 23, 3) := by decide +kernel
theorem dX8_net_30 : decode cX8_net 30 = .ok (.aload_n 0, 1) := by decide +kernel
theorem dX8_net_31 : decode cX8_net 31 = .ok (.getfield 19, 3) := by decide +kernel
theorem dX8_net_34 : decode cX8_net 34 = .ok (.invokevirtual 94, 3) := by decide +kernel
theorem dX8_net_37 : decode cX8_net 37 = .ok (.aload_n 0, 1) := by decide +kernel
theorem dX8_net_38 : decode cX8_net 38 = .ok (.invokevirtual 98, 3) := by decide +kernel
theorem dX8_net_41 : decode cX8_net 41 = .ok (.aload_n 0, 1) := by decide +kernel
theorem dX8_net_42 : decode cX8_net 42 = .ok (.getfield 58, 3) := by decide +kernel
theorem dX8_net_45 : decode cX8_net 45 = .ok (.invokevirtual 101, 3) := by decide +kernel
theorem dX8_net_48 : decode cX8_net 48 = .ok (.aload_n 0, 1) := by decide +kernel
theorem dX8_net_49 : decode cX8_net 49 = .ok (.getfield 29, 3) := by decide +kernel
theorem dX8_net_52 : decode cX8_net 52 = .ok (.invokevirtual 104, 3) := by decide +kernel
theorem dX8_net_55 : decode cX8_net 55 = .ok (.aload_n 0, 1) := by decide +kernel
theorem dX8_net_56 : decode cX8_net 56 = .ok (.getfield 23, 3) := by decide +kernel
theorem dX8_net_59 : decode cX8_net 59 = .ok (.getfield 107, 3) := by decide +kernel
theorem dX8_net_62 : decode cX8_net 62 = .ok (.invokestatic 110, 3) := by decide +kernel
theorem dX8_net_65 : decode cX8_net 65 = .ok (.ireturn, 1) := by decide +kernel
theorem dX8_fault_0 : decode cX8_fault 0 = .ok (.iload_n 1, 1) := by decide +kernel
theorem dX8_fault_1 : decode cX8_fault 1 = .ok (.lookupswitch 43 #[(0, 27), (1, 35)], 27) := by decide +kernel
theorem dX8_fault_28 : decode cX8_fault 28 = .ok (.aload_n 0, 1) := by decide +kernel
theorem dX8_fault_29 : decode cX8_fault 29 = .ok (.getfield 12, 3) := by decide +kernel
theorem dX8_fault_32 : decode cX8_fault 32 = .ok (.getfield 116, 3) := by decide +kernel
theorem dX8_fault_35 : decode cX8_fault 35 = .ok (.ireturn, 1) := by decide +kernel
theorem dX8_fault_36 : decode cX8_fault 36 = .ok (.aload_n 0, 1) := by decide +kernel
theorem dX8_fault_37 : decode cX8_fault 37 = .ok (.getfield 12, 3) := by decide +kernel
theorem dX8_fault_40 : decode cX8_fault 40 = .ok (.getfield 119, 3) := by decide +kernel
theorem dX8_fault_43 : decode cX8_fault 43 = .ok (.ireturn, 1) := by decide +kernel
theorem dX8_fault_44 : decode cX8_fault 44 = .ok (.iconst (-1), 1) := by decide +kernel
theorem dX8_fault_45 : decode cX8_fault 45 = .ok (.ireturn, 1) := by decide +kernel
theorem dX8_about_0 : decode cX8_about 0 = .ok (.iload_n 1, 1) := by decide +kernel
theorem dX8_about_1 : decode cX8_about 1 = .ok (.tableswitch 121 0 7 #[47, 58, 69, 77, 85, 93, 101, 109], 47) := by decide +kernel
theorem dX8_about_48 : decode cX8_about 48 = .ok (.aload_n 0, 1) := by decide +kernel
theorem dX8_about_49 : decode cX8_about 49 = .ok (.getfield 23, 3) := by decide +kernel
theorem dX8_about_52 : decode cX8_about 52 = .ok (.getfield 107, 3) := by decide +kernel
theorem dX8_about_55 : decode cX8_about 55 = .ok (.invokestatic 110, 3) := by decide +kernel
theorem dX8_about_58 : decode cX8_about 58 = .ok (.ireturn, 1) := by decide +kernel
theorem dX8_about_59 : decode cX8_about 59 = .ok (.aload_n 0, 1) := by decide +kernel
theorem dX8_about_60 : decode cX8_about 60 = .ok (.getfield 23, 3) := by decide +kernel
theorem dX8_about_63 : decode cX8_about 63 = .ok (.getfield 122, 3) := by decide +kernel
theorem dX8_about_66 : decode cX8_about 66 = .ok (.invokestatic 110, 3) := by decide +kernel
theorem dX8_about_69 : decode cX8_about 69 = .ok (.ireturn, 1) := by decide +kernel
theorem dX8_about_70 : decode cX8_about 70 = .ok (.aload_n 0, 1) := by decide +kernel
theorem dX8_about_71 : decode cX8_about 71 = .ok (.getfield 23, 3) := by decide +kernel
theorem dX8_about_74 : decode cX8_about 74 = .ok (.getfield 107, 3) := by decide +kernel
theorem dX8_about_77 : decode cX8_about 77 = .ok (.ireturn, 1) := by decide +kernel
theorem dX8_about_78 : decode cX8_about 78 = .ok (.aload_n 0, 1) := by decide +kernel
theorem dX8_about_79 : decode cX8_about 79 = .ok (.getfield 23, 3) := by decide +kernel
theorem dX8_about_82 : decode cX8_about 82 = .ok (.getfield 122, 3) := by decide +kernel
theorem dX8_about_85 : decode cX8_about 85 = .ok (.ireturn, 1) := by decide +kernel
theorem dX8_about_86 : decode cX8_about 86 = .ok (.aload_n 0, 1) := by decide +kernel
theorem dX8_about_87 : decode cX8_about 87 = .ok (.getfield 23, 3) := by decide +kernel
theorem dX8_about_90 : decode cX8_about 90 = .ok (.invokevirtual 125, 3) := by decide +kernel
theorem dX8_about_93 : decode cX8_about 93 = .ok (.ireturn, 1) := by decide +kernel
theorem dX8_about_94 : decode cX8_about 94 = .ok (.aload_n 0, 1) := by decide +kernel
theorem dX8_about_95 : decode cX8_about 95 = .ok (.getfield 29, 3) := by decide +kernel
theorem dX8_about_98 : decode cX8_about 98 = .ok (.getfield 129, 3) := by decide +kernel
theorem dX8_about_101 : decode cX8_about 101 = .ok (.ireturn, 1) := by decide +kernel
theorem dX8_about_102 : decode cX8_about 102 = .ok (.aload_n 0, 1) := by decide +kernel
theorem dX8_about_103 : decode cX8_about 103 = .ok (.getfield 12, 3) := by decide +kernel
theorem dX8_about_106 : decode cX8_about 106 = .ok (.getfield 83, 3) := by decide +kernel
theorem dX8_about_109 : decode cX8_about 109 = .ok (.ireturn, 1) := by decide +kernel
theorem dX8_about_110 : decode cX8_about 110 = .ok (.aload_n 0, 1) := by decide +kernel
theorem dX8_about_111 : decode cX8_about 111 = .ok (.getfield 38, 3) := by decide +kernel
theorem dX8_about_114 : decode cX8_about 114 = .ok (.aload_n 0, 1) := by decide +kernel
theorem dX8_about_115 : decode cX8_about 115 = .ok (.getfield 23, 3) := by decide +kernel
theorem dX8_about_118 : decode cX8_about 118 = .ok (.invokevirtual 132, 3) := by decide +kernel
theorem dX8_about_121 : decode cX8_about 121 = .ok (.ireturn, 1) := by decide +kernel
theorem dX8_about_122 : decode cX8_about 122 = .ok (.iconst (-1), 1) := by decide +kernel
theorem dX8_about_123 : decode cX8_about 123 = .ok (.ireturn, 1) := by decide +kernel
theorem dX8_arc_0 : decode cX8_arc 0 = .ok (.aload_n 0, 1) := by decide +kernel
theorem dX8_arc_1 : decode cX8_arc 1 = .ok (.getfield 23, 3) := by decide +kernel
theorem dX8_arc_4 : decode cX8_arc 4 = .ok (.iload_n 1, 1) := by decide +kernel
theorem dX8_arc_5 : decode cX8_arc 5 = .ok (.invokevirtual 136, 3) := by decide +kernel
theorem dX8_arc_8 : decode cX8_arc 8 = .ok (.ifCond .eq 14, 3) := by decide +kernel
theorem dX8_arc_11 : decode cX8_arc 11 = .ok (.aload_n 0, 1) := by decide +kernel
theorem dX8_arc_12 : decode cX8_arc 12 = .ok (.getfield 23, 3) := by decide +kernel
theorem dX8_arc_15 : decode cX8_arc 15 = .ok (.iload_n 2, 1) := by decide +kernel
theorem dX8_arc_16 : decode cX8_arc 16 = .ok (.invokevirtual 140, 3) := by decide +kernel
theorem dX8_arc_19 : decode cX8_arc 19 = .ok (.ifCond .ne 6, 3) := by decide +kernel
theorem dX8_arc_22 : decode cX8_arc 22 = .ok (.ldc 143, 2) := by decide +kernel
theorem dX8_arc_24 : decode cX8_arc 24 = .ok (.ireturn, 1) := by decide +kernel
theorem dX8_arc_25 : decode cX8_arc 25 = .ok (.iload_n 3, 1) := by decide +kernel
theorem dX8_arc_26 : decode cX8_arc 26 = .ok (.tableswitch 66 0 2 #[26, 41, 56], 26) := by decide +kernel
theorem dX8_arc_52 : decode cX8_arc 52 = .ok (.aload_n 0, 1) := by decide +kernel
theorem dX8_arc_53 : decode cX8_arc 53 = .ok (.getfield 23, 3) := by decide +kernel
theorem dX8_arc_56 : decode cX8_arc 56 = .ok (.getfield 144, 3) := by decide +kernel
theorem dX8_arc_59 : decode cX8_arc 59 = .ok (.iload_n 1, 1) := by decide +kernel
theorem dX8_arc_60 : decode cX8_arc 60 = .ok (.bipush 10, 2) := by decide +kernel
theorem dX8_arc_62 : decode cX8_arc 62 = .ok (.imul, 1) := by decide +kernel
theorem dX8_arc_63 : decode cX8_arc 63 = .ok (.iload_n 2, 1) := by decide +kernel
theorem dX8_arc_64 : decode cX8_arc 64 = .ok (.iadd, 1) := by decide +kernel
theorem dX8_arc_65 : decode cX8_arc 65 = .ok (.iaload, 1) := by decide +kernel
theorem dX8_arc_66 : decode cX8_arc 66 = .ok (.ireturn, 1) := by decide +kernel
theorem dX8_arc_67 : decode cX8_arc 67 = .ok (.aload_n 0, 1) := by decide +kernel
theorem dX8_arc_68 : decode cX8_arc 68 = .ok (.getfield 23, 3) := by decide +kernel
theorem dX8_arc_71 : decode cX8_arc 71 = .ok (.getfield 148, 3) := by decide +kernel
theorem dX8_arc_74 : decode cX8_arc 74 = .ok (.iload_n 1, 1) := by decide +kernel
theorem dX8_arc_75 : decode cX8_arc 75 = .ok (.bipush 10, 2) := by decide +kernel
theorem dX8_arc_77 : decode cX8_arc 77 = .ok (.imul, 1) := by decide +kernel
theorem dX8_arc_78 : decode cX8_arc 78 = .ok (.iload_n 2, 1) := by decide +kernel
theorem dX8_arc_79 : decode cX8_arc 79 = .ok (.iadd, 1) := by decide +kernel
theorem dX8_arc_80 : decode cX8_arc 80 = .ok (.iaload, 1) := by decide +kernel
theorem dX8_arc_81 : decode cX8_arc 81 = .ok (.ireturn, 1) := by decide +kernel
theorem dX8_arc_82 : decode cX8_arc 82 = .ok (.aload_n 0, 1) := by decide +kernel
theorem dX8_arc_83 : decode cX8_arc 83 = .ok (.getfield 23, 3) := by decide +kernel
theorem dX8_arc_86 : decode cX8_arc 86 = .ok (.iload_n 1, 1) := by decide +kernel
theorem dX8_arc_87 : decode cX8_arc 87 = .ok (.iload_n 2, 1) := by decide +kernel
theorem dX8_arc_88 : decode cX8_arc 88 = .ok (.invokevirtual 151, 3) := by decide +kernel
theorem dX8_arc_91 : decode cX8_arc 91 = .ok (.ireturn, 1) := by decide +kernel
theorem dX8_arc_92 : decode cX8_arc 92 = .ok (.ldc 143, 2) := by decide +kernel
theorem dX8_arc_94 : decode cX8_arc 94 = .ok (.ireturn, 1) := by decide +kernel
theorem dX8_tokens_0 : decode cX8_tokens 0 = .ok (.aload_n 0, 1) := by decide +kernel
theorem dX8_tokens_1 : decode cX8_tokens 1 = .ok (.getfield 23, 3) := by decide +kernel
theorem dX8_tokens_4 : decode cX8_tokens 4 = .ok (.iload_n 1, 1) := by decide +kernel
theorem dX8_tokens_5 : decode cX8_tokens 5 = .ok (.invokevirtual 140, 3) := by decide +kernel
theorem dX8_tokens_8 : decode cX8_tokens 8 = .ok (.ifCond .eq 15, 3) := by decide +kernel
theorem dX8_tokens_11 : decode cX8_tokens 11 = .ok (.aload_n 0, 1) := by decide +kernel
theorem dX8_tokens_12 : decode cX8_tokens 12 = .ok (.getfield 23, 3) := by decide +kernel
theorem dX8_tokens_15 : decode cX8_tokens 15 = .ok (.getfield 155, 3) := by decide +kernel
theorem dX8_tokens_18 : decode cX8_tokens 18 = .ok (.iload_n 1, 1) := by decide +kernel
theorem dX8_tokens_19 : decode cX8_tokens 19 = .ok (.iaload, 1) := by decide +kernel
theorem dX8_tokens_20 : decode cX8_tokens 20 = .ok (.goto 4, 3) := by decide +kernel
theorem dX8_tokens_23 : decode cX8_tokens 23 = .ok (.iconst (-1), 1) := by decide +kernel
theorem dX8_tokens_24 : decode cX8_tokens 24 = .ok (.ireturn, 1) := by decide +kernel
theorem dX8_kind_0 : decode cX8_kind 0 = .ok (.iload_n 1, 1) := by decide +kernel
theorem dX8_kind_1 : decode cX8_kind 1 = .ok (.tableswitch 60 0 2 #[27, 38, 49], 27) := by decide +kernel
theorem dX8_kind_28 : decode cX8_kind 28 = .ok (.aload_n 0, 1) := by decide +kernel
theorem dX8_kind_29 : decode cX8_kind 29 = .ok (.getfield 23, 3) := by decide +kernel
theorem dX8_kind_32 : decode cX8_kind 32 = .ok (.invokevirtual 158, 3) := by decide +kernel
theorem dX8_kind_35 : decode cX8_kind 35 = .ok (.invokestatic 162, 3) := by decide +kernel
theorem dX8_kind_38 : decode cX8_kind 38 = .ok (.ireturn, 1) := by decide +kernel
theorem dX8_kind_39 : decode cX8_kind 39 = .ok (.aload_n 0, 1) := by decide +kernel
theorem dX8_kind_40 : decode cX8_kind 40 = .ok (.getfield 23, 3) := by decide +kernel
theorem dX8_kind_43 : decode cX8_kind 43 = .ok (.invokevirtual 166, 3) := by decide +kernel
theorem dX8_kind_46 : decode cX8_kind 46 = .ok (.invokestatic 162, 3) := by decide +kernel
theorem dX8_kind_49 : decode cX8_kind 49 = .ok (.ireturn, 1) := by decide +kernel
theorem dX8_kind_50 : decode cX8_kind 50 = .ok (.aload_n 0, 1) := by decide +kernel
theorem dX8_kind_51 : decode cX8_kind 51 = .ok (.getfield 23, 3) := by decide +kernel
theorem dX8_kind_54 : decode cX8_kind 54 = .ok (.invokevirtual 169, 3) := by decide +kernel
theorem dX8_kind_57 : decode cX8_kind 57 = .ok (.invokestatic 162, 3) := by decide +kernel
theorem dX8_kind_60 : decode cX8_kind 60 = .ok (.ireturn, 1) := by decide +kernel
theorem dX8_kind_61 : decode cX8_kind 61 = .ok (.iconst (-1), 1) := by decide +kernel
theorem dX8_kind_62 : decode cX8_kind 62 = .ok (.ireturn, 1) := by decide +kernel
theorem dX8_fire_0 : decode cX8_fire 0 = .ok (.aload_n 0, 1) := by decide +kernel
theorem dX8_fire_1 : decode cX8_fire 1 = .ok (.getfield 23, 3) := by decide +kernel
theorem dX8_fire_4 : decode cX8_fire 4 = .ok (.iload_n 1, 1) := by decide +kernel
theorem dX8_fire_5 : decode cX8_fire 5 = .ok (.aload_n 0, 1) := by decide +kernel
theorem dX8_fire_6 : decode cX8_fire 6 = .ok (.getfield 23, 3) := by decide +kernel
theorem dX8_fire_9 : decode cX8_fire 9 = .ok (.getfield 155, 3) := by decide +kernel
theorem dX8_fire_12 : decode cX8_fire 12 = .ok (.iconst 0, 1) := by decide +kernel
theorem dX8_fire_13 : decode cX8_fire 13 = .ok (.invokevirtual 172, 3) := by decide +kernel
theorem dX8_fire_16 : decode cX8_fire 16 = .ok (.ifCond .ne 5, 3) := by decide +kernel
theorem dX8_fire_19 : decode cX8_fire 19 = .ok (.iconst (-1), 1) := by decide +kernel
theorem dX8_fire_20 : decode cX8_fire 20 = .ok (.ireturn, 1) := by decide +kernel
theorem dX8_fire_21 : decode cX8_fire 21 = .ok (.aload_n 0, 1) := by decide +kernel
theorem dX8_fire_22 : decode cX8_fire 22 = .ok (.getfield 29, 3) := by decide +kernel
theorem dX8_fire_25 : decode cX8_fire 25 = .ok (.aload_n 0, 1) := by decide +kernel
theorem dX8_fire_26 : decode cX8_fire 26 = .ok (.getfield 23, 3) := by decide +kernel
theorem dX8_fire_29 : decode cX8_fire 29 = .ok (.invokevirtual 176, 3) := by decide +kernel
theorem dX8_fire_32 : decode cX8_fire 32 = .ok (.aload_n 0, 1) := by decide +kernel
theorem dX8_fire_33 : decode cX8_fire 33 = .ok (.getfield 23, 3) := by decide +kernel
theorem dX8_fire_36 : decode cX8_fire 36 = .ok (.iload_n 1, 1) := by decide +kernel
theorem dX8_fire_37 : decode cX8_fire 37 = .ok (.aload_n 0, 1) := by decide +kernel
theorem dX8_fire_38 : decode cX8_fire 38 = .ok (.getfield 23, 3) := by decide +kernel
theorem dX8_fire_41 : decode cX8_fire 41 = .ok (.getfield 155, 3) := by decide +kernel
theorem dX8_fire_44 : decode cX8_fire 44 = .ok (.iconst 0, 1) := by decide +kernel
theorem dX8_fire_45 : decode cX8_fire 45 = .ok (.iconst 0, 1) := by decide +kernel
theorem dX8_fire_46 : decode cX8_fire 46 = .ok (.invokevirtual 179, 3) := by decide +kernel
theorem dX8_fire_49 : decode cX8_fire 49 = .ok (.aload_n 0, 1) := by decide +kernel
theorem dX8_fire_50 : decode cX8_fire 50 = .ok (.invokevirtual 183, 3) := by decide +kernel
theorem dX8_fire_53 : decode cX8_fire 53 = .ok (.aload_n 0, 1) := by decide +kernel
theorem dX8_fire_54 : decode cX8_fire 54 = .ok (.getfield 23, 3) := by decide +kernel
theorem dX8_fire_57 : decode cX8_fire 57 = .ok (.invokevirtual 186, 3) := by decide +kernel
theorem dX8_fire_60 : decode cX8_fire 60 = .ok (.ireturn, 1) := by decide +kernel
theorem dX8_set_0 : decode cX8_set 0 = .ok (.aload_n 0, 1) := by decide +kernel
theorem dX8_set_1 : decode cX8_set 1 = .ok (.getfield 23, 3) := by decide +kernel
theorem dX8_set_4 : decode cX8_set 4 = .ok (.iload_n 1, 1) := by decide +kernel
theorem dX8_set_5 : decode cX8_set 5 = .ok (.invokevirtual 140, 3) := by decide +kernel
theorem dX8_set_8 : decode cX8_set 8 = .ok (.ifCond .eq 23, 3) := by decide +kernel
theorem dX8_set_11 : decode cX8_set 11 = .ok (.iload_n 2, 1) := by decide +kernel
theorem dX8_set_12 : decode cX8_set 12 = .ok (.invokestatic 189, 3) := by decide +kernel
theorem dX8_set_15 : decode cX8_set 15 = .ok (.ifCond .eq 16, 3) := by decide +kernel
theorem dX8_set_18 : decode cX8_set 18 = .ok (.aload_n 0, 1) := by decide +kernel
theorem dX8_set_19 : decode cX8_set 19 = .ok (.getfield 23, 3) := by decide +kernel
theorem dX8_set_22 : decode cX8_set 22 = .ok (.getfield 155, 3) := by decide +kernel
theorem dX8_set_25 : decode cX8_set 25 = .ok (.iload_n 1, 1) := by decide +kernel
theorem dX8_set_26 : decode cX8_set 26 = .ok (.iaload, 1) := by decide +kernel
theorem dX8_set_27 : decode cX8_set 27 = .ok (.iload_n 2, 1) := by decide +kernel
theorem dX8_set_28 : decode cX8_set 28 = .ok (.if_icmp .ne 5, 3) := by decide +kernel
theorem dX8_set_31 : decode cX8_set 31 = .ok (.iconst (-1), 1) := by decide +kernel
theorem dX8_set_32 : decode cX8_set 32 = .ok (.ireturn, 1) := by decide +kernel
theorem dX8_set_33 : decode cX8_set 33 = .ok (.aload_n 0, 1) := by decide +kernel
theorem dX8_set_34 : decode cX8_set 34 = .ok (.getfield 29, 3) := by decide +kernel
theorem dX8_set_37 : decode cX8_set 37 = .ok (.aload_n 0, 1) := by decide +kernel
theorem dX8_set_38 : decode cX8_set 38 = .ok (.getfield 23, 3) := by decide +kernel
theorem dX8_set_41 : decode cX8_set 41 = .ok (.invokevirtual 176, 3) := by decide +kernel
theorem dX8_set_44 : decode cX8_set 44 = .ok (.aload_n 0, 1) := by decide +kernel
theorem dX8_set_45 : decode cX8_set 45 = .ok (.getfield 23, 3) := by decide +kernel
theorem dX8_set_48 : decode cX8_set 48 = .ok (.getfield 155, 3) := by decide +kernel
theorem dX8_set_51 : decode cX8_set 51 = .ok (.iload_n 1, 1) := by decide +kernel
theorem dX8_set_52 : decode cX8_set 52 = .ok (.iaload, 1) := by decide +kernel
theorem dX8_set_53 : decode cX8_set 53 = .ok (.istore_n 3, 1) := by decide +kernel
theorem dX8_set_54 : decode cX8_set 54 = .ok (.aload_n 0, 1) := by decide +kernel
theorem dX8_set_55 : decode cX8_set 55 = .ok (.getfield 23, 3) := by decide +kernel
theorem dX8_set_58 : decode cX8_set 58 = .ok (.getfield 155, 3) := by decide +kernel
theorem dX8_set_61 : decode cX8_set 61 = .ok (.iload_n 1, 1) := by decide +kernel
theorem dX8_set_62 : decode cX8_set 62 = .ok (.iload_n 2, 1) := by decide +kernel
theorem dX8_set_63 : decode cX8_set 63 = .ok (.iastore, 1) := by decide +kernel
theorem dX8_set_64 : decode cX8_set 64 = .ok (.aload_n 0, 1) := by decide +kernel
theorem dX8_set_65 : decode cX8_set 65 = .ok (.invokevirtual 183, 3) := by decide +kernel
theorem dX8_set_68 : decode cX8_set 68 = .ok (.iload_n 3, 1) := by decide +kernel
theorem dX8_set_69 : decode cX8_set 69 = .ok (.ireturn, 1) := by decide +kernel
theorem dX8_run_0 : decode cX8_run 0 = .ok (.iload_n 2, 1) := by decide +kernel
theorem dX8_run_1 : decode cX8_run 1 = .ok (.iconst 1, 1) := by decide +kernel
theorem dX8_run_2 : decode cX8_run 2 = .ok (.if_icmp .lt 20, 3) := by decide +kernel
theorem dX8_run_5 : decode cX8_run 5 = .ok (.iload_n 2, 1) := by decide +kernel
theorem dX8_run_6 : decode cX8_run 6 = .ok (.sipush 200, 3) := by decide +kernel
theorem dX8_run_9 : decode cX8_run 9 = .ok (.if_icmp .gt 13, 3) := by decide +kernel
theorem dX8_run_12 : decode cX8_run 12 = .ok (.aload_n 0, 1) := by decide +kernel
theorem dX8_run_13 : decode cX8_run 13 = .ok (.getfield 23, 3) := by decide +kernel
theorem dX8_run_16 : decode cX8_run 16 = .ok (.getfield 122, 3) := by decide +kernel
theorem dX8_run_19 : decode cX8_run 19 = .ok (.ifCond .ne 5, 3) := by decide +kernel
theorem dX8_run_22 : decode cX8_run 22 = .ok (.iconst (-1), 1) := by decide +kernel
theorem dX8_run_23 : decode cX8_run 23 = .ok (.ireturn, 1) := by decide +kernel
theorem dX8_run_24 : decode cX8_run 24 = .ok (.aload_n 0, 1) := by decide +kernel
theorem dX8_run_25 : decode cX8_run 25 = .ok (.getfield 29, 3) := by decide +kernel
theorem dX8_run_28 : decode cX8_run 28 = .ok (.aload_n 0, 1) := by decide +kernel
theorem dX8_run_29 : decode cX8_run 29 = .ok (.getfield 23, 3) := by decide +kernel
theorem dX8_run_32 : decode cX8_run 32 = .ok (.invokevirtual 176, 3) := by decide +kernel
theorem dX8_run_35 : decode cX8_run 35 = .ok (.iload_n 1, 1) := by decide +kernel
theorem dX8_run_36 : decode cX8_run 36 = .ok (.istore_n 3, 1) := by decide +kernel
theorem dX8_run_37 : decode cX8_run 37 = .ok (.iconst 0, 1) := by decide +kernel
theorem dX8_run_38 : decode cX8_run 38 = .ok (.istore 4, 2) := by decide +kernel
theorem dX8_run_40 : decode cX8_run 40 = .ok (.iconst 0, 1) := by decide +kernel
theorem dX8_run_41 : decode cX8_run 41 = .ok (.istore 5, 2) := by decide +kernel
theorem dX8_run_43 : decode cX8_run 43 = .ok (.iload 5, 2) := by decide +kernel
theorem dX8_run_45 : decode cX8_run 45 = .ok (.iload_n 2, 1) := by decide +kernel
theorem dX8_run_46 : decode cX8_run 46 = .ok (.if_icmp .ge 73, 3) := by decide +kernel
theorem dX8_run_49 : decode cX8_run 49 = .ok (.aload_n 0, 1) := by decide +kernel
theorem dX8_run_50 : decode cX8_run 50 = .ok (.getfield 23, 3) := by decide +kernel
theorem dX8_run_53 : decode cX8_run 53 = .ok (.invokevirtual 186, 3) := by decide +kernel
theorem dX8_run_56 : decode cX8_run 56 = .ok (.istore 6, 2) := by decide +kernel
theorem dX8_run_58 : decode cX8_run 58 = .ok (.iload 6, 2) := by decide +kernel
theorem dX8_run_60 : decode cX8_run 60 = .ok (.invokestatic 110, 3) := by decide +kernel
theorem dX8_run_63 : decode cX8_run 63 = .ok (.istore 7, 2) := by decide +kernel
theorem dX8_run_65 : decode cX8_run 65 = .ok (.iload 7, 2) := by decide +kernel
theorem dX8_run_67 : decode cX8_run 67 = .ok (.ifCond .ne 6, 3) := by decide +kernel
theorem dX8_run_70 : decode cX8_run 70 = .ok (.goto 49, 3) := by decide +kernel
theorem dX8_run_73 : decode cX8_run 73 = .ok (.iload_n 3, 1) := by decide +kernel
theorem dX8_run_74 : decode cX8_run 74 = .ok (.ldc 192, 2) := by decide +kernel
theorem dX8_run_76 : decode cX8_run 76 = .ok (.imul, 1) := by decide +kernel
theorem dX8_run_77 : decode cX8_run 77 = .ok (.sipush 12345, 3) := by decide +kernel
theorem dX8_run_80 : decode cX8_run 80 = .ok (.iadd, 1) := by decide +kernel
theorem dX8_run_81 : decode cX8_run 81 = .ok (.istore_n 3, 1) := by decide +kernel
theorem dX8_run_82 : decode cX8_run 82 = .ok (.aload_n 0, 1) := by decide +kernel
theorem dX8_run_83 : decode cX8_run 83 = .ok (.getfield 23, 3) := by decide +kernel
theorem dX8_run_86 : decode cX8_run 86 = .ok (.iload 6, 2) := by decide +kernel
theorem dX8_run_88 : decode cX8_run 88 = .ok (.iload_n 3, 1) := by decide +kernel
theorem dX8_run_89 : decode cX8_run 89 = .ok (.bipush 16, 2) := by decide +kernel
theorem dX8_run_91 : decode cX8_run 91 = .ok (.iushr, 1) := by decide +kernel
theorem dX8_run_92 : decode cX8_run 92 = .ok (.iload 7, 2) := by decide +kernel
theorem dX8_run_94 : decode cX8_run 94 = .ok (.irem, 1) := by decide +kernel
theorem dX8_run_95 : decode cX8_run 95 = .ok (.invokestatic 193, 3) := by decide +kernel
theorem dX8_run_98 : decode cX8_run 98 = .ok (.aload_n 0, 1) := by decide +kernel
theorem dX8_run_99 : decode cX8_run 99 = .ok (.getfield 23, 3) := by decide +kernel
theorem dX8_run_102 : decode cX8_run 102 = .ok (.getfield 155, 3) := by decide +kernel
theorem dX8_run_105 : decode cX8_run 105 = .ok (.iconst 0, 1) := by decide +kernel
theorem dX8_run_106 : decode cX8_run 106 = .ok (.iconst 0, 1) := by decide +kernel
theorem dX8_run_107 : decode cX8_run 107 = .ok (.invokevirtual 179, 3) := by decide +kernel
theorem dX8_run_110 : decode cX8_run 110 = .ok (.iinc 4 1, 3) := by decide +kernel
theorem dX8_run_113 : decode cX8_run 113 = .ok (.iinc 5 1, 3) := by decide +kernel
theorem dX8_run_116 : decode cX8_run 116 = .ok (.goto (-73), 3) := by decide +kernel
theorem dX8_run_119 : decode cX8_run 119 = .ok (.aload_n 0, 1) := by decide +kernel
theorem dX8_run_120 : decode cX8_run 120 = .ok (.invokevirtual 183, 3) := by decide +kernel
theorem dX8_run_123 : decode cX8_run 123 = .ok (.iload 4, 2) := by decide +kernel
theorem dX8_run_125 : decode cX8_run 125 = .ok (.ireturn, 1) := by decide +kernel
theorem dX8_can_0 : decode cX8_can 0 = .ok (.aload_n 0, 1) := by decide +kernel
theorem dX8_can_1 : decode cX8_can 1 = .ok (.getfield 23, 3) := by decide +kernel
theorem dX8_can_4 : decode cX8_can 4 = .ok (.invokevirtual 186, 3) := by decide +kernel
theorem dX8_can_7 : decode cX8_can 7 = .ok (.ireturn, 1) := by decide +kernel
theorem dX8_undo_0 : decode cX8_undo 0 = .ok (.aload_n 0, 1) := by decide +kernel
theorem dX8_undo_1 : decode cX8_undo 1 = .ok (.getfield 29, 3) := by decide +kernel
theorem dX8_undo_4 : decode cX8_undo 4 = .ok (.aload_n 0, 1) := by decide +kernel
theorem dX8_undo_5 : decode cX8_undo 5 = .ok (.getfield 23, 3) := by decide +kernel
theorem dX8_undo_8 : decode cX8_undo 8 = .ok (.invokevirtual 196, 3) := by decide +kernel
theorem dX8_undo_11 : decode cX8_undo 11 = .ok (.ireturn, 1) := by decide +kernel
theorem dX8_sums_0 : decode cX8_sums 0 = .ok (.iload_n 1, 1) := by decide +kernel
theorem dX8_sums_1 : decode cX8_sums 1 = .ok (.invokestatic 199, 3) := by decide +kernel
theorem dX8_sums_4 : decode cX8_sums 4 = .ok (.ifCond .eq 14, 3) := by decide +kernel
theorem dX8_sums_7 : decode cX8_sums 7 = .ok (.aload_n 0, 1) := by decide +kernel
theorem dX8_sums_8 : decode cX8_sums 8 = .ok (.iload_n 1, 1) := by decide +kernel
theorem dX8_sums_9 : decode cX8_sums 9 = .ok (.invokevirtual 202, 3) := by decide +kernel
theorem dX8_sums_12 : decode cX8_sums 12 = .ok (.getfield 206, 3) := by decide +kernel
theorem dX8_sums_15 : decode cX8_sums 15 = .ok (.goto 4, 3) := by decide +kernel
theorem dX8_sums_18 : decode cX8_sums 18 = .ok (.iconst (-1), 1) := by decide +kernel
theorem dX8_sums_19 : decode cX8_sums 19 = .ok (.ireturn, 1) := by decide +kernel
theorem dX8_sum_0 : decode cX8_sum 0 = .ok (.iload_n 1, 1) := by decide +kernel
theorem dX8_sum_1 : decode cX8_sum 1 = .ok (.invokestatic 199, 3) := by decide +kernel
theorem dX8_sum_4 : decode cX8_sum 4 = .ok (.ifCond .ne 5, 3) := by decide +kernel
theorem dX8_sum_7 : decode cX8_sum 7 = .ok (.iconst (-1), 1) := by decide +kernel
theorem dX8_sum_8 : decode cX8_sum 8 = .ok (.ireturn, 1) := by decide +kernel
theorem dX8_sum_9 : decode cX8_sum 9 = .ok (.aload_n 0, 1) := by decide +kernel
theorem dX8_sum_10 : decode cX8_sum 10 = .ok (.iload_n 1, 1) := by decide +kernel
theorem dX8_sum_11 : decode cX8_sum 11 = .ok (.invokevirtual 202, 3) := by decide +kernel
theorem dX8_sum_14 : decode cX8_sum 14 = .ok (.astore 4, 2) := by decide +kernel
theorem dX8_sum_16 : decode cX8_sum 16 = .ok (.iload_n 1, 1) := by decide +kernel
theorem dX8_sum_17 : decode cX8_sum 17 = .ok (.ifCond .ne 14, 3) := by decide +kernel
theorem dX8_sum_20 : decode cX8_sum 20 = .ok (.aload_n 0, 1) := by decide +kernel
theorem dX8_sum_21 : decode cX8_sum 21 = .ok (.getfield 23, 3) := by decide +kernel
theorem dX8_sum_24 : decode cX8_sum 24 = .ok (.iload_n 3, 1) := by decide +kernel
theorem dX8_sum_25 : decode cX8_sum 25 = .ok (.invokevirtual 140, 3) := by decide +kernel
theorem dX8_sum_28 : decode cX8_sum 28 = .ok (.goto 11, 3) := by decide +kernel
theorem dX8_sum_31 : decode cX8_sum 31 = .ok (.aload_n 0, 1) := by decide +kernel
theorem dX8_sum_32 : decode cX8_sum 32 = .ok (.getfield 23, 3) := by decide +kernel
theorem dX8_sum_35 : decode cX8_sum 35 = .ok (.iload_n 3, 1) := by decide +kernel
theorem dX8_sum_36 : decode cX8_sum 36 = .ok (.invokevirtual 136, 3) := by decide +kernel
theorem dX8_sum_39 : decode cX8_sum 39 = .ok (.istore 5, 2) := by decide +kernel
theorem dX8_sum_41 : decode cX8_sum 41 = .ok (.iload 5, 2) := by decide +kernel
theorem dX8_sum_43 : decode cX8_sum 43 = .ok (.ifCond .eq 31, 3) := by decide +kernel
theorem dX8_sum_46 : decode cX8_sum 46 = .ok (.iload_n 2, 1) := by decide +kernel
theorem dX8_sum_47 : decode cX8_sum 47 = .ok (.ifCond .lt 27, 3) := by decide +kernel
theorem dX8_sum_50 : decode cX8_sum 50 = .ok (.iload_n 2, 1) := by decide +kernel
theorem dX8_sum_51 : decode cX8_sum 51 = .ok (.aload 4, 2) := by decide +kernel
theorem dX8_sum_53 : decode cX8_sum 53 = .ok (.getfield 206, 3) := by decide +kernel
theorem dX8_sum_56 : decode cX8_sum 56 = .ok (.if_icmp .ge 18, 3) := by decide +kernel
theorem dX8_sum_59 : decode cX8_sum 59 = .ok (.aload 4, 2) := by decide +kernel
theorem dX8_sum_61 : decode cX8_sum 61 = .ok (.getfield 209, 3) := by decide +kernel
theorem dX8_sum_64 : decode cX8_sum 64 = .ok (.iload_n 2, 1) := by decide +kernel
theorem dX8_sum_65 : decode cX8_sum 65 = .ok (.bipush 10, 2) := by decide +kernel
theorem dX8_sum_67 : decode cX8_sum 67 = .ok (.imul, 1) := by decide +kernel
theorem dX8_sum_68 : decode cX8_sum 68 = .ok (.iload_n 3, 1) := by decide +kernel
theorem dX8_sum_69 : decode cX8_sum 69 = .ok (.iadd, 1) := by decide +kernel
theorem dX8_sum_70 : decode cX8_sum 70 = .ok (.iaload, 1) := by decide +kernel
theorem dX8_sum_71 : decode cX8_sum 71 = .ok (.goto 4, 3) := by decide +kernel
theorem dX8_sum_74 : decode cX8_sum 74 = .ok (.iconst (-1), 1) := by decide +kernel
theorem dX8_sum_75 : decode cX8_sum 75 = .ok (.ireturn, 1) := by decide +kernel
theorem dX8_support_0 : decode cX8_support 0 = .ok (.iload_n 1, 1) := by decide +kernel
theorem dX8_support_1 : decode cX8_support 1 = .ok (.invokestatic 199, 3) := by decide +kernel
theorem dX8_support_4 : decode cX8_support 4 = .ok (.ifCond .ne 13, 3) := by decide +kernel
theorem dX8_support_7 : decode cX8_support 7 = .ok (.new 212, 3) := by decide +kernel
theorem dX8_support_10 : decode cX8_support 10 = .ok (.dup, 1) := by decide +kernel
theorem dX8_support_11 : decode cX8_support 11 = .ok (.ldc 214, 2) := by decide +kernel
theorem dX8_support_13 : decode cX8_support 13 = .ok (.invokespecial 216, 3) := by decide +kernel
theorem dX8_support_16 : decode cX8_support 16 = .ok (.athrow, 1) := by decide +kernel
theorem dX8_support_17 : decode cX8_support 17 = .ok (.aload_n 0, 1) := by decide +kernel
theorem dX8_support_18 : decode cX8_support 18 = .ok (.iload_n 1, 1) := by decide +kernel
theorem dX8_support_19 : decode cX8_support 19 = .ok (.invokevirtual 202, 3) := by decide +kernel
theorem dX8_support_22 : decode cX8_support 22 = .ok (.astore_n 3, 1) := by decide +kernel
theorem dX8_support_23 : decode cX8_support 23 = .ok (.iload_n 2, 1) := by decide +kernel
theorem dX8_support_24 : decode cX8_support 24 = .ok (.ifCond .lt 11, 3) := by decide +kernel
theorem dX8_support_27 : decode cX8_support 27 = .ok (.iload_n 2, 1) := by decide +kernel
theorem dX8_support_28 : decode cX8_support 28 = .ok (.aload_n 3, 1) := by decide +kernel
theorem dX8_support_29 : decode cX8_support 29 = .ok (.getfield 206, 3) := by decide +kernel
theorem dX8_support_32 : decode cX8_support 32 = .ok (.if_icmp .lt 13, 3) := by decide +kernel
theorem dX8_support_35 : decode cX8_support 35 = .ok (.new 212, 3) := by decide +kernel
theorem dX8_support_38 : decode cX8_support 38 = .ok (.dup, 1) := by decide +kernel
theorem dX8_support_39 : decode cX8_support 39 = .ok (.ldc 219, 2) := by decide +kernel
theorem dX8_support_41 : decode cX8_support 41 = .ok (.invokespecial 216, 3) := by decide +kernel
theorem dX8_support_44 : decode cX8_support 44 = .ok (.athrow, 1) := by decide +kernel
theorem dX8_support_45 : decode cX8_support 45 = .ok (.aload_n 3, 1) := by decide +kernel
theorem dX8_support_46 : decode cX8_support 46 = .ok (.getfield 221, 3) := by decide +kernel
theorem dX8_support_49 : decode cX8_support 49 = .ok (.iload_n 2, 1) := by decide +kernel
theorem dX8_support_50 : decode cX8_support 50 = .ok (.iaload, 1) := by decide +kernel
theorem dX8_support_51 : decode cX8_support 51 = .ok (.ireturn, 1) := by decide +kernel
theorem dX8_covered_0 : decode cX8_covered 0 = .ok (.iload_n 1, 1) := by decide +kernel
theorem dX8_covered_1 : decode cX8_covered 1 = .ok (.invokestatic 199, 3) := by decide +kernel
theorem dX8_covered_4 : decode cX8_covered 4 = .ok (.ifCond .eq 14, 3) := by decide +kernel
theorem dX8_covered_7 : decode cX8_covered 7 = .ok (.aload_n 0, 1) := by decide +kernel
theorem dX8_covered_8 : decode cX8_covered 8 = .ok (.iload_n 1, 1) := by decide +kernel
theorem dX8_covered_9 : decode cX8_covered 9 = .ok (.invokevirtual 202, 3) := by decide +kernel
theorem dX8_covered_12 : decode cX8_covered 12 = .ok (.getfield 224, 3) := by decide +kernel
theorem dX8_covered_15 : decode cX8_covered 15 = .ok (.goto 4, 3) := by decide +kernel
theorem dX8_covered_18 : decode cX8_covered 18 = .ok (.iconst (-1), 1) := by decide +kernel
theorem dX8_covered_19 : decode cX8_covered 19 = .ok (.ireturn, 1) := by decide +kernel
theorem dX8_value_0 : decode cX8_value 0 = .ok (.aload_n 0, 1) := by decide +kernel
theorem dX8_value_1 : decode cX8_value 1 = .ok (.iconst 0, 1) := by decide +kernel
theorem dX8_value_2 : decode cX8_value 2 = .ok (.invokevirtual 202, 3) := by decide +kernel
theorem dX8_value_5 : decode cX8_value 5 = .ok (.astore_n 2, 1) := by decide +kernel
theorem dX8_value_6 : decode cX8_value 6 = .ok (.iload_n 1, 1) := by decide +kernel
theorem dX8_value_7 : decode cX8_value 7 = .ok (.ifCond .lt 23, 3) := by decide +kernel
theorem dX8_value_10 : decode cX8_value 10 = .ok (.iload_n 1, 1) := by decide +kernel
theorem dX8_value_11 : decode cX8_value 11 = .ok (.aload_n 2, 1) := by decide +kernel
theorem dX8_value_12 : decode cX8_value 12 = .ok (.getfield 206, 3) := by decide +kernel
theorem dX8_value_15 : decode cX8_value 15 = .ok (.if_icmp .ge 15, 3) := by decide +kernel
theorem dX8_value_18 : decode cX8_value 18 = .ok (.aload_n 2, 1) := by decide +kernel
theorem dX8_value_19 : decode cX8_value 19 = .ok (.iload_n 1, 1) := by decide +kernel
theorem dX8_value_20 : decode cX8_value 20 = .ok (.aload_n 0, 1) := by decide +kernel
theorem dX8_value_21 : decode cX8_value 21 = .ok (.getfield 23, 3) := by decide +kernel
theorem dX8_value_24 : decode cX8_value 24 = .ok (.invokevirtual 227, 3) := by decide +kernel
theorem dX8_value_27 : decode cX8_value 27 = .ok (.goto 6, 3) := by decide +kernel
theorem dX8_value_30 : decode cX8_value 30 = .ok (.ldc2_w 231, 3) := by decide +kernel
theorem dX8_value_33 : decode cX8_value 33 = .ok (.lreturn, 1) := by decide +kernel
theorem dX8_bound_0 : decode cX8_bound 0 = .ok (.aload_n 0, 1) := by decide +kernel
theorem dX8_bound_1 : decode cX8_bound 1 = .ok (.getfield 23, 3) := by decide +kernel
theorem dX8_bound_4 : decode cX8_bound 4 = .ok (.iload_n 1, 1) := by decide +kernel
theorem dX8_bound_5 : decode cX8_bound 5 = .ok (.invokevirtual 140, 3) := by decide +kernel
theorem dX8_bound_8 : decode cX8_bound 8 = .ok (.ifCond .eq 19, 3) := by decide +kernel
theorem dX8_bound_11 : decode cX8_bound 11 = .ok (.aload_n 0, 1) := by decide +kernel
theorem dX8_bound_12 : decode cX8_bound 12 = .ok (.iconst 0, 1) := by decide +kernel
theorem dX8_bound_13 : decode cX8_bound 13 = .ok (.invokevirtual 202, 3) := by decide +kernel
theorem dX8_bound_16 : decode cX8_bound 16 = .ok (.iload_n 1, 1) := by decide +kernel
theorem dX8_bound_17 : decode cX8_bound 17 = .ok (.aload_n 0, 1) := by decide +kernel
theorem dX8_bound_18 : decode cX8_bound 18 = .ok (.getfield 23, 3) := by decide +kernel
theorem dX8_bound_21 : decode cX8_bound 21 = .ok (.invokevirtual 233, 3) := by decide +kernel
theorem dX8_bound_24 : decode cX8_bound 24 = .ok (.goto 6, 3) := by decide +kernel
theorem dX8_bound_27 : decode cX8_bound 27 = .ok (.ldc2_w 231, 3) := by decide +kernel
theorem dX8_bound_30 : decode cX8_bound 30 = .ok (.lreturn, 1) := by decide +kernel
theorem dX8_siphons_0 : decode cX8_siphons 0 = .ok (.iload_n 1, 1) := by decide +kernel
theorem dX8_siphons_1 : decode cX8_siphons 1 = .ok (.invokestatic 199, 3) := by decide +kernel
theorem dX8_siphons_4 : decode cX8_siphons 4 = .ok (.ifCond .eq 14, 3) := by decide +kernel
theorem dX8_siphons_7 : decode cX8_siphons 7 = .ok (.aload_n 0, 1) := by decide +kernel
theorem dX8_siphons_8 : decode cX8_siphons 8 = .ok (.iload_n 1, 1) := by decide +kernel
theorem dX8_siphons_9 : decode cX8_siphons 9 = .ok (.invokevirtual 236, 3) := by decide +kernel
theorem dX8_siphons_12 : decode cX8_siphons 12 = .ok (.getfield 240, 3) := by decide +kernel
theorem dX8_siphons_15 : decode cX8_siphons 15 = .ok (.goto 4, 3) := by decide +kernel
theorem dX8_siphons_18 : decode cX8_siphons 18 = .ok (.iconst (-1), 1) := by decide +kernel
theorem dX8_siphons_19 : decode cX8_siphons 19 = .ok (.ireturn, 1) := by decide +kernel
theorem dX8_siphon_0 : decode cX8_siphon 0 = .ok (.iload_n 1, 1) := by decide +kernel
theorem dX8_siphon_1 : decode cX8_siphon 1 = .ok (.invokestatic 199, 3) := by decide +kernel
theorem dX8_siphon_4 : decode cX8_siphon 4 = .ok (.ifCond .ne 13, 3) := by decide +kernel
theorem dX8_siphon_7 : decode cX8_siphon 7 = .ok (.new 212, 3) := by decide +kernel
theorem dX8_siphon_10 : decode cX8_siphon 10 = .ok (.dup, 1) := by decide +kernel
theorem dX8_siphon_11 : decode cX8_siphon 11 = .ok (.ldc 214, 2) := by decide +kernel
theorem dX8_siphon_13 : decode cX8_siphon 13 = .ok (.invokespecial 216, 3) := by decide +kernel
theorem dX8_siphon_16 : decode cX8_siphon 16 = .ok (.athrow, 1) := by decide +kernel
theorem dX8_siphon_17 : decode cX8_siphon 17 = .ok (.aload_n 0, 1) := by decide +kernel
theorem dX8_siphon_18 : decode cX8_siphon 18 = .ok (.iload_n 1, 1) := by decide +kernel
theorem dX8_siphon_19 : decode cX8_siphon 19 = .ok (.invokevirtual 236, 3) := by decide +kernel
theorem dX8_siphon_22 : decode cX8_siphon 22 = .ok (.astore_n 3, 1) := by decide +kernel
theorem dX8_siphon_23 : decode cX8_siphon 23 = .ok (.iload_n 2, 1) := by decide +kernel
theorem dX8_siphon_24 : decode cX8_siphon 24 = .ok (.ifCond .lt 11, 3) := by decide +kernel
theorem dX8_siphon_27 : decode cX8_siphon 27 = .ok (.iload_n 2, 1) := by decide +kernel
theorem dX8_siphon_28 : decode cX8_siphon 28 = .ok (.aload_n 3, 1) := by decide +kernel
theorem dX8_siphon_29 : decode cX8_siphon 29 = .ok (.getfield 240, 3) := by decide +kernel
theorem dX8_siphon_32 : decode cX8_siphon 32 = .ok (.if_icmp .lt 13, 3) := by decide +kernel
theorem dX8_siphon_35 : decode cX8_siphon 35 = .ok (.new 212, 3) := by decide +kernel
theorem dX8_siphon_38 : decode cX8_siphon 38 = .ok (.dup, 1) := by decide +kernel
theorem dX8_siphon_39 : decode cX8_siphon 39 = .ok (.ldc 241, 2) := by decide +kernel
theorem dX8_siphon_41 : decode cX8_siphon 41 = .ok (.invokespecial 216, 3) := by decide +kernel
theorem dX8_siphon_44 : decode cX8_siphon 44 = .ok (.athrow, 1) := by decide +kernel
theorem dX8_siphon_45 : decode cX8_siphon 45 = .ok (.aload_n 3, 1) := by decide +kernel
theorem dX8_siphon_46 : decode cX8_siphon 46 = .ok (.getfield 243, 3) := by decide +kernel
theorem dX8_siphon_49 : decode cX8_siphon 49 = .ok (.iload_n 2, 1) := by decide +kernel
theorem dX8_siphon_50 : decode cX8_siphon 50 = .ok (.iaload, 1) := by decide +kernel
theorem dX8_siphon_51 : decode cX8_siphon 51 = .ok (.ireturn, 1) := by decide +kernel
theorem dX8_isSiphon_0 : decode cX8_isSiphon 0 = .ok (.iload_n 1, 1) := by decide +kernel
theorem dX8_isSiphon_1 : decode cX8_isSiphon 1 = .ok (.invokestatic 199, 3) := by decide +kernel
theorem dX8_isSiphon_4 : decode cX8_isSiphon 4 = .ok (.ifCond .ne 5, 3) := by decide +kernel
theorem dX8_isSiphon_7 : decode cX8_isSiphon 7 = .ok (.iconst (-1), 1) := by decide +kernel
theorem dX8_isSiphon_8 : decode cX8_isSiphon 8 = .ok (.ireturn, 1) := by decide +kernel
theorem dX8_isSiphon_9 : decode cX8_isSiphon 9 = .ok (.iload_n 2, 1) := by decide +kernel
theorem dX8_isSiphon_10 : decode cX8_isSiphon 10 = .ok (.ifCond .eq 17, 3) := by decide +kernel
theorem dX8_isSiphon_13 : decode cX8_isSiphon 13 = .ok (.iload_n 2, 1) := by decide +kernel
theorem dX8_isSiphon_14 : decode cX8_isSiphon 14 = .ok (.aload_n 0, 1) := by decide +kernel
theorem dX8_isSiphon_15 : decode cX8_isSiphon 15 = .ok (.getfield 23, 3) := by decide +kernel
theorem dX8_isSiphon_18 : decode cX8_isSiphon 18 = .ok (.getfield 107, 3) := by decide +kernel
theorem dX8_isSiphon_21 : decode cX8_isSiphon 21 = .ok (.iconst (-1), 1) := by decide +kernel
theorem dX8_isSiphon_22 : decode cX8_isSiphon 22 = .ok (.ixor, 1) := by decide +kernel
theorem dX8_isSiphon_23 : decode cX8_isSiphon 23 = .ok (.iand, 1) := by decide +kernel
theorem dX8_isSiphon_24 : decode cX8_isSiphon 24 = .ok (.ifCond .eq 5, 3) := by decide +kernel
theorem dX8_isSiphon_27 : decode cX8_isSiphon 27 = .ok (.iconst 0, 1) := by decide +kernel
theorem dX8_isSiphon_28 : decode cX8_isSiphon 28 = .ok (.ireturn, 1) := by decide +kernel
theorem dX8_isSiphon_29 : decode cX8_isSiphon 29 = .ok (.aload_n 0, 1) := by decide +kernel
theorem dX8_isSiphon_30 : decode cX8_isSiphon 30 = .ok (.iload_n 1, 1) := by decide +kernel
theorem dX8_isSiphon_31 : decode cX8_isSiphon 31 = .ok (.invokevirtual 246, 3) := by decide +kernel
theorem dX8_isSiphon_34 : decode cX8_isSiphon 34 = .ok (.iload_n 2, 1) := by decide +kernel
theorem dX8_isSiphon_35 : decode cX8_isSiphon 35 = .ok (.invokevirtual 249, 3) := by decide +kernel
theorem dX8_isSiphon_38 : decode cX8_isSiphon 38 = .ok (.invokestatic 162, 3) := by decide +kernel
theorem dX8_isSiphon_41 : decode cX8_isSiphon 41 = .ok (.ireturn, 1) := by decide +kernel
theorem dX8_greatest_0 : decode cX8_greatest 0 = .ok (.iload_n 1, 1) := by decide +kernel
theorem dX8_greatest_1 : decode cX8_greatest 1 = .ok (.invokestatic 199, 3) := by decide +kernel
theorem dX8_greatest_4 : decode cX8_greatest 4 = .ok (.ifCond .eq 23, 3) := by decide +kernel
theorem dX8_greatest_7 : decode cX8_greatest 7 = .ok (.aload_n 0, 1) := by decide +kernel
theorem dX8_greatest_8 : decode cX8_greatest 8 = .ok (.iload_n 1, 1) := by decide +kernel
theorem dX8_greatest_9 : decode cX8_greatest 9 = .ok (.invokevirtual 246, 3) := by decide +kernel
theorem dX8_greatest_12 : decode cX8_greatest 12 = .ok (.iload_n 2, 1) := by decide +kernel
theorem dX8_greatest_13 : decode cX8_greatest 13 = .ok (.aload_n 0, 1) := by decide +kernel
theorem dX8_greatest_14 : decode cX8_greatest 14 = .ok (.getfield 23, 3) := by decide +kernel
theorem dX8_greatest_17 : decode cX8_greatest 17 = .ok (.getfield 107, 3) := by decide +kernel
theorem dX8_greatest_20 : decode cX8_greatest 20 = .ok (.iand, 1) := by decide +kernel
theorem dX8_greatest_21 : decode cX8_greatest 21 = .ok (.invokevirtual 252, 3) := by decide +kernel
theorem dX8_greatest_24 : decode cX8_greatest 24 = .ok (.goto 4, 3) := by decide +kernel
theorem dX8_greatest_27 : decode cX8_greatest 27 = .ok (.iconst (-1), 1) := by decide +kernel
theorem dX8_greatest_28 : decode cX8_greatest 28 = .ok (.ireturn, 1) := by decide +kernel
theorem dX8_unguarded_0 : decode cX8_unguarded 0 = .ok (.aload_n 0, 1) := by decide +kernel
theorem dX8_unguarded_1 : decode cX8_unguarded 1 = .ok (.iconst 0, 1) := by decide +kernel
theorem dX8_unguarded_2 : decode cX8_unguarded 2 = .ok (.invokevirtual 236, 3) := by decide +kernel
theorem dX8_unguarded_5 : decode cX8_unguarded 5 = .ok (.astore_n 2, 1) := by decide +kernel
theorem dX8_unguarded_6 : decode cX8_unguarded 6 = .ok (.aload_n 0, 1) := by decide +kernel
theorem dX8_unguarded_7 : decode cX8_unguarded 7 = .ok (.iconst 1, 1) := by decide +kernel
theorem dX8_unguarded_8 : decode cX8_unguarded 8 = .ok (.invokevirtual 246, 3) := by decide +kernel
theorem dX8_unguarded_11 : decode cX8_unguarded 11 = .ok (.astore_n 3, 1) := by decide +kernel
theorem dX8_unguarded_12 : decode cX8_unguarded 12 = .ok (.aload_n 0, 1) := by decide +kernel
theorem dX8_unguarded_13 : decode cX8_unguarded 13 = .ok (.getfield 23, 3) := by decide +kernel
theorem dX8_unguarded_16 : decode cX8_unguarded 16 = .ok (.invokevirtual 255, 3) := by decide +kernel
theorem dX8_unguarded_19 : decode cX8_unguarded 19 = .ok (.istore 4, 2) := by decide +kernel
theorem dX8_unguarded_21 : decode cX8_unguarded 21 = .ok (.iconst 0, 1) := by decide +kernel
theorem dX8_unguarded_22 : decode cX8_unguarded 22 = .ok (.istore 5, 2) := by decide +kernel
theorem dX8_unguarded_24 : decode cX8_unguarded 24 = .ok (.iconst 0, 1) := by decide +kernel
theorem dX8_unguarded_25 : decode cX8_unguarded 25 = .ok (.istore 6, 2) := by decide +kernel
theorem dX8_unguarded_27 : decode cX8_unguarded 27 = .ok (.iload 6, 2) := by decide +kernel
theorem dX8_unguarded_29 : decode cX8_unguarded 29 = .ok (.aload_n 2, 1) := by decide +kernel
theorem dX8_unguarded_30 : decode cX8_unguarded 30 = .ok (.getfield 240, 3) := by decide +kernel
theorem dX8_unguarded_33 : decode cX8_unguarded 33 = .ok (.if_icmp .ge 46, 3) := by decide +kernel
theorem dX8_unguarded_36 : decode cX8_unguarded 36 = .ok (.aload_n 3, 1) := by decide +kernel
theorem dX8_unguarded_37 : decode cX8_unguarded 37 = .ok (.aload_n 2, 1) := by decide +kernel
theorem dX8_unguarded_38 : decode cX8_unguarded 38 = .ok (.getfield 243, 3) := by decide +kernel
theorem dX8_unguarded_41 : decode cX8_unguarded 41 = .ok (.iload 6, 2) := by decide +kernel
theorem dX8_unguarded_43 : decode cX8_unguarded 43 = .ok (.iaload, 1) := by decide +kernel
theorem dX8_unguarded_44 : decode cX8_unguarded 44 = .ok (.invokevirtual 252, 3) := by decide +kernel
theorem dX8_unguarded_47 : decode cX8_unguarded 47 = .ok (.iload 4, 2) := by decide +kernel
theorem dX8_unguarded_49 : decode cX8_unguarded 49 = .ok (.iand, 1) := by decide +kernel
theorem dX8_unguarded_50 : decode cX8_unguarded 50 = .ok (.ifCond .eq 6, 3) := by decide +kernel
theorem dX8_unguarded_53 : decode cX8_unguarded 53 = .ok (.goto 20, 3) := by decide +kernel
theorem dX8_unguarded_56 : decode cX8_unguarded 56 = .ok (.iload 5, 2) := by decide +kernel
theorem dX8_unguarded_58 : decode cX8_unguarded 58 = .ok (.iload_n 1, 1) := by decide +kernel
theorem dX8_unguarded_59 : decode cX8_unguarded 59 = .ok (.if_icmp .ne 11, 3) := by decide +kernel
theorem dX8_unguarded_62 : decode cX8_unguarded 62 = .ok (.aload_n 2, 1) := by decide +kernel
theorem dX8_unguarded_63 : decode cX8_unguarded 63 = .ok (.getfield 243, 3) := by decide +kernel
theorem dX8_unguarded_66 : decode cX8_unguarded 66 = .ok (.iload 6, 2) := by decide +kernel
theorem dX8_unguarded_68 : decode cX8_unguarded 68 = .ok (.iaload, 1) := by decide +kernel
theorem dX8_unguarded_69 : decode cX8_unguarded 69 = .ok (.ireturn, 1) := by decide +kernel
theorem dX8_unguarded_70 : decode cX8_unguarded 70 = .ok (.iinc 5 1, 3) := by decide +kernel
theorem dX8_unguarded_73 : decode cX8_unguarded 73 = .ok (.iinc 6 1, 3) := by decide +kernel
theorem dX8_unguarded_76 : decode cX8_unguarded 76 = .ok (.goto (-49), 3) := by decide +kernel
theorem dX8_unguarded_79 : decode cX8_unguarded 79 = .ok (.iload_n 1, 1) := by decide +kernel
theorem dX8_unguarded_80 : decode cX8_unguarded 80 = .ok (.iconst (-1), 1) := by decide +kernel
theorem dX8_unguarded_81 : decode cX8_unguarded 81 = .ok (.if_icmp .ne 8, 3) := by decide +kernel
theorem dX8_unguarded_84 : decode cX8_unguarded 84 = .ok (.iload 5, 2) := by decide +kernel
theorem dX8_unguarded_86 : decode cX8_unguarded 86 = .ok (.goto 4, 3) := by decide +kernel
theorem dX8_unguarded_89 : decode cX8_unguarded 89 = .ok (.iconst (-1), 1) := by decide +kernel
theorem dX8_unguarded_90 : decode cX8_unguarded 90 = .ok (.ireturn, 1) := by decide +kernel
theorem dX8_lost_0 : decode cX8_lost 0 = .ok (.aload_n 0, 1) := by decide +kernel
theorem dX8_lost_1 : decode cX8_lost 1 = .ok (.getfield 23, 3) := by decide +kernel
theorem dX8_lost_4 : decode cX8_lost 4 = .ok (.getfield 107, 3) := by decide +kernel
theorem dX8_lost_7 : decode cX8_lost 7 = .ok (.aload_n 0, 1) := by decide +kernel
theorem dX8_lost_8 : decode cX8_lost 8 = .ok (.getfield 23, 3) := by decide +kernel
theorem dX8_lost_11 : decode cX8_lost 11 = .ok (.invokevirtual 255, 3) := by decide +kernel
theorem dX8_lost_14 : decode cX8_lost 14 = .ok (.iconst (-1), 1) := by decide +kernel
theorem dX8_lost_15 : decode cX8_lost 15 = .ok (.ixor, 1) := by decide +kernel
theorem dX8_lost_16 : decode cX8_lost 16 = .ok (.iand, 1) := by decide +kernel
theorem dX8_lost_17 : decode cX8_lost 17 = .ok (.istore_n 1, 1) := by decide +kernel
theorem dX8_lost_18 : decode cX8_lost 18 = .ok (.aload_n 0, 1) := by decide +kernel
theorem dX8_lost_19 : decode cX8_lost 19 = .ok (.iconst 0, 1) := by decide +kernel
theorem dX8_lost_20 : decode cX8_lost 20 = .ok (.invokevirtual 246, 3) := by decide +kernel
theorem dX8_lost_23 : decode cX8_lost 23 = .ok (.iload_n 1, 1) := by decide +kernel
theorem dX8_lost_24 : decode cX8_lost 24 = .ok (.invokevirtual 252, 3) := by decide +kernel
theorem dX8_lost_27 : decode cX8_lost 27 = .ok (.istore_n 2, 1) := by decide +kernel
theorem dX8_lost_28 : decode cX8_lost 28 = .ok (.iconst 0, 1) := by decide +kernel
theorem dX8_lost_29 : decode cX8_lost 29 = .ok (.istore_n 3, 1) := by decide +kernel
theorem dX8_lost_30 : decode cX8_lost 30 = .ok (.iconst 0, 1) := by decide +kernel
theorem dX8_lost_31 : decode cX8_lost 31 = .ok (.istore 4, 2) := by decide +kernel
theorem dX8_lost_33 : decode cX8_lost 33 = .ok (.iload 4, 2) := by decide +kernel
theorem dX8_lost_35 : decode cX8_lost 35 = .ok (.aload_n 0, 1) := by decide +kernel
theorem dX8_lost_36 : decode cX8_lost 36 = .ok (.getfield 23, 3) := by decide +kernel
theorem dX8_lost_39 : decode cX8_lost 39 = .ok (.getfield 258, 3) := by decide +kernel
theorem dX8_lost_42 : decode cX8_lost 42 = .ok (.if_icmp .ge 30, 3) := by decide +kernel
theorem dX8_lost_45 : decode cX8_lost 45 = .ok (.aload_n 0, 1) := by decide +kernel
theorem dX8_lost_46 : decode cX8_lost 46 = .ok (.getfield 23, 3) := by decide +kernel
theorem dX8_lost_49 : decode cX8_lost 49 = .ok (.iload 4, 2) := by decide +kernel
theorem dX8_lost_51 : decode cX8_lost 51 = .ok (.invokevirtual 261, 3) := by decide +kernel
theorem dX8_lost_54 : decode cX8_lost 54 = .ok (.iload_n 2, 1) := by decide +kernel
theorem dX8_lost_55 : decode cX8_lost 55 = .ok (.iand, 1) := by decide +kernel
theorem dX8_lost_56 : decode cX8_lost 56 = .ok (.ifCond .eq 10, 3) := by decide +kernel
theorem dX8_lost_59 : decode cX8_lost 59 = .ok (.iload_n 3, 1) := by decide +kernel
theorem dX8_lost_60 : decode cX8_lost 60 = .ok (.iconst 1, 1) := by decide +kernel
theorem dX8_lost_61 : decode cX8_lost 61 = .ok (.iload 4, 2) := by decide +kernel
theorem dX8_lost_63 : decode cX8_lost 63 = .ok (.ishl, 1) := by decide +kernel
theorem dX8_lost_64 : decode cX8_lost 64 = .ok (.ior, 1) := by decide +kernel
theorem dX8_lost_65 : decode cX8_lost 65 = .ok (.istore_n 3, 1) := by decide +kernel
theorem dX8_lost_66 : decode cX8_lost 66 = .ok (.iinc 4 1, 3) := by decide +kernel
theorem dX8_lost_69 : decode cX8_lost 69 = .ok (.goto (-36), 3) := by decide +kernel
theorem dX8_lost_72 : decode cX8_lost 72 = .ok (.iload_n 3, 1) := by decide +kernel
theorem dX8_lost_73 : decode cX8_lost 73 = .ok (.ireturn, 1) := by decide +kernel
theorem dX8_aim_0 : decode cX8_aim 0 = .ok (.aload_n 0, 1) := by decide +kernel
theorem dX8_aim_1 : decode cX8_aim 1 = .ok (.getfield 23, 3) := by decide +kernel
theorem dX8_aim_4 : decode cX8_aim 4 = .ok (.iload_n 1, 1) := by decide +kernel
theorem dX8_aim_5 : decode cX8_aim 5 = .ok (.invokevirtual 140, 3) := by decide +kernel
theorem dX8_aim_8 : decode cX8_aim 8 = .ok (.ifCond .eq 10, 3) := by decide +kernel
theorem dX8_aim_11 : decode cX8_aim 11 = .ok (.iload_n 2, 1) := by decide +kernel
theorem dX8_aim_12 : decode cX8_aim 12 = .ok (.invokestatic 189, 3) := by decide +kernel
theorem dX8_aim_15 : decode cX8_aim 15 = .ok (.ifCond .ne 5, 3) := by decide +kernel
theorem dX8_aim_18 : decode cX8_aim 18 = .ok (.iconst (-1), 1) := by decide +kernel
theorem dX8_aim_19 : decode cX8_aim 19 = .ok (.ireturn, 1) := by decide +kernel
theorem dX8_aim_20 : decode cX8_aim 20 = .ok (.aload_n 0, 1) := by decide +kernel
theorem dX8_aim_21 : decode cX8_aim 21 = .ok (.getfield 58, 3) := by decide +kernel
theorem dX8_aim_24 : decode cX8_aim 24 = .ok (.iload_n 1, 1) := by decide +kernel
theorem dX8_aim_25 : decode cX8_aim 25 = .ok (.iload_n 2, 1) := by decide +kernel
theorem dX8_aim_26 : decode cX8_aim 26 = .ok (.invokevirtual 264, 3) := by decide +kernel
theorem dX8_aim_29 : decode cX8_aim 29 = .ok (.ireturn, 1) := by decide +kernel
theorem dX8_counts_0 : decode cX8_counts 0 = .ok (.aload_n 0, 1) := by decide +kernel
theorem dX8_counts_1 : decode cX8_counts 1 = .ok (.getfield 58, 3) := by decide +kernel
theorem dX8_counts_4 : decode cX8_counts 4 = .ok (.aload_n 0, 1) := by decide +kernel
theorem dX8_counts_5 : decode cX8_counts 5 = .ok (.getfield 23, 3) := by decide +kernel
theorem dX8_counts_8 : decode cX8_counts 8 = .ok (.invokevirtual 267, 3) := by decide +kernel
theorem dX8_counts_11 : decode cX8_counts 11 = .ok (.iload_n 1, 1) := by decide +kernel
theorem dX8_counts_12 : decode cX8_counts 12 = .ok (.iconst (-1), 1) := by decide +kernel
theorem dX8_counts_13 : decode cX8_counts 13 = .ok (.if_icmp .ne 11, 3) := by decide +kernel
theorem dX8_counts_16 : decode cX8_counts 16 = .ok (.aload_n 0, 1) := by decide +kernel
theorem dX8_counts_17 : decode cX8_counts 17 = .ok (.getfield 58, 3) := by decide +kernel
theorem dX8_counts_20 : decode cX8_counts 20 = .ok (.getfield 270, 3) := by decide +kernel
theorem dX8_counts_23 : decode cX8_counts 23 = .ok (.ireturn, 1) := by decide +kernel
theorem dX8_counts_24 : decode cX8_counts 24 = .ok (.aload_n 0, 1) := by decide +kernel
theorem dX8_counts_25 : decode cX8_counts 25 = .ok (.getfield 58, 3) := by decide +kernel
theorem dX8_counts_28 : decode cX8_counts 28 = .ok (.getfield 270, 3) := by decide +kernel
theorem dX8_counts_31 : decode cX8_counts 31 = .ok (.iconst (-1), 1) := by decide +kernel
theorem dX8_counts_32 : decode cX8_counts 32 = .ok (.if_icmp .eq 26, 3) := by decide +kernel
theorem dX8_counts_35 : decode cX8_counts 35 = .ok (.aload_n 0, 1) := by decide +kernel
theorem dX8_counts_36 : decode cX8_counts 36 = .ok (.getfield 23, 3) := by decide +kernel
theorem dX8_counts_39 : decode cX8_counts 39 = .ok (.iload_n 1, 1) := by decide +kernel
theorem dX8_counts_40 : decode cX8_counts 40 = .ok (.invokevirtual 136, 3) := by decide +kernel
theorem dX8_counts_43 : decode cX8_counts 43 = .ok (.ifCond .eq 15, 3) := by decide +kernel
theorem dX8_counts_46 : decode cX8_counts 46 = .ok (.aload_n 0, 1) := by decide +kernel
theorem dX8_counts_47 : decode cX8_counts 47 = .ok (.getfield 58, 3) := by decide +kernel
theorem dX8_counts_50 : decode cX8_counts 50 = .ok (.getfield 273, 3) := by decide +kernel
theorem dX8_counts_53 : decode cX8_counts 53 = .ok (.iload_n 1, 1) := by decide +kernel
theorem dX8_counts_54 : decode cX8_counts 54 = .ok (.iaload, 1) := by decide +kernel
theorem dX8_counts_55 : decode cX8_counts 55 = .ok (.goto 4, 3) := by decide +kernel
theorem dX8_counts_58 : decode cX8_counts 58 = .ok (.iconst (-1), 1) := by decide +kernel
theorem dX8_counts_59 : decode cX8_counts 59 = .ok (.ireturn, 1) := by decide +kernel
theorem dX8_order_0 : decode cX8_order 0 = .ok (.aload_n 0, 1) := by decide +kernel
theorem dX8_order_1 : decode cX8_order 1 = .ok (.getfield 58, 3) := by decide +kernel
theorem dX8_order_4 : decode cX8_order 4 = .ok (.aload_n 0, 1) := by decide +kernel
theorem dX8_order_5 : decode cX8_order 5 = .ok (.getfield 23, 3) := by decide +kernel
theorem dX8_order_8 : decode cX8_order 8 = .ok (.invokevirtual 267, 3) := by decide +kernel
theorem dX8_order_11 : decode cX8_order 11 = .ok (.aload_n 0, 1) := by decide +kernel
theorem dX8_order_12 : decode cX8_order 12 = .ok (.getfield 58, 3) := by decide +kernel
theorem dX8_order_15 : decode cX8_order 15 = .ok (.getfield 270, 3) := by decide +kernel
theorem dX8_order_18 : decode cX8_order 18 = .ok (.iconst (-1), 1) := by decide +kernel
theorem dX8_order_19 : decode cX8_order 19 = .ok (.if_icmp .ne 5, 3) := by decide +kernel
theorem dX8_order_22 : decode cX8_order 22 = .ok (.iconst (-1), 1) := by decide +kernel
theorem dX8_order_23 : decode cX8_order 23 = .ok (.ireturn, 1) := by decide +kernel
theorem dX8_order_24 : decode cX8_order 24 = .ok (.aload_n 0, 1) := by decide +kernel
theorem dX8_order_25 : decode cX8_order 25 = .ok (.getfield 58, 3) := by decide +kernel
theorem dX8_order_28 : decode cX8_order 28 = .ok (.aload_n 0, 1) := by decide +kernel
theorem dX8_order_29 : decode cX8_order 29 = .ok (.getfield 23, 3) := by decide +kernel
theorem dX8_order_32 : decode cX8_order 32 = .ok (.invokevirtual 276, 3) := by decide +kernel
theorem dX8_order_35 : decode cX8_order 35 = .ok (.ifCond .ne 6, 3) := by decide +kernel
theorem dX8_order_38 : decode cX8_order 38 = .ok (.bipush (-2), 2) := by decide +kernel
theorem dX8_order_40 : decode cX8_order 40 = .ok (.ireturn, 1) := by decide +kernel
theorem dX8_order_41 : decode cX8_order 41 = .ok (.iload_n 1, 1) := by decide +kernel
theorem dX8_order_42 : decode cX8_order 42 = .ok (.ifCond .lt 26, 3) := by decide +kernel
theorem dX8_order_45 : decode cX8_order 45 = .ok (.iload_n 1, 1) := by decide +kernel
theorem dX8_order_46 : decode cX8_order 46 = .ok (.aload_n 0, 1) := by decide +kernel
theorem dX8_order_47 : decode cX8_order 47 = .ok (.getfield 58, 3) := by decide +kernel
theorem dX8_order_50 : decode cX8_order 50 = .ok (.getfield 270, 3) := by decide +kernel
theorem dX8_order_53 : decode cX8_order 53 = .ok (.if_icmp .ge 15, 3) := by decide +kernel
theorem dX8_order_56 : decode cX8_order 56 = .ok (.aload_n 0, 1) := by decide +kernel
theorem dX8_order_57 : decode cX8_order 57 = .ok (.getfield 58, 3) := by decide +kernel
theorem dX8_order_60 : decode cX8_order 60 = .ok (.getfield 279, 3) := by decide +kernel
theorem dX8_order_63 : decode cX8_order 63 = .ok (.iload_n 1, 1) := by decide +kernel
theorem dX8_order_64 : decode cX8_order 64 = .ok (.iaload, 1) := by decide +kernel
theorem dX8_order_65 : decode cX8_order 65 = .ok (.goto 4, 3) := by decide +kernel
theorem dX8_order_68 : decode cX8_order 68 = .ok (.iconst (-1), 1) := by decide +kernel
theorem dX8_order_69 : decode cX8_order 69 = .ok (.ireturn, 1) := by decide +kernel
theorem dX8_reaches_0 : decode cX8_reaches 0 = .ok (.aload_n 0, 1) := by decide +kernel
theorem dX8_reaches_1 : decode cX8_reaches 1 = .ok (.invokevirtual 282, 3) := by decide +kernel
theorem dX8_reaches_4 : decode cX8_reaches 4 = .ok (.astore_n 1, 1) := by decide +kernel
theorem dX8_reaches_5 : decode cX8_reaches 5 = .ok (.iconst 0, 1) := by decide +kernel
theorem dX8_reaches_6 : decode cX8_reaches 6 = .ok (.istore_n 2, 1) := by decide +kernel
theorem dX8_reaches_7 : decode cX8_reaches 7 = .ok (.iload_n 2, 1) := by decide +kernel
theorem dX8_reaches_8 : decode cX8_reaches 8 = .ok (.aload_n 1, 1) := by decide +kernel
theorem dX8_reaches_9 : decode cX8_reaches 9 = .ok (.getfield 286, 3) := by decide +kernel
theorem dX8_reaches_12 : decode cX8_reaches 12 = .ok (.if_icmp .ge 40, 3) := by decide +kernel
theorem dX8_reaches_15 : decode cX8_reaches 15 = .ok (.aload_n 0, 1) := by decide +kernel
theorem dX8_reaches_16 : decode cX8_reaches 16 = .ok (.getfield 58, 3) := by decide +kernel
theorem dX8_reaches_19 : decode cX8_reaches 19 = .ok (.aload_n 0, 1) := by decide +kernel
theorem dX8_reaches_20 : decode cX8_reaches 20 = .ok (.getfield 23, 3) := by decide +kernel
theorem dX8_reaches_23 : decode cX8_reaches 23 = .ok (.getfield 107, 3) := by decide +kernel
theorem dX8_reaches_26 : decode cX8_reaches 26 = .ok (.aload_n 1, 1) := by decide +kernel
theorem dX8_reaches_27 : decode cX8_reaches 27 = .ok (.getfield 289, 3) := by decide +kernel
theorem dX8_reaches_30 : decode cX8_reaches 30 = .ok (.iload_n 2, 1) := by decide +kernel
theorem dX8_reaches_31 : decode cX8_reaches 31 = .ok (.bipush 10, 2) := by decide +kernel
theorem dX8_reaches_33 : decode cX8_reaches 33 = .ok (.imul, 1) := by decide +kernel
theorem dX8_reaches_34 : decode cX8_reaches 34 = .ok (.invokevirtual 292, 3) := by decide +kernel
theorem dX8_reaches_37 : decode cX8_reaches 37 = .ok (.ifCond .eq 9, 3) := by decide +kernel
theorem dX8_reaches_40 : decode cX8_reaches 40 = .ok (.aload_n 1, 1) := by decide +kernel
theorem dX8_reaches_41 : decode cX8_reaches 41 = .ok (.iload_n 2, 1) := by decide +kernel
theorem dX8_reaches_42 : decode cX8_reaches 42 = .ok (.invokevirtual 295, 3) := by decide +kernel
theorem dX8_reaches_45 : decode cX8_reaches 45 = .ok (.ireturn, 1) := by decide +kernel
theorem dX8_reaches_46 : decode cX8_reaches 46 = .ok (.iinc 2 1, 3) := by decide +kernel
theorem dX8_reaches_49 : decode cX8_reaches 49 = .ok (.goto (-42), 3) := by decide +kernel
theorem dX8_reaches_52 : decode cX8_reaches 52 = .ok (.aload_n 1, 1) := by decide +kernel
theorem dX8_reaches_53 : decode cX8_reaches 53 = .ok (.getfield 298, 3) := by decide +kernel
theorem dX8_reaches_56 : decode cX8_reaches 56 = .ok (.ifCond .eq 8, 3) := by decide +kernel
theorem dX8_reaches_59 : decode cX8_reaches 59 = .ok (.bipush (-2), 2) := by decide +kernel
theorem dX8_reaches_61 : decode cX8_reaches 61 = .ok (.goto 4, 3) := by decide +kernel
theorem dX8_reaches_64 : decode cX8_reaches 64 = .ok (.iconst (-1), 1) := by decide +kernel
theorem dX8_reaches_65 : decode cX8_reaches 65 = .ok (.ireturn, 1) := by decide +kernel
theorem dX8_graph_0 : decode cX8_graph 0 = .ok (.aload_n 0, 1) := by decide +kernel
theorem dX8_graph_1 : decode cX8_graph 1 = .ok (.invokevirtual 282, 3) := by decide +kernel
theorem dX8_graph_4 : decode cX8_graph 4 = .ok (.astore_n 2, 1) := by decide +kernel
theorem dX8_graph_5 : decode cX8_graph 5 = .ok (.iload_n 1, 1) := by decide +kernel
theorem dX8_graph_6 : decode cX8_graph 6 = .ok (.tableswitch 66 0 4 #[34, 39, 47, 52, 57], 34) := by decide +kernel
theorem dX8_graph_40 : decode cX8_graph 40 = .ok (.aload_n 2, 1) := by decide +kernel
theorem dX8_graph_41 : decode cX8_graph 41 = .ok (.getfield 286, 3) := by decide +kernel
theorem dX8_graph_44 : decode cX8_graph 44 = .ok (.ireturn, 1) := by decide +kernel
theorem dX8_graph_45 : decode cX8_graph 45 = .ok (.aload_n 2, 1) := by decide +kernel
theorem dX8_graph_46 : decode cX8_graph 46 = .ok (.getfield 298, 3) := by decide +kernel
theorem dX8_graph_49 : decode cX8_graph 49 = .ok (.invokestatic 162, 3) := by decide +kernel
theorem dX8_graph_52 : decode cX8_graph 52 = .ok (.ireturn, 1) := by decide +kernel
theorem dX8_graph_53 : decode cX8_graph 53 = .ok (.aload_n 2, 1) := by decide +kernel
theorem dX8_graph_54 : decode cX8_graph 54 = .ok (.invokevirtual 302, 3) := by decide +kernel
theorem dX8_graph_57 : decode cX8_graph 57 = .ok (.ireturn, 1) := by decide +kernel
theorem dX8_graph_58 : decode cX8_graph 58 = .ok (.aload_n 2, 1) := by decide +kernel
theorem dX8_graph_59 : decode cX8_graph 59 = .ok (.invokevirtual 305, 3) := by decide +kernel
theorem dX8_graph_62 : decode cX8_graph 62 = .ok (.ireturn, 1) := by decide +kernel
theorem dX8_graph_63 : decode cX8_graph 63 = .ok (.aload_n 2, 1) := by decide +kernel
theorem dX8_graph_64 : decode cX8_graph 64 = .ok (.invokevirtual 308, 3) := by decide +kernel
theorem dX8_graph_67 : decode cX8_graph 67 = .ok (.aload_n 2, 1) := by decide +kernel
theorem dX8_graph_68 : decode cX8_graph 68 = .ok (.getfield 311, 3) := by decide +kernel
theorem dX8_graph_71 : decode cX8_graph 71 = .ok (.ireturn, 1) := by decide +kernel
theorem dX8_graph_72 : decode cX8_graph 72 = .ok (.iconst (-1), 1) := by decide +kernel
theorem dX8_graph_73 : decode cX8_graph 73 = .ok (.ireturn, 1) := by decide +kernel
theorem dX8_marking_0 : decode cX8_marking 0 = .ok (.aload_n 0, 1) := by decide +kernel
theorem dX8_marking_1 : decode cX8_marking 1 = .ok (.invokevirtual 282, 3) := by decide +kernel
theorem dX8_marking_4 : decode cX8_marking 4 = .ok (.astore_n 3, 1) := by decide +kernel
theorem dX8_marking_5 : decode cX8_marking 5 = .ok (.aload_n 0, 1) := by decide +kernel
theorem dX8_marking_6 : decode cX8_marking 6 = .ok (.getfield 23, 3) := by decide +kernel
theorem dX8_marking_9 : decode cX8_marking 9 = .ok (.iload_n 2, 1) := by decide +kernel
theorem dX8_marking_10 : decode cX8_marking 10 = .ok (.invokevirtual 140, 3) := by decide +kernel
theorem dX8_marking_13 : decode cX8_marking 13 = .ok (.ifCond .eq 19, 3) := by decide +kernel
theorem dX8_marking_16 : decode cX8_marking 16 = .ok (.iload_n 1, 1) := by decide +kernel
theorem dX8_marking_17 : decode cX8_marking 17 = .ok (.ifCond .lt 15, 3) := by decide +kernel
theorem dX8_marking_20 : decode cX8_marking 20 = .ok (.iload_n 1, 1) := by decide +kernel
theorem dX8_marking_21 : decode cX8_marking 21 = .ok (.aload_n 3, 1) := by decide +kernel
theorem dX8_marking_22 : decode cX8_marking 22 = .ok (.getfield 286, 3) := by decide +kernel
theorem dX8_marking_25 : decode cX8_marking 25 = .ok (.if_icmp .ge 7, 3) := by decide +kernel
theorem dX8_marking_28 : decode cX8_marking 28 = .ok (.iconst 1, 1) := by decide +kernel
theorem dX8_marking_29 : decode cX8_marking 29 = .ok (.goto 4, 3) := by decide +kernel
theorem dX8_marking_32 : decode cX8_marking 32 = .ok (.iconst 0, 1) := by decide +kernel
theorem dX8_marking_33 : decode cX8_marking 33 = .ok (.istore 4, 2) := by decide +kernel
theorem dX8_marking_35 : decode cX8_marking 35 = .ok (.iload 4, 2) := by decide +kernel
theorem dX8_marking_37 : decode cX8_marking 37 = .ok (.ifCond .eq 17, 3) := by decide +kernel
theorem dX8_marking_40 : decode cX8_marking 40 = .ok (.aload_n 3, 1) := by decide +kernel
theorem dX8_marking_41 : decode cX8_marking 41 = .ok (.getfield 289, 3) := by decide +kernel
theorem dX8_marking_44 : decode cX8_marking 44 = .ok (.iload_n 1, 1) := by decide +kernel
theorem dX8_marking_45 : decode cX8_marking 45 = .ok (.bipush 10, 2) := by decide +kernel
theorem dX8_marking_47 : decode cX8_marking 47 = .ok (.imul, 1) := by decide +kernel
theorem dX8_marking_48 : decode cX8_marking 48 = .ok (.iload_n 2, 1) := by decide +kernel
theorem dX8_marking_49 : decode cX8_marking 49 = .ok (.iadd, 1) := by decide +kernel
theorem dX8_marking_50 : decode cX8_marking 50 = .ok (.iaload, 1) := by decide +kernel
theorem dX8_marking_51 : decode cX8_marking 51 = .ok (.goto 4, 3) := by decide +kernel
theorem dX8_marking_54 : decode cX8_marking 54 = .ok (.iconst (-1), 1) := by decide +kernel
theorem dX8_marking_55 : decode cX8_marking 55 = .ok (.ireturn, 1) := by decide +kernel
theorem dX8_came_0 : decode cX8_came 0 = .ok (.aload_n 0, 1) := by decide +kernel
theorem dX8_came_1 : decode cX8_came 1 = .ok (.invokevirtual 282, 3) := by decide +kernel
theorem dX8_came_4 : decode cX8_came 4 = .ok (.astore_n 3, 1) := by decide +kernel
theorem dX8_came_5 : decode cX8_came 5 = .ok (.iload_n 1, 1) := by decide +kernel
theorem dX8_came_6 : decode cX8_came 6 = .ok (.ifCond .lt 11, 3) := by decide +kernel
theorem dX8_came_9 : decode cX8_came 9 = .ok (.iload_n 1, 1) := by decide +kernel
theorem dX8_came_10 : decode cX8_came 10 = .ok (.aload_n 3, 1) := by decide +kernel
theorem dX8_came_11 : decode cX8_came 11 = .ok (.getfield 286, 3) := by decide +kernel
theorem dX8_came_14 : decode cX8_came 14 = .ok (.if_icmp .lt 5, 3) := by decide +kernel
theorem dX8_came_17 : decode cX8_came 17 = .ok (.iconst (-1), 1) := by decide +kernel
theorem dX8_came_18 : decode cX8_came 18 = .ok (.ireturn, 1) := by decide +kernel
theorem dX8_came_19 : decode cX8_came 19 = .ok (.iload_n 2, 1) := by decide +kernel
theorem dX8_came_20 : decode cX8_came 20 = .ok (.tableswitch 64 0 3 #[32, 39, 46, 53], 32) := by decide +kernel
theorem dX8_came_52 : decode cX8_came 52 = .ok (.aload_n 3, 1) := by decide +kernel
theorem dX8_came_53 : decode cX8_came 53 = .ok (.getfield 314, 3) := by decide +kernel
theorem dX8_came_56 : decode cX8_came 56 = .ok (.iload_n 1, 1) := by decide +kernel
theorem dX8_came_57 : decode cX8_came 57 = .ok (.iaload, 1) := by decide +kernel
theorem dX8_came_58 : decode cX8_came 58 = .ok (.ireturn, 1) := by decide +kernel
theorem dX8_came_59 : decode cX8_came 59 = .ok (.aload_n 3, 1) := by decide +kernel
theorem dX8_came_60 : decode cX8_came 60 = .ok (.getfield 317, 3) := by decide +kernel
theorem dX8_came_63 : decode cX8_came 63 = .ok (.iload_n 1, 1) := by decide +kernel
theorem dX8_came_64 : decode cX8_came 64 = .ok (.iaload, 1) := by decide +kernel
theorem dX8_came_65 : decode cX8_came 65 = .ok (.ireturn, 1) := by decide +kernel
theorem dX8_came_66 : decode cX8_came 66 = .ok (.aload_n 3, 1) := by decide +kernel
theorem dX8_came_67 : decode cX8_came 67 = .ok (.getfield 320, 3) := by decide +kernel
theorem dX8_came_70 : decode cX8_came 70 = .ok (.iload_n 1, 1) := by decide +kernel
theorem dX8_came_71 : decode cX8_came 71 = .ok (.iaload, 1) := by decide +kernel
theorem dX8_came_72 : decode cX8_came 72 = .ok (.ireturn, 1) := by decide +kernel
theorem dX8_came_73 : decode cX8_came 73 = .ok (.aload_n 3, 1) := by decide +kernel
theorem dX8_came_74 : decode cX8_came 74 = .ok (.invokevirtual 308, 3) := by decide +kernel
theorem dX8_came_77 : decode cX8_came 77 = .ok (.aload_n 3, 1) := by decide +kernel
theorem dX8_came_78 : decode cX8_came 78 = .ok (.getfield 323, 3) := by decide +kernel
theorem dX8_came_81 : decode cX8_came 81 = .ok (.iload_n 1, 1) := by decide +kernel
theorem dX8_came_82 : decode cX8_came 82 = .ok (.iaload, 1) := by decide +kernel
theorem dX8_came_83 : decode cX8_came 83 = .ok (.ireturn, 1) := by decide +kernel
theorem dX8_came_84 : decode cX8_came 84 = .ok (.iconst (-1), 1) := by decide +kernel
theorem dX8_came_85 : decode cX8_came 85 = .ok (.ireturn, 1) := by decide +kernel
theorem dX8_live_0 : decode cX8_live 0 = .ok (.aload_n 0, 1) := by decide +kernel
theorem dX8_live_1 : decode cX8_live 1 = .ok (.getfield 23, 3) := by decide +kernel
theorem dX8_live_4 : decode cX8_live 4 = .ok (.iload_n 1, 1) := by decide +kernel
theorem dX8_live_5 : decode cX8_live 5 = .ok (.invokevirtual 136, 3) := by decide +kernel
theorem dX8_live_8 : decode cX8_live 8 = .ok (.ifCond .ne 5, 3) := by decide +kernel
theorem dX8_live_11 : decode cX8_live 11 = .ok (.iconst (-1), 1) := by decide +kernel
theorem dX8_live_12 : decode cX8_live 12 = .ok (.ireturn, 1) := by decide +kernel
theorem dX8_live_13 : decode cX8_live 13 = .ok (.aload_n 0, 1) := by decide +kernel
theorem dX8_live_14 : decode cX8_live 14 = .ok (.invokevirtual 282, 3) := by decide +kernel
theorem dX8_live_17 : decode cX8_live 17 = .ok (.aload_n 0, 1) := by decide +kernel
theorem dX8_live_18 : decode cX8_live 18 = .ok (.getfield 23, 3) := by decide +kernel
theorem dX8_live_21 : decode cX8_live 21 = .ok (.invokevirtual 326, 3) := by decide +kernel
theorem dX8_live_24 : decode cX8_live 24 = .ok (.iload_n 1, 1) := by decide +kernel
theorem dX8_live_25 : decode cX8_live 25 = .ok (.ishr, 1) := by decide +kernel
theorem dX8_live_26 : decode cX8_live 26 = .ok (.iconst 1, 1) := by decide +kernel
theorem dX8_live_27 : decode cX8_live 27 = .ok (.iand, 1) := by decide +kernel
theorem dX8_live_28 : decode cX8_live 28 = .ok (.ireturn, 1) := by decide +kernel
theorem dX8_most_0 : decode cX8_most 0 = .ok (.aload_n 0, 1) := by decide +kernel
theorem dX8_most_1 : decode cX8_most 1 = .ok (.getfield 23, 3) := by decide +kernel
theorem dX8_most_4 : decode cX8_most 4 = .ok (.iload_n 1, 1) := by decide +kernel
theorem dX8_most_5 : decode cX8_most 5 = .ok (.invokevirtual 140, 3) := by decide +kernel
theorem dX8_most_8 : decode cX8_most 8 = .ok (.ifCond .eq 14, 3) := by decide +kernel
theorem dX8_most_11 : decode cX8_most 11 = .ok (.aload_n 0, 1) := by decide +kernel
theorem dX8_most_12 : decode cX8_most 12 = .ok (.invokevirtual 282, 3) := by decide +kernel
theorem dX8_most_15 : decode cX8_most 15 = .ok (.iload_n 1, 1) := by decide +kernel
theorem dX8_most_16 : decode cX8_most 16 = .ok (.invokevirtual 329, 3) := by decide +kernel
theorem dX8_most_19 : decode cX8_most 19 = .ok (.goto 4, 3) := by decide +kernel
theorem dX8_most_22 : decode cX8_most 22 = .ok (.iconst (-1), 1) := by decide +kernel
theorem dX8_most_23 : decode cX8_most 23 = .ok (.ireturn, 1) := by decide +kernel
theorem dX8_reduce_0 : decode cX8_reduce 0 = .ok (.aload_n 0, 1) := by decide +kernel
theorem dX8_reduce_1 : decode cX8_reduce 1 = .ok (.getfield 72, 3) := by decide +kernel
theorem dX8_reduce_4 : decode cX8_reduce 4 = .ok (.aload_n 0, 1) := by decide +kernel
theorem dX8_reduce_5 : decode cX8_reduce 5 = .ok (.getfield 23, 3) := by decide +kernel
theorem dX8_reduce_8 : decode cX8_reduce 8 = .ok (.invokevirtual 332, 3) := by decide +kernel
theorem dX8_reduce_11 : decode cX8_reduce 11 = .ok (.aload_n 0, 1) := by decide +kernel
theorem dX8_reduce_12 : decode cX8_reduce 12 = .ok (.getfield 72, 3) := by decide +kernel
theorem dX8_reduce_15 : decode cX8_reduce 15 = .ok (.getfield 335, 3) := by decide +kernel
theorem dX8_reduce_18 : decode cX8_reduce 18 = .ok (.ireturn, 1) := by decide +kernel
theorem dX8_rule_0 : decode cX8_rule 0 = .ok (.aload_n 0, 1) := by decide +kernel
theorem dX8_rule_1 : decode cX8_rule 1 = .ok (.getfield 72, 3) := by decide +kernel
theorem dX8_rule_4 : decode cX8_rule 4 = .ok (.aload_n 0, 1) := by decide +kernel
theorem dX8_rule_5 : decode cX8_rule 5 = .ok (.getfield 23, 3) := by decide +kernel
theorem dX8_rule_8 : decode cX8_rule 8 = .ok (.invokevirtual 332, 3) := by decide +kernel
theorem dX8_rule_11 : decode cX8_rule 11 = .ok (.iload_n 1, 1) := by decide +kernel
theorem dX8_rule_12 : decode cX8_rule 12 = .ok (.ifCond .lt 14, 3) := by decide +kernel
theorem dX8_rule_15 : decode cX8_rule 15 = .ok (.iload_n 1, 1) := by decide +kernel
theorem dX8_rule_16 : decode cX8_rule 16 = .ok (.aload_n 0, 1) := by decide +kernel
theorem dX8_rule_17 : decode cX8_rule 17 = .ok (.getfield 72, 3) := by decide +kernel
theorem dX8_rule_20 : decode cX8_rule 20 = .ok (.getfield 335, 3) := by decide +kernel
theorem dX8_rule_23 : decode cX8_rule 23 = .ok (.if_icmp .lt 5, 3) := by decide +kernel
theorem dX8_rule_26 : decode cX8_rule 26 = .ok (.iconst (-1), 1) := by decide +kernel
theorem dX8_rule_27 : decode cX8_rule 27 = .ok (.ireturn, 1) := by decide +kernel
theorem dX8_rule_28 : decode cX8_rule 28 = .ok (.iload_n 2, 1) := by decide +kernel
theorem dX8_rule_29 : decode cX8_rule 29 = .ok (.tableswitch 57 0 2 #[27, 37, 47], 27) := by decide +kernel
theorem dX8_rule_56 : decode cX8_rule 56 = .ok (.aload_n 0, 1) := by decide +kernel
theorem dX8_rule_57 : decode cX8_rule 57 = .ok (.getfield 72, 3) := by decide +kernel
theorem dX8_rule_60 : decode cX8_rule 60 = .ok (.getfield 336, 3) := by decide +kernel
theorem dX8_rule_63 : decode cX8_rule 63 = .ok (.iload_n 1, 1) := by decide +kernel
theorem dX8_rule_64 : decode cX8_rule 64 = .ok (.iaload, 1) := by decide +kernel
theorem dX8_rule_65 : decode cX8_rule 65 = .ok (.ireturn, 1) := by decide +kernel
theorem dX8_rule_66 : decode cX8_rule 66 = .ok (.aload_n 0, 1) := by decide +kernel
theorem dX8_rule_67 : decode cX8_rule 67 = .ok (.getfield 72, 3) := by decide +kernel
theorem dX8_rule_70 : decode cX8_rule 70 = .ok (.getfield 337, 3) := by decide +kernel
theorem dX8_rule_73 : decode cX8_rule 73 = .ok (.iload_n 1, 1) := by decide +kernel
theorem dX8_rule_74 : decode cX8_rule 74 = .ok (.iaload, 1) := by decide +kernel
theorem dX8_rule_75 : decode cX8_rule 75 = .ok (.ireturn, 1) := by decide +kernel
theorem dX8_rule_76 : decode cX8_rule 76 = .ok (.aload_n 0, 1) := by decide +kernel
theorem dX8_rule_77 : decode cX8_rule 77 = .ok (.getfield 72, 3) := by decide +kernel
theorem dX8_rule_80 : decode cX8_rule 80 = .ok (.getfield 340, 3) := by decide +kernel
theorem dX8_rule_83 : decode cX8_rule 83 = .ok (.iload_n 1, 1) := by decide +kernel
theorem dX8_rule_84 : decode cX8_rule 84 = .ok (.iaload, 1) := by decide +kernel
theorem dX8_rule_85 : decode cX8_rule 85 = .ok (.ireturn, 1) := by decide +kernel
theorem dX8_rule_86 : decode cX8_rule 86 = .ok (.iconst (-1), 1) := by decide +kernel
theorem dX8_rule_87 : decode cX8_rule 87 = .ok (.ireturn, 1) := by decide +kernel
theorem dX8_reduced_0 : decode cX8_reduced 0 = .ok (.aload_n 0, 1) := by decide +kernel
theorem dX8_reduced_1 : decode cX8_reduced 1 = .ok (.getfield 72, 3) := by decide +kernel
theorem dX8_reduced_4 : decode cX8_reduced 4 = .ok (.aload_n 0, 1) := by decide +kernel
theorem dX8_reduced_5 : decode cX8_reduced 5 = .ok (.getfield 23, 3) := by decide +kernel
theorem dX8_reduced_8 : decode cX8_reduced 8 = .ok (.invokevirtual 332, 3) := by decide +kernel
theorem dX8_reduced_11 : decode cX8_reduced 11 = .ok (.iload_n 1, 1) := by decide +kernel
theorem dX8_reduced_12 : decode cX8_reduced 12 = .ok (.tableswitch 104 0 5 #[40, 51, 62, 70, 81, 96], 40) := by decide +kernel
theorem dX8_reduced_52 : decode cX8_reduced 52 = .ok (.aload_n 0, 1) := by decide +kernel
theorem dX8_reduced_53 : decode cX8_reduced 53 = .ok (.getfield 72, 3) := by decide +kernel
theorem dX8_reduced_56 : decode cX8_reduced 56 = .ok (.getfield 343, 3) := by decide +kernel
theorem dX8_reduced_59 : decode cX8_reduced 59 = .ok (.getfield 107, 3) := by decide +kernel
theorem dX8_reduced_62 : decode cX8_reduced 62 = .ok (.ireturn, 1) := by decide +kernel
theorem dX8_reduced_63 : decode cX8_reduced 63 = .ok (.aload_n 0, 1) := by decide +kernel
theorem dX8_reduced_64 : decode cX8_reduced 64 = .ok (.getfield 72, 3) := by decide +kernel
theorem dX8_reduced_67 : decode cX8_reduced 67 = .ok (.getfield 343, 3) := by decide +kernel
theorem dX8_reduced_70 : decode cX8_reduced 70 = .ok (.getfield 122, 3) := by decide +kernel
theorem dX8_reduced_73 : decode cX8_reduced 73 = .ok (.ireturn, 1) := by decide +kernel
theorem dX8_reduced_74 : decode cX8_reduced 74 = .ok (.aload_n 0, 1) := by decide +kernel
theorem dX8_reduced_75 : decode cX8_reduced 75 = .ok (.invokevirtual 346, 3) := by decide +kernel
theorem dX8_reduced_78 : decode cX8_reduced 78 = .ok (.getfield 286, 3) := by decide +kernel
theorem dX8_reduced_81 : decode cX8_reduced 81 = .ok (.ireturn, 1) := by decide +kernel
theorem dX8_reduced_82 : decode cX8_reduced 82 = .ok (.aload_n 0, 1) := by decide +kernel
theorem dX8_reduced_83 : decode cX8_reduced 83 = .ok (.invokevirtual 346, 3) := by decide +kernel
theorem dX8_reduced_86 : decode cX8_reduced 86 = .ok (.getfield 298, 3) := by decide +kernel
theorem dX8_reduced_89 : decode cX8_reduced 89 = .ok (.invokestatic 162, 3) := by decide +kernel
theorem dX8_reduced_92 : decode cX8_reduced 92 = .ok (.ireturn, 1) := by decide +kernel
theorem dX8_reduced_93 : decode cX8_reduced 93 = .ok (.aload_n 0, 1) := by decide +kernel
theorem dX8_reduced_94 : decode cX8_reduced 94 = .ok (.invokevirtual 346, 3) := by decide +kernel
theorem dX8_reduced_97 : decode cX8_reduced 97 = .ok (.aload_n 0, 1) := by decide +kernel
theorem dX8_reduced_98 : decode cX8_reduced 98 = .ok (.getfield 72, 3) := by decide +kernel
theorem dX8_reduced_101 : decode cX8_reduced 101 = .ok (.getfield 343, 3) := by decide +kernel
theorem dX8_reduced_104 : decode cX8_reduced 104 = .ok (.invokevirtual 326, 3) := by decide +kernel
theorem dX8_reduced_107 : decode cX8_reduced 107 = .ok (.ireturn, 1) := by decide +kernel
theorem dX8_reduced_108 : decode cX8_reduced 108 = .ok (.aload_n 0, 1) := by decide +kernel
theorem dX8_reduced_109 : decode cX8_reduced 109 = .ok (.invokevirtual 346, 3) := by decide +kernel
theorem dX8_reduced_112 : decode cX8_reduced 112 = .ok (.invokevirtual 302, 3) := by decide +kernel
theorem dX8_reduced_115 : decode cX8_reduced 115 = .ok (.ireturn, 1) := by decide +kernel
theorem dX8_reduced_116 : decode cX8_reduced 116 = .ok (.iconst (-1), 1) := by decide +kernel
theorem dX8_reduced_117 : decode cX8_reduced 117 = .ok (.ireturn, 1) := by decide +kernel
theorem dX8_become_0 : decode cX8_become 0 = .ok (.aload_n 0, 1) := by decide +kernel
theorem dX8_become_1 : decode cX8_become 1 = .ok (.getfield 72, 3) := by decide +kernel
theorem dX8_become_4 : decode cX8_become 4 = .ok (.aload_n 0, 1) := by decide +kernel
theorem dX8_become_5 : decode cX8_become 5 = .ok (.getfield 23, 3) := by decide +kernel
theorem dX8_become_8 : decode cX8_become 8 = .ok (.invokevirtual 332, 3) := by decide +kernel
theorem dX8_become_11 : decode cX8_become 11 = .ok (.aload_n 0, 1) := by decide +kernel
theorem dX8_become_12 : decode cX8_become 12 = .ok (.getfield 72, 3) := by decide +kernel
theorem dX8_become_15 : decode cX8_become 15 = .ok (.getfield 335, 3) := by decide +kernel
theorem dX8_become_18 : decode cX8_become 18 = .ok (.ifCond .ne 5, 3) := by decide +kernel
theorem dX8_become_21 : decode cX8_become 21 = .ok (.iconst (-1), 1) := by decide +kernel
theorem dX8_become_22 : decode cX8_become 22 = .ok (.ireturn, 1) := by decide +kernel
theorem dX8_become_23 : decode cX8_become 23 = .ok (.aload_n 0, 1) := by decide +kernel
theorem dX8_become_24 : decode cX8_become 24 = .ok (.getfield 29, 3) := by decide +kernel
theorem dX8_become_27 : decode cX8_become 27 = .ok (.aload_n 0, 1) := by decide +kernel
theorem dX8_become_28 : decode cX8_become 28 = .ok (.getfield 23, 3) := by decide +kernel
theorem dX8_become_31 : decode cX8_become 31 = .ok (.invokevirtual 176, 3) := by decide +kernel
theorem dX8_become_34 : decode cX8_become 34 = .ok (.aload_n 0, 1) := by decide +kernel
theorem dX8_become_35 : decode cX8_become 35 = .ok (.getfield 23, 3) := by decide +kernel
theorem dX8_become_38 : decode cX8_become 38 = .ok (.aload_n 0, 1) := by decide +kernel
theorem dX8_become_39 : decode cX8_become 39 = .ok (.getfield 72, 3) := by decide +kernel
theorem dX8_become_42 : decode cX8_become 42 = .ok (.getfield 343, 3) := by decide +kernel
theorem dX8_become_45 : decode cX8_become 45 = .ok (.invokevirtual 94, 3) := by decide +kernel
theorem dX8_become_48 : decode cX8_become 48 = .ok (.aload_n 0, 1) := by decide +kernel
theorem dX8_become_49 : decode cX8_become 49 = .ok (.invokevirtual 98, 3) := by decide +kernel
theorem dX8_become_52 : decode cX8_become 52 = .ok (.aload_n 0, 1) := by decide +kernel
theorem dX8_become_53 : decode cX8_become 53 = .ok (.getfield 72, 3) := by decide +kernel
theorem dX8_become_56 : decode cX8_become 56 = .ok (.getfield 335, 3) := by decide +kernel
theorem dX8_become_59 : decode cX8_become 59 = .ok (.ireturn, 1) := by decide +kernel
theorem dX8_newState_0 : decode cX8_newState 0 = .ok (.aload_n 0, 1) := by decide +kernel
theorem dX8_newState_1 : decode cX8_newState 1 = .ok (.dup, 1) := by decide +kernel
theorem dX8_newState_2 : decode cX8_newState 2 = .ok (.getfield 79, 3) := by decide +kernel
theorem dX8_newState_5 : decode cX8_newState 5 = .ok (.iconst 1, 1) := by decide +kernel
theorem dX8_newState_6 : decode cX8_newState 6 = .ok (.iadd, 1) := by decide +kernel
theorem dX8_newState_7 : decode cX8_newState 7 = .ok (.putfield 79, 3) := by decide +kernel
theorem dX8_newState_10 : decode cX8_newState 10 = .ok (.aload_n 0, 1) := by decide +kernel
theorem dX8_newState_11 : decode cX8_newState 11 = .ok (.getfield 23, 3) := by decide +kernel
theorem dX8_newState_14 : decode cX8_newState 14 = .ok (.aload_n 0, 1) := by decide +kernel
theorem dX8_newState_15 : decode cX8_newState 15 = .ok (.getfield 79, 3) := by decide +kernel
theorem dX8_newState_18 : decode cX8_newState 18 = .ok (.putfield 349, 3) := by decide +kernel
theorem dX8_newState_21 : decode cX8_newState 21 = .ok (.return_, 1) := by decide +kernel
theorem dX8_newForm_0 : decode cX8_newForm 0 = .ok (.aload_n 0, 1) := by decide +kernel
theorem dX8_newForm_1 : decode cX8_newForm 1 = .ok (.invokevirtual 183, 3) := by decide +kernel
theorem dX8_newForm_4 : decode cX8_newForm 4 = .ok (.aload_n 0, 1) := by decide +kernel
theorem dX8_newForm_5 : decode cX8_newForm 5 = .ok (.getfield 23, 3) := by decide +kernel
theorem dX8_newForm_8 : decode cX8_newForm 8 = .ok (.aload_n 0, 1) := by decide +kernel
theorem dX8_newForm_9 : decode cX8_newForm 9 = .ok (.getfield 23, 3) := by decide +kernel
theorem dX8_newForm_12 : decode cX8_newForm 12 = .ok (.getfield 349, 3) := by decide +kernel
theorem dX8_newForm_15 : decode cX8_newForm 15 = .ok (.putfield 352, 3) := by decide +kernel
theorem dX8_newForm_18 : decode cX8_newForm 18 = .ok (.return_, 1) := by decide +kernel
theorem dX8_weights_0 : decode cX8_weights 0 = .ok (.iload_n 1, 1) := by decide +kernel
theorem dX8_weights_1 : decode cX8_weights 1 = .ok (.ifCond .ne 10, 3) := by decide +kernel
theorem dX8_weights_4 : decode cX8_weights 4 = .ok (.aload_n 0, 1) := by decide +kernel
theorem dX8_weights_5 : decode cX8_weights 5 = .ok (.getfield 38, 3) := by decide +kernel
theorem dX8_weights_8 : decode cX8_weights 8 = .ok (.goto 7, 3) := by decide +kernel
theorem dX8_weights_11 : decode cX8_weights 11 = .ok (.aload_n 0, 1) := by decide +kernel
theorem dX8_weights_12 : decode cX8_weights 12 = .ok (.getfield 42, 3) := by decide +kernel
theorem dX8_weights_15 : decode cX8_weights 15 = .ok (.astore_n 2, 1) := by decide +kernel
theorem dX8_weights_16 : decode cX8_weights 16 = .ok (.aload_n 2, 1) := by decide +kernel
theorem dX8_weights_17 : decode cX8_weights 17 = .ok (.aload_n 0, 1) := by decide +kernel
theorem dX8_weights_18 : decode cX8_weights 18 = .ok (.getfield 23, 3) := by decide +kernel
theorem dX8_weights_21 : decode cX8_weights 21 = .ok (.invokevirtual 355, 3) := by decide +kernel
theorem dX8_weights_24 : decode cX8_weights 24 = .ok (.aload_n 2, 1) := by decide +kernel
theorem dX8_weights_25 : decode cX8_weights 25 = .ok (.areturn, 1) := by decide +kernel
theorem dX8_placeSets_0 : decode cX8_placeSets 0 = .ok (.iload_n 1, 1) := by decide +kernel
theorem dX8_placeSets_1 : decode cX8_placeSets 1 = .ok (.ifCond .ne 10, 3) := by decide +kernel
theorem dX8_placeSets_4 : decode cX8_placeSets 4 = .ok (.aload_n 0, 1) := by decide +kernel
theorem dX8_placeSets_5 : decode cX8_placeSets 5 = .ok (.getfield 48, 3) := by decide +kernel
theorem dX8_placeSets_8 : decode cX8_placeSets 8 = .ok (.goto 7, 3) := by decide +kernel
theorem dX8_placeSets_11 : decode cX8_placeSets 11 = .ok (.aload_n 0, 1) := by decide +kernel
theorem dX8_placeSets_12 : decode cX8_placeSets 12 = .ok (.getfield 52, 3) := by decide +kernel
theorem dX8_placeSets_15 : decode cX8_placeSets 15 = .ok (.astore_n 2, 1) := by decide +kernel
theorem dX8_placeSets_16 : decode cX8_placeSets 16 = .ok (.aload_n 2, 1) := by decide +kernel
theorem dX8_placeSets_17 : decode cX8_placeSets 17 = .ok (.aload_n 0, 1) := by decide +kernel
theorem dX8_placeSets_18 : decode cX8_placeSets 18 = .ok (.getfield 23, 3) := by decide +kernel
theorem dX8_placeSets_21 : decode cX8_placeSets 21 = .ok (.invokevirtual 358, 3) := by decide +kernel
theorem dX8_placeSets_24 : decode cX8_placeSets 24 = .ok (.aload_n 2, 1) := by decide +kernel
theorem dX8_placeSets_25 : decode cX8_placeSets 25 = .ok (.areturn, 1) := by decide +kernel
theorem dX8_leastSets_0 : decode cX8_leastSets 0 = .ok (.aload_n 0, 1) := by decide +kernel
theorem dX8_leastSets_1 : decode cX8_leastSets 1 = .ok (.iload_n 1, 1) := by decide +kernel
theorem dX8_leastSets_2 : decode cX8_leastSets 2 = .ok (.invokevirtual 246, 3) := by decide +kernel
theorem dX8_leastSets_5 : decode cX8_leastSets 5 = .ok (.astore_n 2, 1) := by decide +kernel
theorem dX8_leastSets_6 : decode cX8_leastSets 6 = .ok (.aload_n 2, 1) := by decide +kernel
theorem dX8_leastSets_7 : decode cX8_leastSets 7 = .ok (.aload_n 0, 1) := by decide +kernel
theorem dX8_leastSets_8 : decode cX8_leastSets 8 = .ok (.getfield 23, 3) := by decide +kernel
theorem dX8_leastSets_11 : decode cX8_leastSets 11 = .ok (.getfield 107, 3) := by decide +kernel
theorem dX8_leastSets_14 : decode cX8_leastSets 14 = .ok (.invokevirtual 361, 3) := by decide +kernel
theorem dX8_leastSets_17 : decode cX8_leastSets 17 = .ok (.aload_n 2, 1) := by decide +kernel
theorem dX8_leastSets_18 : decode cX8_leastSets 18 = .ok (.areturn, 1) := by decide +kernel
theorem dX8_presentGraph_0 : decode cX8_presentGraph 0 = .ok (.aload_n 0, 1) := by decide +kernel
theorem dX8_presentGraph_1 : decode cX8_presentGraph 1 = .ok (.getfield 65, 3) := by decide +kernel
theorem dX8_presentGraph_4 : decode cX8_presentGraph 4 = .ok (.aload_n 0, 1) := by decide +kernel
theorem dX8_presentGraph_5 : decode cX8_presentGraph 5 = .ok (.getfield 23, 3) := by decide +kernel
theorem dX8_presentGraph_8 : decode cX8_presentGraph 8 = .ok (.aload_n 0, 1) := by decide +kernel
theorem dX8_presentGraph_9 : decode cX8_presentGraph 9 = .ok (.getfield 23, 3) := by decide +kernel
theorem dX8_presentGraph_12 : decode cX8_presentGraph 12 = .ok (.getfield 349, 3) := by decide +kernel
theorem dX8_presentGraph_15 : decode cX8_presentGraph 15 = .ok (.invokevirtual 363, 3) := by decide +kernel
theorem dX8_presentGraph_18 : decode cX8_presentGraph 18 = .ok (.aload_n 0, 1) := by decide +kernel
theorem dX8_presentGraph_19 : decode cX8_presentGraph 19 = .ok (.getfield 65, 3) := by decide +kernel
theorem dX8_presentGraph_22 : decode cX8_presentGraph 22 = .ok (.areturn, 1) := by decide +kernel
theorem dX8_smallerGraph_0 : decode cX8_smallerGraph 0 = .ok (.aload_n 0, 1) := by decide +kernel
theorem dX8_smallerGraph_1 : decode cX8_smallerGraph 1 = .ok (.getfield 76, 3) := by decide +kernel
theorem dX8_smallerGraph_4 : decode cX8_smallerGraph 4 = .ok (.aload_n 0, 1) := by decide +kernel
theorem dX8_smallerGraph_5 : decode cX8_smallerGraph 5 = .ok (.getfield 72, 3) := by decide +kernel
theorem dX8_smallerGraph_8 : decode cX8_smallerGraph 8 = .ok (.getfield 343, 3) := by decide +kernel
theorem dX8_smallerGraph_11 : decode cX8_smallerGraph 11 = .ok (.aload_n 0, 1) := by decide +kernel
theorem dX8_smallerGraph_12 : decode cX8_smallerGraph 12 = .ok (.getfield 23, 3) := by decide +kernel
theorem dX8_smallerGraph_15 : decode cX8_smallerGraph 15 = .ok (.getfield 349, 3) := by decide +kernel
theorem dX8_smallerGraph_18 : decode cX8_smallerGraph 18 = .ok (.invokevirtual 363, 3) := by decide +kernel
theorem dX8_smallerGraph_21 : decode cX8_smallerGraph 21 = .ok (.aload_n 0, 1) := by decide +kernel
theorem dX8_smallerGraph_22 : decode cX8_smallerGraph 22 = .ok (.getfield 76, 3) := by decide +kernel
theorem dX8_smallerGraph_25 : decode cX8_smallerGraph 25 = .ok (.areturn, 1) := by decide +kernel
theorem dX8_isOneOfTwo_0 : decode cX8_isOneOfTwo 0 = .ok (.iload_n 0, 1) := by decide +kernel
theorem dX8_isOneOfTwo_1 : decode cX8_isOneOfTwo 1 = .ok (.ifCond .eq 8, 3) := by decide +kernel
theorem dX8_isOneOfTwo_4 : decode cX8_isOneOfTwo 4 = .ok (.iload_n 0, 1) := by decide +kernel
theorem dX8_isOneOfTwo_5 : decode cX8_isOneOfTwo 5 = .ok (.iconst 1, 1) := by decide +kernel
theorem dX8_isOneOfTwo_6 : decode cX8_isOneOfTwo 6 = .ok (.if_icmp .ne 7, 3) := by decide +kernel
theorem dX8_isOneOfTwo_9 : decode cX8_isOneOfTwo 9 = .ok (.iconst 1, 1) := by decide +kernel
theorem dX8_isOneOfTwo_10 : decode cX8_isOneOfTwo 10 = .ok (.goto 4, 3) := by decide +kernel
theorem dX8_isOneOfTwo_13 : decode cX8_isOneOfTwo 13 = .ok (.iconst 0, 1) := by decide +kernel
theorem dX8_isOneOfTwo_14 : decode cX8_isOneOfTwo 14 = .ok (.ireturn, 1) := by decide +kernel
theorem dX8_isTokens_0 : decode cX8_isTokens 0 = .ok (.iload_n 0, 1) := by decide +kernel
theorem dX8_isTokens_1 : decode cX8_isTokens 1 = .ok (.ifCond .lt 14, 3) := by decide +kernel
theorem dX8_isTokens_4 : decode cX8_isTokens 4 = .ok (.iload_n 0, 1) := by decide +kernel
theorem dX8_isTokens_5 : decode cX8_isTokens 5 = .ok (.sipush 999, 3) := by decide +kernel
theorem dX8_isTokens_8 : decode cX8_isTokens 8 = .ok (.if_icmp .gt 7, 3) := by decide +kernel
theorem dX8_isTokens_11 : decode cX8_isTokens 11 = .ok (.iconst 1, 1) := by decide +kernel
theorem dX8_isTokens_12 : decode cX8_isTokens 12 = .ok (.goto 4, 3) := by decide +kernel
theorem dX8_isTokens_15 : decode cX8_isTokens 15 = .ok (.iconst 0, 1) := by decide +kernel
theorem dX8_isTokens_16 : decode cX8_isTokens 16 = .ok (.ireturn, 1) := by decide +kernel
theorem dX8_oneIf_0 : decode cX8_oneIf 0 = .ok (.iload_n 0, 1) := by decide +kernel
theorem dX8_oneIf_1 : decode cX8_oneIf 1 = .ok (.ifCond .eq 7, 3) := by decide +kernel
theorem dX8_oneIf_4 : decode cX8_oneIf 4 = .ok (.iconst 1, 1) := by decide +kernel
theorem dX8_oneIf_5 : decode cX8_oneIf 5 = .ok (.goto 4, 3) := by decide +kernel
theorem dX8_oneIf_8 : decode cX8_oneIf 8 = .ok (.iconst 0, 1) := by decide +kernel
theorem dX8_oneIf_9 : decode cX8_oneIf 9 = .ok (.ireturn, 1) := by decide +kernel
theorem dX8_bitAt_0 : decode cX8_bitAt 0 = .ok (.iload_n 1, 1) := by decide +kernel
theorem dX8_bitAt_1 : decode cX8_bitAt 1 = .ok (.istore_n 2, 1) := by decide +kernel
theorem dX8_bitAt_2 : decode cX8_bitAt 2 = .ok (.iconst 0, 1) := by decide +kernel
theorem dX8_bitAt_3 : decode cX8_bitAt 3 = .ok (.istore_n 3, 1) := by decide +kernel
theorem dX8_bitAt_4 : decode cX8_bitAt 4 = .ok (.iload_n 3, 1) := by decide +kernel
theorem dX8_bitAt_5 : decode cX8_bitAt 5 = .ok (.bipush 10, 2) := by decide +kernel
theorem dX8_bitAt_7 : decode cX8_bitAt 7 = .ok (.if_icmp .ge 29, 3) := by decide +kernel
theorem dX8_bitAt_10 : decode cX8_bitAt 10 = .ok (.iload_n 0, 1) := by decide +kernel
theorem dX8_bitAt_11 : decode cX8_bitAt 11 = .ok (.iload_n 3, 1) := by decide +kernel
theorem dX8_bitAt_12 : decode cX8_bitAt 12 = .ok (.ishr, 1) := by decide +kernel
theorem dX8_bitAt_13 : decode cX8_bitAt 13 = .ok (.iconst 1, 1) := by decide +kernel
theorem dX8_bitAt_14 : decode cX8_bitAt 14 = .ok (.iand, 1) := by decide +kernel
theorem dX8_bitAt_15 : decode cX8_bitAt 15 = .ok (.ifCond .ne 6, 3) := by decide +kernel
theorem dX8_bitAt_18 : decode cX8_bitAt 18 = .ok (.goto 12, 3) := by decide +kernel
theorem dX8_bitAt_21 : decode cX8_bitAt 21 = .ok (.iload_n 2, 1) := by decide +kernel
theorem dX8_bitAt_22 : decode cX8_bitAt 22 = .ok (.ifCond .ne 5, 3) := by decide +kernel
theorem dX8_bitAt_25 : decode cX8_bitAt 25 = .ok (.iload_n 3, 1) := by decide +kernel
theorem dX8_bitAt_26 : decode cX8_bitAt 26 = .ok (.ireturn, 1) := by decide +kernel
theorem dX8_bitAt_27 : decode cX8_bitAt 27 = .ok (.iinc 2 (-1), 3) := by decide +kernel
theorem dX8_bitAt_30 : decode cX8_bitAt 30 = .ok (.iinc 3 1, 3) := by decide +kernel
theorem dX8_bitAt_33 : decode cX8_bitAt 33 = .ok (.goto (-29), 3) := by decide +kernel
theorem dX8_bitAt_36 : decode cX8_bitAt 36 = .ok (.iconst (-1), 1) := by decide +kernel
theorem dX8_bitAt_37 : decode cX8_bitAt 37 = .ok (.ireturn, 1) := by decide +kernel
theorem dX8_commonDivisor_0 : decode cX8_commonDivisor 0 = .ok (.lload_n 0, 1) := by decide +kernel
theorem dX8_commonDivisor_1 : decode cX8_commonDivisor 1 = .ok (.invokestatic 367, 3) := by decide +kernel
theorem dX8_commonDivisor_4 : decode cX8_commonDivisor 4 = .ok (.lstore 4, 2) := by decide +kernel
theorem dX8_commonDivisor_6 : decode cX8_commonDivisor 6 = .ok (.lload_n 2, 1) := by decide +kernel
theorem dX8_commonDivisor_7 : decode cX8_commonDivisor 7 = .ok (.invokestatic 367, 3) := by decide +kernel
theorem dX8_commonDivisor_10 : decode cX8_commonDivisor 10 = .ok (.lstore 6, 2) := by decide +kernel
theorem dX8_commonDivisor_12 : decode cX8_commonDivisor 12 = .ok (.iconst 0, 1) := by decide +kernel
theorem dX8_commonDivisor_13 : decode cX8_commonDivisor 13 = .ok (.istore 8, 2) := by decide +kernel
theorem dX8_commonDivisor_15 : decode cX8_commonDivisor 15 = .ok (.iload 8, 2) := by decide +kernel
theorem dX8_commonDivisor_17 : decode cX8_commonDivisor 17 = .ok (.sipush 128, 3) := by decide +kernel
theorem dX8_commonDivisor_20 : decode cX8_commonDivisor 20 = .ok (.if_icmp .ge 31, 3) := by decide +kernel
theorem dX8_commonDivisor_23 : decode cX8_commonDivisor 23 = .ok (.lload 6, 2) := by decide +kernel
theorem dX8_commonDivisor_25 : decode cX8_commonDivisor 25 = .ok (.lconst 0, 1) := by decide +kernel
theorem dX8_commonDivisor_26 : decode cX8_commonDivisor 26 = .ok (.lcmp, 1) := by decide +kernel
theorem dX8_commonDivisor_27 : decode cX8_commonDivisor 27 = .ok (.ifCond .eq 24, 3) := by decide +kernel
theorem dX8_commonDivisor_30 : decode cX8_commonDivisor 30 = .ok (.lload 4, 2) := by decide +kernel
theorem dX8_commonDivisor_32 : decode cX8_commonDivisor 32 = .ok (.lload 6, 2) := by decide +kernel
theorem dX8_commonDivisor_34 : decode cX8_commonDivisor 34 = .ok (.lrem, 1) := by decide +kernel
theorem dX8_commonDivisor_35 : decode cX8_commonDivisor 35 = .ok (.lstore 9, 2) := by decide +kernel
theorem dX8_commonDivisor_37 : decode cX8_commonDivisor 37 = .ok (.lload 6, 2) := by decide +kernel
theorem dX8_commonDivisor_39 : decode cX8_commonDivisor 39 = .ok (.lstore 4, 2) := by decide +kernel
theorem dX8_commonDivisor_41 : decode cX8_commonDivisor 41 = .ok (.lload 9, 2) := by decide +kernel
theorem dX8_commonDivisor_43 : decode cX8_commonDivisor 43 = .ok (.lstore 6, 2) := by decide +kernel
theorem dX8_commonDivisor_45 : decode cX8_commonDivisor 45 = .ok (.iinc 8 1, 3) := by decide +kernel
theorem dX8_commonDivisor_48 : decode cX8_commonDivisor 48 = .ok (.goto (-33), 3) := by decide +kernel
theorem dX8_commonDivisor_51 : decode cX8_commonDivisor 51 = .ok (.lload 4, 2) := by decide +kernel
theorem dX8_commonDivisor_53 : decode cX8_commonDivisor 53 = .ok (.lreturn, 1) := by decide +kernel
theorem dX8_clearColumn_0 : decode cX8_clearColumn 0 = .ok (.aload_n 0, 1) := by decide +kernel
theorem dX8_clearColumn_1 : decode cX8_clearColumn 1 = .ok (.iload_n 2, 1) := by decide +kernel
theorem dX8_clearColumn_2 : decode cX8_clearColumn 2 = .ok (.iload 4, 2) := by decide +kernel
theorem dX8_clearColumn_4 : decode cX8_clearColumn 4 = .ok (.imul, 1) := by decide +kernel
theorem dX8_clearColumn_5 : decode cX8_clearColumn 5 = .ok (.iload_n 3, 1) := by decide +kernel
theorem dX8_clearColumn_6 : decode cX8_clearColumn 6 = .ok (.iadd, 1) := by decide +kernel
theorem dX8_clearColumn_7 : decode cX8_clearColumn 7 = .ok (.laload, 1) := by decide +kernel
theorem dX8_clearColumn_8 : decode cX8_clearColumn 8 = .ok (.lstore 5, 2) := by decide +kernel
theorem dX8_clearColumn_10 : decode cX8_clearColumn 10 = .ok (.aload_n 0, 1) := by decide +kernel
theorem dX8_clearColumn_11 : decode cX8_clearColumn 11 = .ok (.iload_n 1, 1) := by decide +kernel
theorem dX8_clearColumn_12 : decode cX8_clearColumn 12 = .ok (.iload 4, 2) := by decide +kernel
theorem dX8_clearColumn_14 : decode cX8_clearColumn 14 = .ok (.imul, 1) := by decide +kernel
theorem dX8_clearColumn_15 : decode cX8_clearColumn 15 = .ok (.iload_n 3, 1) := by decide +kernel
theorem dX8_clearColumn_16 : decode cX8_clearColumn 16 = .ok (.iadd, 1) := by decide +kernel
theorem dX8_clearColumn_17 : decode cX8_clearColumn 17 = .ok (.laload, 1) := by decide +kernel
theorem dX8_clearColumn_18 : decode cX8_clearColumn 18 = .ok (.lstore 7, 2) := by decide +kernel
theorem dX8_clearColumn_20 : decode cX8_clearColumn 20 = .ok (.lload 5, 2) := by decide +kernel
theorem dX8_clearColumn_22 : decode cX8_clearColumn 22 = .ok (.lconst 0, 1) := by decide +kernel
theorem dX8_clearColumn_23 : decode cX8_clearColumn 23 = .ok (.lcmp, 1) := by decide +kernel
theorem dX8_clearColumn_24 : decode cX8_clearColumn 24 = .ok (.ifCond .eq 10, 3) := by decide +kernel
theorem dX8_clearColumn_27 : decode cX8_clearColumn 27 = .ok (.lload 7, 2) := by decide +kernel
theorem dX8_clearColumn_29 : decode cX8_clearColumn 29 = .ok (.lconst 0, 1) := by decide +kernel
theorem dX8_clearColumn_30 : decode cX8_clearColumn 30 = .ok (.lcmp, 1) := by decide +kernel
theorem dX8_clearColumn_31 : decode cX8_clearColumn 31 = .ok (.ifCond .ne 4, 3) := by decide +kernel
theorem dX8_clearColumn_34 : decode cX8_clearColumn 34 = .ok (.return_, 1) := by decide +kernel
theorem dX8_clearColumn_35 : decode cX8_clearColumn 35 = .ok (.lconst 0, 1) := by decide +kernel
theorem dX8_clearColumn_36 : decode cX8_clearColumn 36 = .ok (.lstore 9, 2) := by decide +kernel
theorem dX8_clearColumn_38 : decode cX8_clearColumn 38 = .ok (.iconst 0, 1) := by decide +kernel
theorem dX8_clearColumn_39 : decode cX8_clearColumn 39 = .ok (.istore 11, 2) := by decide +kernel
theorem dX8_clearColumn_41 : decode cX8_clearColumn 41 = .ok (.iload 11, 2) := by decide +kernel
theorem dX8_clearColumn_43 : decode cX8_clearColumn 43 = .ok (.iload 4, 2) := by decide +kernel
theorem dX8_clearColumn_45 : decode cX8_clearColumn 45 = .ok (.if_icmp .ge 67, 3) := by decide +kernel
theorem dX8_clearColumn_48 : decode cX8_clearColumn 48 = .ok (.aload_n 0, 1) := by decide +kernel
theorem dX8_clearColumn_49 : decode cX8_clearColumn 49 = .ok (.iload_n 1, 1) := by decide +kernel
theorem dX8_clearColumn_50 : decode cX8_clearColumn 50 = .ok (.iload 4, 2) := by decide +kernel
theorem dX8_clearColumn_52 : decode cX8_clearColumn 52 = .ok (.imul, 1) := by decide +kernel
theorem dX8_clearColumn_53 : decode cX8_clearColumn 53 = .ok (.iload 11, 2) := by decide +kernel
theorem dX8_clearColumn_55 : decode cX8_clearColumn 55 = .ok (.iadd, 1) := by decide +kernel
theorem dX8_clearColumn_56 : decode cX8_clearColumn 56 = .ok (.laload, 1) := by decide +kernel
theorem dX8_clearColumn_57 : decode cX8_clearColumn 57 = .ok (.lload 5, 2) := by decide +kernel
theorem dX8_clearColumn_59 : decode cX8_clearColumn 59 = .ok (.lmul, 1) := by decide +kernel
theorem dX8_clearColumn_60 : decode cX8_clearColumn 60 = .ok (.aload_n 0, 1) := by decide +kernel
theorem dX8_clearColumn_61 : decode cX8_clearColumn 61 = .ok (.iload_n 2, 1) := by decide +kernel
theorem dX8_clearColumn_62 : decode cX8_clearColumn 62 = .ok (.iload 4, 2) := by decide +kernel
theorem dX8_clearColumn_64 : decode cX8_clearColumn 64 = .ok (.imul, 1) := by decide +kernel
theorem dX8_clearColumn_65 : decode cX8_clearColumn 65 = .ok (.iload 11, 2) := by decide +kernel
theorem dX8_clearColumn_67 : decode cX8_clearColumn 67 = .ok (.iadd, 1) := by decide +kernel
theorem dX8_clearColumn_68 : decode cX8_clearColumn 68 = .ok (.laload, 1) := by decide +kernel
theorem dX8_clearColumn_69 : decode cX8_clearColumn 69 = .ok (.lload 7, 2) := by decide +kernel
theorem dX8_clearColumn_71 : decode cX8_clearColumn 71 = .ok (.lmul, 1) := by decide +kernel
theorem dX8_clearColumn_72 : decode cX8_clearColumn 72 = .ok (.lsub, 1) := by decide +kernel
theorem dX8_clearColumn_73 : decode cX8_clearColumn 73 = .ok (.lstore 12, 2) := by decide +kernel
theorem dX8_clearColumn_75 : decode cX8_clearColumn 75 = .ok (.aload_n 0, 1) := by decide +kernel
theorem dX8_clearColumn_76 : decode cX8_clearColumn 76 = .ok (.iload_n 1, 1) := by decide +kernel
theorem dX8_clearColumn_77 : decode cX8_clearColumn 77 = .ok (.iload 4, 2) := by decide +kernel
theorem dX8_clearColumn_79 : decode cX8_clearColumn 79 = .ok (.imul, 1) := by decide +kernel
theorem dX8_clearColumn_80 : decode cX8_clearColumn 80 = .ok (.iload 11, 2) := by decide +kernel
theorem dX8_clearColumn_82 : decode cX8_clearColumn 82 = .ok (.iadd, 1) := by decide +kernel
theorem dX8_clearColumn_83 : decode cX8_clearColumn 83 = .ok (.lload 12, 2) := by decide +kernel
theorem dX8_clearColumn_85 : decode cX8_clearColumn 85 = .ok (.lastore, 1) := by decide +kernel
theorem dX8_clearColumn_86 : decode cX8_clearColumn 86 = .ok (.lload 9, 2) := by decide +kernel
theorem dX8_clearColumn_88 : decode cX8_clearColumn 88 = .ok (.lconst 1, 1) := by decide +kernel
theorem dX8_clearColumn_89 : decode cX8_clearColumn 89 = .ok (.lcmp, 1) := by decide +kernel
theorem dX8_clearColumn_90 : decode cX8_clearColumn 90 = .ok (.ifCond .ne 7, 3) := by decide +kernel
theorem dX8_clearColumn_93 : decode cX8_clearColumn 93 = .ok (.lconst 1, 1) := by decide +kernel
theorem dX8_clearColumn_94 : decode cX8_clearColumn 94 = .ok (.goto 10, 3) := by decide +kernel
theorem dX8_clearColumn_97 : decode cX8_clearColumn 97 = .ok (.lload 9, 2) := by decide +kernel
theorem dX8_clearColumn_99 : decode cX8_clearColumn 99 = .ok (.lload 12, 2) := by decide +kernel
theorem dX8_clearColumn_101 : decode cX8_clearColumn 101 = .ok (.invokestatic 373, 3) := by decide +kernel
theorem dX8_clearColumn_104 : decode cX8_clearColumn 104 = .ok (.lstore 9, 2) := by decide +kernel
theorem dX8_clearColumn_106 : decode cX8_clearColumn 106 = .ok (.iinc 11 1, 3) := by decide +kernel
theorem dX8_clearColumn_109 : decode cX8_clearColumn 109 = .ok (.goto (-68), 3) := by decide +kernel
theorem dX8_clearColumn_112 : decode cX8_clearColumn 112 = .ok (.lload 9, 2) := by decide +kernel
theorem dX8_clearColumn_114 : decode cX8_clearColumn 114 = .ok (.lconst 1, 1) := by decide +kernel
theorem dX8_clearColumn_115 : decode cX8_clearColumn 115 = .ok (.lcmp, 1) := by decide +kernel
theorem dX8_clearColumn_116 : decode cX8_clearColumn 116 = .ok (.ifCond .le 33, 3) := by decide +kernel
theorem dX8_clearColumn_119 : decode cX8_clearColumn 119 = .ok (.iconst 0, 1) := by decide +kernel
theorem dX8_clearColumn_120 : decode cX8_clearColumn 120 = .ok (.istore 11, 2) := by decide +kernel
theorem dX8_clearColumn_122 : decode cX8_clearColumn 122 = .ok (.iload 11, 2) := by decide +kernel
theorem dX8_clearColumn_124 : decode cX8_clearColumn 124 = .ok (.iload 4, 2) := by decide +kernel
theorem dX8_clearColumn_126 : decode cX8_clearColumn 126 = .ok (.if_icmp .ge 23, 3) := by decide +kernel
theorem dX8_clearColumn_129 : decode cX8_clearColumn 129 = .ok (.aload_n 0, 1) := by decide +kernel
theorem dX8_clearColumn_130 : decode cX8_clearColumn 130 = .ok (.iload_n 1, 1) := by decide +kernel
theorem dX8_clearColumn_131 : decode cX8_clearColumn 131 = .ok (.iload 4, 2) := by decide +kernel
theorem dX8_clearColumn_133 : decode cX8_clearColumn 133 = .ok (.imul, 1) := by decide +kernel
theorem dX8_clearColumn_134 : decode cX8_clearColumn 134 = .ok (.iload 11, 2) := by decide +kernel
theorem dX8_clearColumn_136 : decode cX8_clearColumn 136 = .ok (.iadd, 1) := by decide +kernel
theorem dX8_clearColumn_137 : decode cX8_clearColumn 137 = .ok (.dup2, 1) := by decide +kernel
theorem dX8_clearColumn_138 : decode cX8_clearColumn 138 = .ok (.laload, 1) := by decide +kernel
theorem dX8_clearColumn_139 : decode cX8_clearColumn 139 = .ok (.lload 9, 2) := by decide +kernel
theorem dX8_clearColumn_141 : decode cX8_clearColumn 141 = .ok (.ldiv, 1) := by decide +kernel
theorem dX8_clearColumn_142 : decode cX8_clearColumn 142 = .ok (.lastore, 1) := by decide +kernel
theorem dX8_clearColumn_143 : decode cX8_clearColumn 143 = .ok (.iinc 11 1, 3) := by decide +kernel
theorem dX8_clearColumn_146 : decode cX8_clearColumn 146 = .ok (.goto (-24), 3) := by decide +kernel
theorem dX8_clearColumn_149 : decode cX8_clearColumn 149 = .ok (.return_, 1) := by decide +kernel
theorem dJ6_bitCount_0f7a4_0 : decode cJ6_bitCount_0f7a4 0 = .ok (.iload_n 0, 1) := by decide +kernel
theorem dJ6_bitCount_0f7a4_1 : decode cJ6_bitCount_0f7a4 1 = .ok (.iload_n 0, 1) := by decide +kernel
theorem dJ6_bitCount_0f7a4_2 : decode cJ6_bitCount_0f7a4 2 = .ok (.iconst 1, 1) := by decide +kernel
theorem dJ6_bitCount_0f7a4_3 : decode cJ6_bitCount_0f7a4 3 = .ok (.iushr, 1) := by decide +kernel
theorem dJ6_bitCount_0f7a4_4 : decode cJ6_bitCount_0f7a4 4 = .ok (.ldc_w 265, 3) := by decide +kernel
theorem dJ6_bitCount_0f7a4_7 : decode cJ6_bitCount_0f7a4 7 = .ok (.iand, 1) := by decide +kernel
theorem dJ6_bitCount_0f7a4_8 : decode cJ6_bitCount_0f7a4 8 = .ok (.isub, 1) := by decide +kernel
theorem dJ6_bitCount_0f7a4_9 : decode cJ6_bitCount_0f7a4 9 = .ok (.istore_n 0, 1) := by decide +kernel
theorem dJ6_bitCount_0f7a4_10 : decode cJ6_bitCount_0f7a4 10 = .ok (.iload_n 0, 1) := by decide +kernel
theorem dJ6_bitCount_0f7a4_11 : decode cJ6_bitCount_0f7a4 11 = .ok (.ldc_w 266, 3) := by decide +kernel
theorem dJ6_bitCount_0f7a4_14 : decode cJ6_bitCount_0f7a4 14 = .ok (.iand, 1) := by decide +kernel
theorem dJ6_bitCount_0f7a4_15 : decode cJ6_bitCount_0f7a4 15 = .ok (.iload_n 0, 1) := by decide +kernel
theorem dJ6_bitCount_0f7a4_16 : decode cJ6_bitCount_0f7a4 16 = .ok (.iconst 2, 1) := by decide +kernel
theorem dJ6_bitCount_0f7a4_17 : decode cJ6_bitCount_0f7a4 17 = .ok (.iushr, 1) := by decide +kernel
theorem dJ6_bitCount_0f7a4_18 : decode cJ6_bitCount_0f7a4 18 = .ok (.ldc_w 266, 3) := by decide +kernel
theorem dJ6_bitCount_0f7a4_21 : decode cJ6_bitCount_0f7a4 21 = .ok (.iand, 1) := by decide +kernel
theorem dJ6_bitCount_0f7a4_22 : decode cJ6_bitCount_0f7a4 22 = .ok (.iadd, 1) := by decide +kernel
theorem dJ6_bitCount_0f7a4_23 : decode cJ6_bitCount_0f7a4 23 = .ok (.istore_n 0, 1) := by decide +kernel
theorem dJ6_bitCount_0f7a4_24 : decode cJ6_bitCount_0f7a4 24 = .ok (.iload_n 0, 1) := by decide +kernel
theorem dJ6_bitCount_0f7a4_25 : decode cJ6_bitCount_0f7a4 25 = .ok (.iload_n 0, 1) := by decide +kernel
theorem dJ6_bitCount_0f7a4_26 : decode cJ6_bitCount_0f7a4 26 = .ok (.iconst 4, 1) := by decide +kernel
theorem dJ6_bitCount_0f7a4_27 : decode cJ6_bitCount_0f7a4 27 = .ok (.iushr, 1) := by decide +kernel
theorem dJ6_bitCount_0f7a4_28 : decode cJ6_bitCount_0f7a4 28 = .ok (.iadd, 1) := by decide +kernel
theorem dJ6_bitCount_0f7a4_29 : decode cJ6_bitCount_0f7a4 29 = .ok (.ldc_w 267, 3) := by decide +kernel
theorem dJ6_bitCount_0f7a4_32 : decode cJ6_bitCount_0f7a4 32 = .ok (.iand, 1) := by decide +kernel
theorem dJ6_bitCount_0f7a4_33 : decode cJ6_bitCount_0f7a4 33 = .ok (.istore_n 0, 1) := by decide +kernel
theorem dJ6_bitCount_0f7a4_34 : decode cJ6_bitCount_0f7a4 34 = .ok (.iload_n 0, 1) := by decide +kernel
theorem dJ6_bitCount_0f7a4_35 : decode cJ6_bitCount_0f7a4 35 = .ok (.iload_n 0, 1) := by decide +kernel
theorem dJ6_bitCount_0f7a4_36 : decode cJ6_bitCount_0f7a4 36 = .ok (.bipush 8, 2) := by decide +kernel
theorem dJ6_bitCount_0f7a4_38 : decode cJ6_bitCount_0f7a4 38 = .ok (.iushr, 1) := by decide +kernel
theorem dJ6_bitCount_0f7a4_39 : decode cJ6_bitCount_0f7a4 39 = .ok (.iadd, 1) := by decide +kernel
theorem dJ6_bitCount_0f7a4_40 : decode cJ6_bitCount_0f7a4 40 = .ok (.istore_n 0, 1) := by decide +kernel
theorem dJ6_bitCount_0f7a4_41 : decode cJ6_bitCount_0f7a4 41 = .ok (.iload_n 0, 1) := by decide +kernel
theorem dJ6_bitCount_0f7a4_42 : decode cJ6_bitCount_0f7a4 42 = .ok (.iload_n 0, 1) := by decide +kernel
theorem dJ6_bitCount_0f7a4_43 : decode cJ6_bitCount_0f7a4 43 = .ok (.bipush 16, 2) := by decide +kernel
theorem dJ6_bitCount_0f7a4_45 : decode cJ6_bitCount_0f7a4 45 = .ok (.iushr, 1) := by decide +kernel
theorem dJ6_bitCount_0f7a4_46 : decode cJ6_bitCount_0f7a4 46 = .ok (.iadd, 1) := by decide +kernel
theorem dJ6_bitCount_0f7a4_47 : decode cJ6_bitCount_0f7a4 47 = .ok (.istore_n 0, 1) := by decide +kernel
theorem dJ6_bitCount_0f7a4_48 : decode cJ6_bitCount_0f7a4 48 = .ok (.iload_n 0, 1) := by decide +kernel
theorem dJ6_bitCount_0f7a4_49 : decode cJ6_bitCount_0f7a4 49 = .ok (.bipush 63, 2) := by decide +kernel
theorem dJ6_bitCount_0f7a4_51 : decode cJ6_bitCount_0f7a4 51 = .ok (.iand, 1) := by decide +kernel
theorem dJ6_bitCount_0f7a4_52 : decode cJ6_bitCount_0f7a4 52 = .ok (.ireturn, 1) := by decide +kernel
theorem dJ9_abs_067f4_0 : decode cJ9_abs_067f4 0 = .ok (.lload_n 0, 1) := by decide +kernel
theorem dJ9_abs_067f4_1 : decode cJ9_abs_067f4 1 = .ok (.lconst 0, 1) := by decide +kernel
theorem dJ9_abs_067f4_2 : decode cJ9_abs_067f4 2 = .ok (.lcmp, 1) := by decide +kernel
theorem dJ9_abs_067f4_3 : decode cJ9_abs_067f4 3 = .ok (.ifCond .ge 8, 3) := by decide +kernel
theorem dJ9_abs_067f4_6 : decode cJ9_abs_067f4 6 = .ok (.lload_n 0, 1) := by decide +kernel
theorem dJ9_abs_067f4_7 : decode cJ9_abs_067f4 7 = .ok (.lneg, 1) := by decide +kernel
theorem dJ9_abs_067f4_8 : decode cJ9_abs_067f4 8 = .ok (.goto 4, 3) := by decide +kernel
theorem dJ9_abs_067f4_11 : decode cJ9_abs_067f4 11 = .ok (.lload_n 0, 1) := by decide +kernel
theorem dJ9_abs_067f4_12 : decode cJ9_abs_067f4 12 = .ok (.lreturn, 1) := by decide +kernel
theorem dJ9_max_7cf53_0 : decode cJ9_max_7cf53 0 = .ok (.iload_n 0, 1) := by decide +kernel
theorem dJ9_max_7cf53_1 : decode cJ9_max_7cf53 1 = .ok (.iload_n 1, 1) := by decide +kernel
theorem dJ9_max_7cf53_2 : decode cJ9_max_7cf53 2 = .ok (.if_icmp .lt 7, 3) := by decide +kernel
theorem dJ9_max_7cf53_5 : decode cJ9_max_7cf53 5 = .ok (.iload_n 0, 1) := by decide +kernel
theorem dJ9_max_7cf53_6 : decode cJ9_max_7cf53 6 = .ok (.goto 4, 3) := by decide +kernel
theorem dJ9_max_7cf53_9 : decode cJ9_max_7cf53 9 = .ok (.iload_n 1, 1) := by decide +kernel
theorem dJ9_max_7cf53_10 : decode cJ9_max_7cf53 10 = .ok (.ireturn, 1) := by decide +kernel
theorem dJ9_max_f86c9_0 : decode cJ9_max_f86c9 0 = .ok (.lload_n 0, 1) := by decide +kernel
theorem dJ9_max_f86c9_1 : decode cJ9_max_f86c9 1 = .ok (.lload_n 2, 1) := by decide +kernel
theorem dJ9_max_f86c9_2 : decode cJ9_max_f86c9 2 = .ok (.lcmp, 1) := by decide +kernel
theorem dJ9_max_f86c9_3 : decode cJ9_max_f86c9 3 = .ok (.ifCond .lt 7, 3) := by decide +kernel
theorem dJ9_max_f86c9_6 : decode cJ9_max_f86c9 6 = .ok (.lload_n 0, 1) := by decide +kernel
theorem dJ9_max_f86c9_7 : decode cJ9_max_f86c9 7 = .ok (.goto 4, 3) := by decide +kernel
theorem dJ9_max_f86c9_10 : decode cJ9_max_f86c9 10 = .ok (.lload_n 2, 1) := by decide +kernel
theorem dJ9_max_f86c9_11 : decode cJ9_max_f86c9 11 = .ok (.lreturn, 1) := by decide +kernel
theorem dJ9_min_f86c9_0 : decode cJ9_min_f86c9 0 = .ok (.lload_n 0, 1) := by decide +kernel
theorem dJ9_min_f86c9_1 : decode cJ9_min_f86c9 1 = .ok (.lload_n 2, 1) := by decide +kernel
theorem dJ9_min_f86c9_2 : decode cJ9_min_f86c9 2 = .ok (.lcmp, 1) := by decide +kernel
theorem dJ9_min_f86c9_3 : decode cJ9_min_f86c9 3 = .ok (.ifCond .gt 7, 3) := by decide +kernel
theorem dJ9_min_f86c9_6 : decode cJ9_min_f86c9 6 = .ok (.lload_n 0, 1) := by decide +kernel
theorem dJ9_min_f86c9_7 : decode cJ9_min_f86c9 7 = .ok (.goto 4, 3) := by decide +kernel
theorem dJ9_min_f86c9_10 : decode cJ9_min_f86c9 10 = .ok (.lload_n 2, 1) := by decide +kernel
theorem dJ9_min_f86c9_11 : decode cJ9_min_f86c9 11 = .ok (.lreturn, 1) := by decide +kernel
theorem dJ7_fill_53178_0 : decode cJ7_fill_53178 0 = .ok (.iconst 0, 1) := by decide +kernel
theorem dJ7_fill_53178_1 : decode cJ7_fill_53178 1 = .ok (.istore_n 2, 1) := by decide +kernel
theorem dJ7_fill_53178_2 : decode cJ7_fill_53178 2 = .ok (.aload_n 0, 1) := by decide +kernel
theorem dJ7_fill_53178_3 : decode cJ7_fill_53178 3 = .ok (.arraylength, 1) := by decide +kernel
theorem dJ7_fill_53178_4 : decode cJ7_fill_53178 4 = .ok (.istore_n 3, 1) := by decide +kernel
theorem dJ7_fill_53178_5 : decode cJ7_fill_53178 5 = .ok (.iload_n 2, 1) := by decide +kernel
theorem dJ7_fill_53178_6 : decode cJ7_fill_53178 6 = .ok (.iload_n 3, 1) := by decide +kernel
theorem dJ7_fill_53178_7 : decode cJ7_fill_53178 7 = .ok (.if_icmp .ge 13, 3) := by decide +kernel
theorem dJ7_fill_53178_10 : decode cJ7_fill_53178 10 = .ok (.aload_n 0, 1) := by decide +kernel
theorem dJ7_fill_53178_11 : decode cJ7_fill_53178 11 = .ok (.iload_n 2, 1) := by decide +kernel
theorem dJ7_fill_53178_12 : decode cJ7_fill_53178 12 = .ok (.iload_n 1, 1) := by decide +kernel
theorem dJ7_fill_53178_13 : decode cJ7_fill_53178 13 = .ok (.iastore, 1) := by decide +kernel
theorem dJ7_fill_53178_14 : decode cJ7_fill_53178 14 = .ok (.iinc 2 1, 3) := by decide +kernel
theorem dJ7_fill_53178_17 : decode cJ7_fill_53178 17 = .ok (.goto (-12), 3) := by decide +kernel
theorem dJ7_fill_53178_20 : decode cJ7_fill_53178 20 = .ok (.return_, 1) := by decide +kernel
theorem dJ7_fill_031fb_0 : decode cJ7_fill_031fb 0 = .ok (.iconst 0, 1) := by decide +kernel
theorem dJ7_fill_031fb_1 : decode cJ7_fill_031fb 1 = .ok (.istore_n 2, 1) := by decide +kernel
theorem dJ7_fill_031fb_2 : decode cJ7_fill_031fb 2 = .ok (.aload_n 0, 1) := by decide +kernel
theorem dJ7_fill_031fb_3 : decode cJ7_fill_031fb 3 = .ok (.arraylength, 1) := by decide +kernel
theorem dJ7_fill_031fb_4 : decode cJ7_fill_031fb 4 = .ok (.istore_n 3, 1) := by decide +kernel
theorem dJ7_fill_031fb_5 : decode cJ7_fill_031fb 5 = .ok (.iload_n 2, 1) := by decide +kernel
theorem dJ7_fill_031fb_6 : decode cJ7_fill_031fb 6 = .ok (.iload_n 3, 1) := by decide +kernel
theorem dJ7_fill_031fb_7 : decode cJ7_fill_031fb 7 = .ok (.if_icmp .ge 13, 3) := by decide +kernel
theorem dJ7_fill_031fb_10 : decode cJ7_fill_031fb 10 = .ok (.aload_n 0, 1) := by decide +kernel
theorem dJ7_fill_031fb_11 : decode cJ7_fill_031fb 11 = .ok (.iload_n 2, 1) := by decide +kernel
theorem dJ7_fill_031fb_12 : decode cJ7_fill_031fb 12 = .ok (.iload_n 1, 1) := by decide +kernel
theorem dJ7_fill_031fb_13 : decode cJ7_fill_031fb 13 = .ok (.bastore, 1) := by decide +kernel
theorem dJ7_fill_031fb_14 : decode cJ7_fill_031fb 14 = .ok (.iinc 2 1, 3) := by decide +kernel
theorem dJ7_fill_031fb_17 : decode cJ7_fill_031fb 17 = .ok (.goto (-12), 3) := by decide +kernel
theorem dJ7_fill_031fb_20 : decode cJ7_fill_031fb 20 = .ok (.return_, 1) := by decide +kernel
