theorem d_Wt_takeOut_15 : decode c_Wt_takeOut 15 = .ok (.istore_n 2, 1) := by decide +kernel
theorem d_Wt_takeOut_16 : decode c_Wt_takeOut 16 = .ok (.aload_n 0, 1) := by decide +kernel
theorem d_Wt_takeOut_17 : decode c_Wt_takeOut 17 = .ok (.getfield 18, 3) := by decide +kernel
theorem d_Wt_takeOut_20 : decode c_Wt_takeOut 20 = .ok (.iload_n 1, 1) := by decide +kernel
theorem d_Wt_takeOut_21 : decode c_Wt_takeOut 21 = .ok (.iconst (-1), 1) := by decide +kernel
theorem d_Wt_takeOut_22 : decode c_Wt_takeOut 22 = .ok (.iastore, 1) := by decide +kernel
theorem d_Wt_takeOut_23 : decode c_Wt_takeOut 23 = .ok (.iconst 0, 1) := by decide +kernel
theorem d_Wt_takeOut_24 : decode c_Wt_takeOut 24 = .ok (.istore_n 3, 1) := by decide +kernel
theorem d_Wt_takeOut_25 : decode c_Wt_takeOut 25 = .ok (.iload_n 3, 1) := by decide +kernel
theorem d_Wt_takeOut_26 : decode c_Wt_takeOut 26 = .ok (.bipush 48, 2) := by decide +kernel
theorem d_Wt_takeOut_28 : decode c_Wt_takeOut 28 = .ok (.if_icmp .ge 44, 3) := by decide +kernel
theorem d_Wt_takeOut_31 : decode c_Wt_takeOut 31 = .ok (.aload_n 0, 1) := by decide +kernel
theorem d_Wt_takeOut_32 : decode c_Wt_takeOut 32 = .ok (.getfield 18, 3) := by decide +kernel
theorem d_Wt_takeOut_35 : decode c_Wt_takeOut 35 = .ok (.iload_n 3, 1) := by decide +kernel
theorem d_Wt_takeOut_36 : decode c_Wt_takeOut 36 = .ok (.iaload, 1) := by decide +kernel
theorem d_Wt_takeOut_37 : decode c_Wt_takeOut 37 = .ok (.iload_n 2, 1) := by decide +kernel
theorem d_Wt_takeOut_38 : decode c_Wt_takeOut 38 = .ok (.if_icmp .ne 28, 3) := by decide +kernel
theorem d_Wt_takeOut_41 : decode c_Wt_takeOut 41 = .ok (.aload_n 0, 1) := by decide +kernel
theorem d_Wt_takeOut_42 : decode c_Wt_takeOut 42 = .ok (.getfield 21, 3) := by decide +kernel
theorem d_Wt_takeOut_45 : decode c_Wt_takeOut 45 = .ok (.iload_n 3, 1) := by decide +kernel
theorem d_Wt_takeOut_46 : decode c_Wt_takeOut 46 = .ok (.iaload, 1) := by decide +kernel
theorem d_Wt_takeOut_47 : decode c_Wt_takeOut 47 = .ok (.aload_n 0, 1) := by decide +kernel
theorem d_Wt_takeOut_48 : decode c_Wt_takeOut 48 = .ok (.getfield 21, 3) := by decide +kernel
theorem d_Wt_takeOut_51 : decode c_Wt_takeOut 51 = .ok (.iload_n 1, 1) := by decide +kernel
theorem d_Wt_takeOut_52 : decode c_Wt_takeOut 52 = .ok (.iaload, 1) := by decide +kernel
theorem d_Wt_takeOut_53 : decode c_Wt_takeOut 53 = .ok (.if_icmp .le 13, 3) := by decide +kernel
theorem d_Wt_takeOut_56 : decode c_Wt_takeOut 56 = .ok (.aload_n 0, 1) := by decide +kernel
theorem d_Wt_takeOut_57 : decode c_Wt_takeOut 57 = .ok (.getfield 21, 3) := by decide +kernel
theorem d_Wt_takeOut_60 : decode c_Wt_takeOut 60 = .ok (.iload_n 3, 1) := by decide +kernel
theorem d_Wt_takeOut_61 : decode c_Wt_takeOut 61 = .ok (.dup2, 1) := by decide +kernel
theorem d_Wt_takeOut_62 : decode c_Wt_takeOut 62 = .ok (.iaload, 1) := by decide +kernel
theorem d_Wt_takeOut_63 : decode c_Wt_takeOut 63 = .ok (.iconst 1, 1) := by decide +kernel
theorem d_Wt_takeOut_64 : decode c_Wt_takeOut 64 = .ok (.isub, 1) := by decide +kernel
theorem d_Wt_takeOut_65 : decode c_Wt_takeOut 65 = .ok (.iastore, 1) := by decide +kernel
theorem d_Wt_takeOut_66 : decode c_Wt_takeOut 66 = .ok (.iinc 3 1, 3) := by decide +kernel
theorem d_Wt_takeOut_69 : decode c_Wt_takeOut 69 = .ok (.goto (-44), 3) := by decide +kernel
theorem d_Wt_takeOut_72 : decode c_Wt_takeOut 72 = .ok (.return_, 1) := by decide +kernel
theorem d_Wt_putIn_0 : decode c_Wt_putIn 0 = .ok (.iconst 0, 1) := by decide +kernel
theorem d_Wt_putIn_1 : decode c_Wt_putIn 1 = .ok (.istore 4, 2) := by decide +kernel
theorem d_Wt_putIn_3 : decode c_Wt_putIn 3 = .ok (.iload 4, 2) := by decide +kernel
theorem d_Wt_putIn_5 : decode c_Wt_putIn 5 = .ok (.bipush 48, 2) := by decide +kernel
theorem d_Wt_putIn_7 : decode c_Wt_putIn 7 = .ok (.if_icmp .ge 42, 3) := by decide +kernel
theorem d_Wt_putIn_10 : decode c_Wt_putIn 10 = .ok (.aload_n 0, 1) := by decide +kernel
theorem d_Wt_putIn_11 : decode c_Wt_putIn 11 = .ok (.getfield 18, 3) := by decide +kernel
theorem d_Wt_putIn_14 : decode c_Wt_putIn 14 = .ok (.iload 4, 2) := by decide +kernel
theorem d_Wt_putIn_16 : decode c_Wt_putIn 16 = .ok (.iaload, 1) := by decide +kernel
theorem d_Wt_putIn_17 : decode c_Wt_putIn 17 = .ok (.iload_n 2, 1) := by decide +kernel
theorem d_Wt_putIn_18 : decode c_Wt_putIn 18 = .ok (.if_icmp .ne 25, 3) := by decide +kernel
theorem d_Wt_putIn_21 : decode c_Wt_putIn 21 = .ok (.aload_n 0, 1) := by decide +kernel
theorem d_Wt_putIn_22 : decode c_Wt_putIn 22 = .ok (.getfield 21, 3) := by decide +kernel
theorem d_Wt_putIn_25 : decode c_Wt_putIn 25 = .ok (.iload 4, 2) := by decide +kernel
theorem d_Wt_putIn_27 : decode c_Wt_putIn 27 = .ok (.iaload, 1) := by decide +kernel
theorem d_Wt_putIn_28 : decode c_Wt_putIn 28 = .ok (.iload_n 3, 1) := by decide +kernel
theorem d_Wt_putIn_29 : decode c_Wt_putIn 29 = .ok (.if_icmp .lt 14, 3) := by decide +kernel
theorem d_Wt_putIn_32 : decode c_Wt_putIn 32 = .ok (.aload_n 0, 1) := by decide +kernel
theorem d_Wt_putIn_33 : decode c_Wt_putIn 33 = .ok (.getfield 21, 3) := by decide +kernel
theorem d_Wt_putIn_36 : decode c_Wt_putIn 36 = .ok (.iload 4, 2) := by decide +kernel
theorem d_Wt_putIn_38 : decode c_Wt_putIn 38 = .ok (.dup2, 1) := by decide +kernel
theorem d_Wt_putIn_39 : decode c_Wt_putIn 39 = .ok (.iaload, 1) := by decide +kernel
theorem d_Wt_putIn_40 : decode c_Wt_putIn 40 = .ok (.iconst 1, 1) := by decide +kernel
theorem d_Wt_putIn_41 : decode c_Wt_putIn 41 = .ok (.iadd, 1) := by decide +kernel
theorem d_Wt_putIn_42 : decode c_Wt_putIn 42 = .ok (.iastore, 1) := by decide +kernel
theorem d_Wt_putIn_43 : decode c_Wt_putIn 43 = .ok (.iinc 4 1, 3) := by decide +kernel
theorem d_Wt_putIn_46 : decode c_Wt_putIn 46 = .ok (.goto (-43), 3) := by decide +kernel
theorem d_Wt_putIn_49 : decode c_Wt_putIn 49 = .ok (.aload_n 0, 1) := by decide +kernel
theorem d_Wt_putIn_50 : decode c_Wt_putIn 50 = .ok (.getfield 18, 3) := by decide +kernel
theorem d_Wt_putIn_53 : decode c_Wt_putIn 53 = .ok (.iload_n 1, 1) := by decide +kernel
theorem d_Wt_putIn_54 : decode c_Wt_putIn 54 = .ok (.iload_n 2, 1) := by decide +kernel
theorem d_Wt_putIn_55 : decode c_Wt_putIn 55 = .ok (.iastore, 1) := by decide +kernel
theorem d_Wt_putIn_56 : decode c_Wt_putIn 56 = .ok (.aload_n 0, 1) := by decide +kernel
theorem d_Wt_putIn_57 : decode c_Wt_putIn 57 = .ok (.getfield 21, 3) := by decide +kernel
theorem d_Wt_putIn_60 : decode c_Wt_putIn 60 = .ok (.iload_n 1, 1) := by decide +kernel
theorem d_Wt_putIn_61 : decode c_Wt_putIn 61 = .ok (.iload_n 3, 1) := by decide +kernel
theorem d_Wt_putIn_62 : decode c_Wt_putIn 62 = .ok (.iastore, 1) := by decide +kernel
theorem d_Wt_putIn_63 : decode c_Wt_putIn 63 = .ok (.return_, 1) := by decide +kernel
theorem d_Wt_carryOut_0 : decode c_Wt_carryOut 0 = .ok (.aload_n 1, 1) := by decide +kernel
theorem d_Wt_carryOut_1 : decode c_Wt_carryOut 1 = .ok (.getfield 38, 3) := by decide +kernel
theorem d_Wt_carryOut_4 : decode c_Wt_carryOut 4 = .ok (.tableswitch 116 0 2 #[28, 44, 89], 28) := by decide +kernel
theorem d_Wt_carryOut_32 : decode c_Wt_carryOut 32 = .ok (.aload_n 0, 1) := by decide +kernel
theorem d_Wt_carryOut_33 : decode c_Wt_carryOut 33 = .ok (.getfield 15, 3) := by decide +kernel
theorem d_Wt_carryOut_36 : decode c_Wt_carryOut 36 = .ok (.aload_n 1, 1) := by decide +kernel
theorem d_Wt_carryOut_37 : decode c_Wt_carryOut 37 = .ok (.getfield 43, 3) := by decide +kernel
theorem d_Wt_carryOut_40 : decode c_Wt_carryOut 40 = .ok (.aload_n 1, 1) := by decide +kernel
theorem d_Wt_carryOut_41 : decode c_Wt_carryOut 41 = .ok (.getfield 46, 3) := by decide +kernel
theorem d_Wt_carryOut_44 : decode c_Wt_carryOut 44 = .ok (.iastore, 1) := by decide +kernel
theorem d_Wt_carryOut_45 : decode c_Wt_carryOut 45 = .ok (.goto 83, 3) := by decide +kernel
theorem d_Wt_carryOut_48 : decode c_Wt_carryOut 48 = .ok (.aload_n 0, 1) := by decide +kernel
theorem d_Wt_carryOut_49 : decode c_Wt_carryOut 49 = .ok (.getfield 9, 3) := by decide +kernel
theorem d_Wt_carryOut_52 : decode c_Wt_carryOut 52 = .ok (.aload_n 1, 1) := by decide +kernel
theorem d_Wt_carryOut_53 : decode c_Wt_carryOut 53 = .ok (.getfield 43, 3) := by decide +kernel
theorem d_Wt_carryOut_56 : decode c_Wt_carryOut 56 = .ok (.aload_n 1, 1) := by decide +kernel
theorem d_Wt_carryOut_57 : decode c_Wt_carryOut 57 = .ok (.getfield 48, 3) := by decide +kernel
theorem d_Wt_carryOut_60 : decode c_Wt_carryOut 60 = .ok (.iastore, 1) := by decide +kernel
theorem d_Wt_carryOut_61 : decode c_Wt_carryOut 61 = .ok (.aload_n 0, 1) := by decide +kernel
theorem d_Wt_carryOut_62 : decode c_Wt_carryOut 62 = .ok (.getfield 15, 3) := by decide +kernel
theorem d_Wt_carryOut_65 : decode c_Wt_carryOut 65 = .ok (.aload_n 1, 1) := by decide +kernel
theorem d_Wt_carryOut_66 : decode c_Wt_carryOut 66 = .ok (.getfield 43, 3) := by decide +kernel
theorem d_Wt_carryOut_69 : decode c_Wt_carryOut 69 = .ok (.aload_n 1, 1) := by decide +kernel
theorem d_Wt_carryOut_70 : decode c_Wt_carryOut 70 = .ok (.getfield 46, 3) := by decide +kernel
theorem d_Wt_carryOut_73 : decode c_Wt_carryOut 73 = .ok (.iastore, 1) := by decide +kernel
theorem d_Wt_carryOut_74 : decode c_Wt_carryOut 74 = .ok (.aload_n 0, 1) := by decide +kernel
theorem d_Wt_carryOut_75 : decode c_Wt_carryOut 75 = .ok (.aload_n 1, 1) := by decide +kernel
theorem d_Wt_carryOut_76 : decode c_Wt_carryOut 76 = .ok (.getfield 43, 3) := by decide +kernel
theorem d_Wt_carryOut_79 : decode c_Wt_carryOut 79 = .ok (.aload_n 1, 1) := by decide +kernel
theorem d_Wt_carryOut_80 : decode c_Wt_carryOut 80 = .ok (.getfield 50, 3) := by decide +kernel
theorem d_Wt_carryOut_83 : decode c_Wt_carryOut 83 = .ok (.aload_n 1, 1) := by decide +kernel
theorem d_Wt_carryOut_84 : decode c_Wt_carryOut 84 = .ok (.getfield 53, 3) := by decide +kernel
theorem d_Wt_carryOut_87 : decode c_Wt_carryOut 87 = .ok (.invokevirtual 55, 3) := by decide +kernel
theorem d_Wt_carryOut_90 : decode c_Wt_carryOut 90 = .ok (.goto 38, 3) := by decide +kernel
theorem d_Wt_carryOut_93 : decode c_Wt_carryOut 93 = .ok (.aload_n 0, 1) := by decide +kernel
theorem d_Wt_carryOut_94 : decode c_Wt_carryOut 94 = .ok (.aload_n 1, 1) := by decide +kernel
theorem d_Wt_carryOut_95 : decode c_Wt_carryOut 95 = .ok (.getfield 43, 3) := by decide +kernel
theorem d_Wt_carryOut_98 : decode c_Wt_carryOut 98 = .ok (.invokevirtual 59, 3) := by decide +kernel
theorem d_Wt_carryOut_101 : decode c_Wt_carryOut 101 = .ok (.aload_n 0, 1) := by decide +kernel
theorem d_Wt_carryOut_102 : decode c_Wt_carryOut 102 = .ok (.aload_n 1, 1) := by decide +kernel
theorem d_Wt_carryOut_103 : decode c_Wt_carryOut 103 = .ok (.getfield 43, 3) := by decide +kernel
theorem d_Wt_carryOut_106 : decode c_Wt_carryOut 106 = .ok (.aload_n 1, 1) := by decide +kernel
theorem d_Wt_carryOut_107 : decode c_Wt_carryOut 107 = .ok (.getfield 50, 3) := by decide +kernel
theorem d_Wt_carryOut_110 : decode c_Wt_carryOut 110 = .ok (.aload_n 1, 1) := by decide +kernel
theorem d_Wt_carryOut_111 : decode c_Wt_carryOut 111 = .ok (.getfield 53, 3) := by decide +kernel
theorem d_Wt_carryOut_114 : decode c_Wt_carryOut 114 = .ok (.invokevirtual 55, 3) := by decide +kernel
theorem d_Wt_carryOut_117 : decode c_Wt_carryOut 117 = .ok (.goto 11, 3) := by decide +kernel
theorem d_Wt_carryOut_120 : decode c_Wt_carryOut 120 = .ok (.aload_n 0, 1) := by decide +kernel
theorem d_Wt_carryOut_121 : decode c_Wt_carryOut 121 = .ok (.aload_n 1, 1) := by decide +kernel
theorem d_Wt_carryOut_122 : decode c_Wt_carryOut 122 = .ok (.getfield 43, 3) := by decide +kernel
theorem d_Wt_carryOut_125 : decode c_Wt_carryOut 125 = .ok (.invokevirtual 59, 3) := by decide +kernel
theorem d_Wt_carryOut_128 : decode c_Wt_carryOut 128 = .ok (.return_, 1) := by decide +kernel
theorem d_Wt_takeBack_0 : decode c_Wt_takeBack 0 = .ok (.aload_n 1, 1) := by decide +kernel
theorem d_Wt_takeBack_1 : decode c_Wt_takeBack 1 = .ok (.getfield 38, 3) := by decide +kernel
theorem d_Wt_takeBack_4 : decode c_Wt_takeBack 4 = .ok (.tableswitch 82 0 2 #[28, 44, 55], 28) := by decide +kernel
theorem d_Wt_takeBack_32 : decode c_Wt_takeBack 32 = .ok (.aload_n 0, 1) := by decide +kernel
theorem d_Wt_takeBack_33 : decode c_Wt_takeBack 33 = .ok (.getfield 15, 3) := by decide +kernel
theorem d_Wt_takeBack_36 : decode c_Wt_takeBack 36 = .ok (.aload_n 1, 1) := by decide +kernel
theorem d_Wt_takeBack_37 : decode c_Wt_takeBack 37 = .ok (.getfield 43, 3) := by decide +kernel
theorem d_Wt_takeBack_40 : decode c_Wt_takeBack 40 = .ok (.aload_n 1, 1) := by decide +kernel
theorem d_Wt_takeBack_41 : decode c_Wt_takeBack 41 = .ok (.getfield 63, 3) := by decide +kernel
theorem d_Wt_takeBack_44 : decode c_Wt_takeBack 44 = .ok (.iastore, 1) := by decide +kernel
theorem d_Wt_takeBack_45 : decode c_Wt_takeBack 45 = .ok (.goto 57, 3) := by decide +kernel
theorem d_Wt_takeBack_48 : decode c_Wt_takeBack 48 = .ok (.aload_n 0, 1) := by decide +kernel
theorem d_Wt_takeBack_49 : decode c_Wt_takeBack 49 = .ok (.aload_n 1, 1) := by decide +kernel
theorem d_Wt_takeBack_50 : decode c_Wt_takeBack 50 = .ok (.getfield 43, 3) := by decide +kernel
theorem d_Wt_takeBack_53 : decode c_Wt_takeBack 53 = .ok (.invokevirtual 59, 3) := by decide +kernel
theorem d_Wt_takeBack_56 : decode c_Wt_takeBack 56 = .ok (.goto 46, 3) := by decide +kernel
theorem d_Wt_takeBack_59 : decode c_Wt_takeBack 59 = .ok (.aload_n 0, 1) := by decide +kernel
theorem d_Wt_takeBack_60 : decode c_Wt_takeBack 60 = .ok (.aload_n 1, 1) := by decide +kernel
theorem d_Wt_takeBack_61 : decode c_Wt_takeBack 61 = .ok (.getfield 43, 3) := by decide +kernel
theorem d_Wt_takeBack_64 : decode c_Wt_takeBack 64 = .ok (.invokevirtual 59, 3) := by decide +kernel
theorem d_Wt_takeBack_67 : decode c_Wt_takeBack 67 = .ok (.aload_n 0, 1) := by decide +kernel
theorem d_Wt_takeBack_68 : decode c_Wt_takeBack 68 = .ok (.aload_n 1, 1) := by decide +kernel
theorem d_Wt_takeBack_69 : decode c_Wt_takeBack 69 = .ok (.getfield 43, 3) := by decide +kernel
theorem d_Wt_takeBack_72 : decode c_Wt_takeBack 72 = .ok (.aload_n 1, 1) := by decide +kernel
theorem d_Wt_takeBack_73 : decode c_Wt_takeBack 73 = .ok (.getfield 66, 3) := by decide +kernel
theorem d_Wt_takeBack_76 : decode c_Wt_takeBack 76 = .ok (.aload_n 1, 1) := by decide +kernel
theorem d_Wt_takeBack_77 : decode c_Wt_takeBack 77 = .ok (.getfield 69, 3) := by decide +kernel
theorem d_Wt_takeBack_80 : decode c_Wt_takeBack 80 = .ok (.invokevirtual 55, 3) := by decide +kernel
theorem d_Wt_takeBack_83 : decode c_Wt_takeBack 83 = .ok (.goto 19, 3) := by decide +kernel
theorem d_Wt_takeBack_86 : decode c_Wt_takeBack 86 = .ok (.aload_n 0, 1) := by decide +kernel
theorem d_Wt_takeBack_87 : decode c_Wt_takeBack 87 = .ok (.aload_n 1, 1) := by decide +kernel
theorem d_Wt_takeBack_88 : decode c_Wt_takeBack 88 = .ok (.getfield 43, 3) := by decide +kernel
theorem d_Wt_takeBack_91 : decode c_Wt_takeBack 91 = .ok (.aload_n 1, 1) := by decide +kernel
theorem d_Wt_takeBack_92 : decode c_Wt_takeBack 92 = .ok (.getfield 66, 3) := by decide +kernel
theorem d_Wt_takeBack_95 : decode c_Wt_takeBack 95 = .ok (.aload_n 1, 1) := by decide +kernel
theorem d_Wt_takeBack_96 : decode c_Wt_takeBack 96 = .ok (.getfield 69, 3) := by decide +kernel
theorem d_Wt_takeBack_99 : decode c_Wt_takeBack 99 = .ok (.invokevirtual 55, 3) := by decide +kernel
theorem d_Wt_takeBack_102 : decode c_Wt_takeBack 102 = .ok (.return_, 1) := by decide +kernel
theorem d_TD_init_0 : decode c_TD_init 0 = .ok (.aload_n 0, 1) := by decide +kernel
theorem d_TD_init_1 : decode c_TD_init 1 = .ok (.invokespecial 3, 3) := by decide +kernel
theorem d_TD_init_4 : decode c_TD_init 4 = .ok (.aload_n 0, 1) := by decide +kernel
theorem d_TD_init_5 : decode c_TD_init 5 = .ok (.new 9, 3) := by decide +kernel
theorem d_TD_init_8 : decode c_TD_init 8 = .ok (.dup, 1) := by decide +kernel
theorem d_TD_init_9 : decode c_TD_init 9 = .ok (.invokespecial 11, 3) := by decide +kernel
theorem d_TD_init_12 : decode c_TD_init 12 = .ok (.putfield 12, 3) := by decide +kernel
theorem d_TD_init_15 : decode c_TD_init 15 = .ok (.aload_n 0, 1) := by decide +kernel
theorem d_TD_init_16 : decode c_TD_init 16 = .ok (.new 16, 3) := by decide +kernel
theorem d_TD_init_19 : decode c_TD_init 19 = .ok (.dup, 1) := by decide +kernel
theorem d_TD_init_20 : decode c_TD_init 20 = .ok (.invokespecial 18, 3) := by decide +kernel
theorem d_TD_init_23 : decode c_TD_init 23 = .ok (.putfield 19, 3) := by decide +kernel
theorem d_TD_init_26 : decode c_TD_init 26 = .ok (.aload_n 0, 1) := by decide +kernel
theorem d_TD_init_27 : decode c_TD_init 27 = .ok (.iconst 2, 1) := by decide +kernel
theorem d_TD_init_28 : decode c_TD_init 28 = .ok (.anewarray 16, 3) := by decide +kernel
theorem d_TD_init_31 : decode c_TD_init 31 = .ok (.putfield 23, 3) := by decide +kernel
theorem d_TD_init_34 : decode c_TD_init 34 = .ok (.iconst 0, 1) := by decide +kernel
theorem d_TD_init_35 : decode c_TD_init 35 = .ok (.istore_n 1, 1) := by decide +kernel
theorem d_TD_init_36 : decode c_TD_init 36 = .ok (.iload_n 1, 1) := by decide +kernel
theorem d_TD_init_37 : decode c_TD_init 37 = .ok (.iconst 2, 1) := by decide +kernel
theorem d_TD_init_38 : decode c_TD_init 38 = .ok (.if_icmp .ge 22, 3) := by decide +kernel
theorem d_TD_init_41 : decode c_TD_init 41 = .ok (.aload_n 0, 1) := by decide +kernel
theorem d_TD_init_42 : decode c_TD_init 42 = .ok (.getfield 23, 3) := by decide +kernel
theorem d_TD_init_45 : decode c_TD_init 45 = .ok (.iload_n 1, 1) := by decide +kernel
theorem d_TD_init_46 : decode c_TD_init 46 = .ok (.new 16, 3) := by decide +kernel
theorem d_TD_init_49 : decode c_TD_init 49 = .ok (.dup, 1) := by decide +kernel
theorem d_TD_init_50 : decode c_TD_init 50 = .ok (.invokespecial 18, 3) := by decide +kernel
theorem d_TD_init_53 : decode c_TD_init 53 = .ok (.aastore, 1) := by decide +kernel
theorem d_TD_init_54 : decode c_TD_init 54 = .ok (.iinc 1 1, 3) := by decide +kernel
theorem d_TD_init_57 : decode c_TD_init 57 = .ok (.goto (-21), 3) := by decide +kernel
theorem d_TD_init_60 : decode c_TD_init 60 = .ok (.aload_n 0, 1) := by decide +kernel
theorem d_TD_init_61 : decode c_TD_init 61 = .ok (.iconst 2, 1) := by decide +kernel
theorem d_TD_init_62 : decode c_TD_init 62 = .ok (.newarray .boolean, 2) := by decide +kernel
theorem d_TD_init_64 : decode c_TD_init 64 = .ok (.putfield 27, 3) := by decide +kernel
theorem d_TD_init_67 : decode c_TD_init 67 = .ok (.aload_n 0, 1) := by decide +kernel
theorem d_TD_init_68 : decode c_TD_init 68 = .ok (.new 31, 3) := by decide +kernel
theorem d_TD_init_71 : decode c_TD_init 71 = .ok (.dup, 1) := by decide +kernel
theorem d_TD_init_72 : decode c_TD_init 72 = .ok (.invokespecial 33, 3) := by decide +kernel
theorem d_TD_init_75 : decode c_TD_init 75 = .ok (.putfield 34, 3) := by decide +kernel
theorem d_TD_init_78 : decode c_TD_init 78 = .ok (.aload_n 0, 1) := by decide +kernel
theorem d_TD_init_79 : decode c_TD_init 79 = .ok (.new 38, 3) := by decide +kernel
theorem d_TD_init_82 : decode c_TD_init 82 = .ok (.dup, 1) := by decide +kernel
theorem d_TD_init_83 : decode c_TD_init 83 = .ok (.invokespecial 40, 3) := by decide +kernel
theorem d_TD_init_86 : decode c_TD_init 86 = .ok (.putfield 41, 3) := by decide +kernel
theorem d_TD_init_89 : decode c_TD_init 89 = .ok (.aload_n 0, 1) := by decide +kernel
theorem d_TD_init_90 : decode c_TD_init 90 = .ok (.new 45, 3) := by decide +kernel
theorem d_TD_init_93 : decode c_TD_init 93 = .ok (.dup, 1) := by decide +kernel
theorem d_TD_init_94 : decode c_TD_init 94 = .ok (.invokespecial 47, 3) := by decide +kernel
theorem d_TD_init_97 : decode c_TD_init 97 = .ok (.putfield 48, 3) := by decide +kernel
theorem d_TD_init_100 : decode c_TD_init 100 = .ok (.aload_n 0, 1) := by decide +kernel
theorem d_TD_init_101 : decode c_TD_init 101 = .ok (.new 52, 3) := by decide +kernel
theorem d_TD_init_104 : decode c_TD_init 104 = .ok (.dup, 1) := by decide +kernel
theorem d_TD_init_105 : decode c_TD_init 105 = .ok (.invokespecial 54, 3) := by decide +kernel
theorem d_TD_init_108 : decode c_TD_init 108 = .ok (.putfield 55, 3) := by decide +kernel
theorem d_TD_init_111 : decode c_TD_init 111 = .ok (.aload_n 0, 1) := by decide +kernel
theorem d_TD_init_112 : decode c_TD_init 112 = .ok (.new 52, 3) := by decide +kernel
theorem d_TD_init_115 : decode c_TD_init 115 = .ok (.dup, 1) := by decide +kernel
theorem d_TD_init_116 : decode c_TD_init 116 = .ok (.invokespecial 54, 3) := by decide +kernel
theorem d_TD_init_119 : decode c_TD_init 119 = .ok (.putfield 59, 3) := by decide +kernel
theorem d_TD_init_122 : decode c_TD_init 122 = .ok (.aload_n 0, 1) := by decide +kernel
theorem d_TD_init_123 : decode c_TD_init 123 = .ok (.new 62, 3) := by decide +kernel
theorem d_TD_init_126 : decode c_TD_init 126 = .ok (.dup, 1) := by decide +kernel
theorem d_TD_init_127 : decode c_TD_init 127 = .ok (.invokespecial 64, 3) := by decide +kernel
theorem d_TD_init_130 : decode c_TD_init 130 = .ok (.putfield 65, 3) := by decide +kernel
theorem d_TD_init_133 : decode c_TD_init 133 = .ok (.aload_n 0, 1) := by decide +kernel
theorem d_TD_init_134 : decode c_TD_init 134 = .ok (.new 62, 3) := by decide +kernel
theorem d_TD_init_137 : decode c_TD_init 137 = .ok (.dup, 1) := by decide +kernel
theorem d_TD_init_138 : decode c_TD_init 138 = .ok (.invokespecial 64, 3) := by decide +kernel
theorem d_TD_init_141 : decode c_TD_init 141 = .ok (.putfield 69, 3) := by decide +kernel
theorem d_TD_init_144 : decode c_TD_init 144 = .ok (.aload_n 0, 1) := by decide +kernel
theorem d_TD_init_145 : decode c_TD_init 145 = .ok (.iconst 0, 1) := by decide +kernel
theorem d_TD_init_146 : decode c_TD_init 146 = .ok (.putfield 72, 3) := by decide +kernel
theorem d_TD_init_149 : decode c_TD_init 149 = .ok (.aload_n 0, 1) := by decide +kernel
theorem d_TD_init_150 : decode c_TD_init 150 = .ok (.iconst (-1), 1) := by decide +kernel
theorem d_TD_init_151 : decode c_TD_init 151 = .ok (.putfield 76, 3) := by decide +kernel
theorem d_TD_init_154 : decode c_TD_init 154 = .ok (.aload_n 0, 1) := by decide +kernel
theorem d_TD_init_155 : decode c_TD_init 155 = .ok (.iconst 0, 1) := by decide +kernel
theorem d_TD_init_156 : decode c_TD_init 156 = .ok (.putfield 80, 3) := by decide +kernel
theorem d_TD_init_159 : decode c_TD_init 159 = .ok (.aload_n 0, 1) := by decide +kernel
theorem d_TD_init_160 : decode c_TD_init 160 = .ok (.getfield 55, 3) := by decide +kernel
theorem d_TD_init_163 : decode c_TD_init 163 = .ok (.aload_n 0, 1) := by decide +kernel
theorem d_TD_init_164 : decode c_TD_init 164 = .ok (.getfield 19, 3) := by decide +kernel
theorem d_TD_init_167 : decode c_TD_init 167 = .ok (.getfield 83, 3) := by decide +kernel
theorem d_TD_init_170 : decode c_TD_init 170 = .ok (.invokevirtual 87, 3) := by decide +kernel
theorem d_TD_init_173 : decode c_TD_init 173 = .ok (.return_, 1) := by decide +kernel
theorem d_TD_append_0 : decode c_TD_append 0 = .ok (.iload_n 1, 1) := by decide +kernel
theorem d_TD_append_1 : decode c_TD_append 1 = .ok (.ifCond .lt 9, 3) := by decide +kernel
theorem d_TD_append_4 : decode c_TD_append 4 = .ok (.iload_n 1, 1) := by decide +kernel
theorem d_TD_append_5 : decode c_TD_append 5 = .ok (.bipush 127, 2) := by decide +kernel
theorem d_TD_append_7 : decode c_TD_append 7 = .ok (.if_icmp .le 6, 3) := by decide +kernel
theorem d_TD_append_10 : decode c_TD_append 10 = .ok (.bipush (-12), 2) := by decide +kernel
theorem d_TD_append_12 : decode c_TD_append 12 = .ok (.ireturn, 1) := by decide +kernel
theorem d_TD_append_13 : decode c_TD_append 13 = .ok (.aload_n 0, 1) := by decide +kernel
theorem d_TD_append_14 : decode c_TD_append 14 = .ok (.getfield 12, 3) := by decide +kernel
theorem d_TD_append_17 : decode c_TD_append 17 = .ok (.iload_n 1, 1) := by decide +kernel
theorem d_TD_append_18 : decode c_TD_append 18 = .ok (.invokevirtual 91, 3) := by decide +kernel
theorem d_TD_append_21 : decode c_TD_append 21 = .ok (.ifCond .eq 13, 3) := by decide +kernel
theorem d_TD_append_24 : decode c_TD_append 24 = .ok (.aload_n 0, 1) := by decide +kernel
theorem d_TD_append_25 : decode c_TD_append 25 = .ok (.getfield 12, 3) := by decide +kernel
theorem d_TD_append_28 : decode c_TD_append 28 = .ok (.getfield 95, 3) := by decide +kernel
theorem d_TD_append_31 : decode c_TD_append 31 = .ok (.goto 5, 3) := by decide +kernel
theorem d_TD_append_34 : decode c_TD_append 34 = .ok (.bipush (-14), 2) := by decide +kernel
theorem d_TD_append_36 : decode c_TD_append 36 = .ok (.ireturn, 1) := by decide +kernel
theorem d_TD_clearText_0 : decode c_TD_clearText 0 = .ok (.aload_n 0, 1) := by decide +kernel
theorem d_TD_clearText_1 : decode c_TD_clearText 1 = .ok (.getfield 12, 3) := by decide +kernel
theorem d_TD_clearText_4 : decode c_TD_clearText 4 = .ok (.getfield 95, 3) := by decide +kernel
theorem d_TD_clearText_7 : decode c_TD_clearText 7 = .ok (.istore_n 1, 1) := by decide +kernel
theorem d_TD_clearText_8 : decode c_TD_clearText 8 = .ok (.aload_n 0, 1) := by decide +kernel
theorem d_TD_clearText_9 : decode c_TD_clearText 9 = .ok (.getfield 12, 3) := by decide +kernel
theorem d_TD_clearText_12 : decode c_TD_clearText 12 = .ok (.iconst 0, 1) := by decide +kernel
theorem d_TD_clearText_13 : decode c_TD_clearText 13 = .ok (.putfield 95, 3) := by decide +kernel
theorem d_TD_clearText_16 : decode c_TD_clearText 16 = .ok (.iload_n 1, 1) := by decide +kernel
theorem d_TD_clearText_17 : decode c_TD_clearText 17 = .ok (.ireturn, 1) := by decide +kernel
theorem d_TD_faultPosition_0 : decode c_TD_faultPosition 0 = .ok (.aload_n 0, 1) := by decide +kernel
theorem d_TD_faultPosition_1 : decode c_TD_faultPosition 1 = .ok (.getfield 12, 3) := by decide +kernel
theorem d_TD_faultPosition_4 : decode c_TD_faultPosition 4 = .ok (.invokevirtual 98, 3) := by decide +kernel
theorem d_TD_faultPosition_7 : decode c_TD_faultPosition 7 = .ok (.ireturn, 1) := by decide +kernel
theorem d_TD_faultDepth_0 : decode c_TD_faultDepth 0 = .ok (.aload_n 0, 1) := by decide +kernel
theorem d_TD_faultDepth_1 : decode c_TD_faultDepth 1 = .ok (.getfield 12, 3) := by decide +kernel
theorem d_TD_faultDepth_4 : decode c_TD_faultDepth 4 = .ok (.invokevirtual 98, 3) := by decide +kernel
theorem d_TD_faultDepth_7 : decode c_TD_faultDepth 7 = .ok (.bipush (-15), 2) := by decide +kernel
theorem d_TD_faultDepth_9 : decode c_TD_faultDepth 9 = .ok (.if_icmp .ne 8, 3) := by decide +kernel
theorem d_TD_faultDepth_12 : decode c_TD_faultDepth 12 = .ok (.bipush (-15), 2) := by decide +kernel
theorem d_TD_faultDepth_14 : decode c_TD_faultDepth 14 = .ok (.goto 10, 3) := by decide +kernel
theorem d_TD_faultDepth_17 : decode c_TD_faultDepth 17 = .ok (.aload_n 0, 1) := by decide +kernel
theorem d_TD_faultDepth_18 : decode c_TD_faultDepth 18 = .ok (.getfield 12, 3) := by decide +kernel
theorem d_TD_faultDepth_21 : decode c_TD_faultDepth 21 = .ok (.getfield 102, 3) := by decide +kernel
theorem d_TD_faultDepth_24 : decode c_TD_faultDepth 24 = .ok (.ireturn, 1) := by decide +kernel
theorem d_TD_read_0 : decode c_TD_read 0 = .ok (.iload_n 1, 1) := by decide +kernel
theorem d_TD_read_1 : decode c_TD_read 1 = .ok (.invokestatic 105, 3) := by decide +kernel
theorem d_TD_read_4 : decode c_TD_read 4 = .ok (.ifCond .ne 6, 3) := by decide +kernel
theorem d_TD_read_7 : decode c_TD_read 7 = .ok (.bipush (-11), 2) := by decide +kernel
theorem d_TD_read_9 : decode c_TD_read 9 = .ok (.ireturn, 1) := by decide +kernel
theorem d_TD_read_10 : decode c_TD_read 10 = .ok (.aload_n 0, 1) := by decide +kernel
theorem d_TD_read_11 : decode c_TD_read 11 = .ok (.getfield 12, 3) := by decide +kernel
theorem d_TD_read_14 : decode c_TD_read 14 = .ok (.invokevirtual 98, 3) := by decide +kernel
theorem d_TD_read_17 : decode c_TD_read 17 = .ok (.bipush (-15), 2) := by decide +kernel
theorem d_TD_read_19 : decode c_TD_read 19 = .ok (.if_icmp .eq 6, 3) := by decide +kernel
theorem d_TD_read_22 : decode c_TD_read 22 = .ok (.bipush (-13), 2) := by decide +kernel
theorem d_TD_read_24 : decode c_TD_read 24 = .ok (.ireturn, 1) := by decide +kernel
theorem d_TD_read_25 : decode c_TD_read 25 = .ok (.aload_n 0, 1) := by decide +kernel
theorem d_TD_read_26 : decode c_TD_read 26 = .ok (.getfield 19, 3) := by decide +kernel
theorem d_TD_read_29 : decode c_TD_read 29 = .ok (.iload_n 1, 1) := by decide +kernel
theorem d_TD_read_30 : decode c_TD_read 30 = .ok (.invokevirtual 108, 3) := by decide +kernel
theorem d_TD_read_33 : decode c_TD_read 33 = .ok (.astore_n 2, 1) := by decide +kernel
theorem d_TD_read_34 : decode c_TD_read 34 = .ok (.aload_n 2, 1) := by decide +kernel
theorem d_TD_read_35 : decode c_TD_read 35 = .ok (.aload_n 0, 1) := by decide +kernel
theorem d_TD_read_36 : decode c_TD_read 36 = .ok (.getfield 12, 3) := by decide +kernel
theorem d_TD_read_39 : decode c_TD_read 39 = .ok (.getfield 112, 3) := by decide +kernel
theorem d_TD_read_42 : decode c_TD_read 42 = .ok (.invokevirtual 115, 3) := by decide +kernel
theorem d_TD_read_45 : decode c_TD_read 45 = .ok (.aload_n 2, 1) := by decide +kernel
theorem d_TD_read_46 : decode c_TD_read 46 = .ok (.invokevirtual 120, 3) := by decide +kernel
theorem d_TD_read_49 : decode c_TD_read 49 = .ok (.aload_n 0, 1) := by decide +kernel
theorem d_TD_read_50 : decode c_TD_read 50 = .ok (.invokevirtual 123, 3) := by decide +kernel
theorem d_TD_read_53 : decode c_TD_read 53 = .ok (.aload_n 2, 1) := by decide +kernel
theorem d_TD_read_54 : decode c_TD_read 54 = .ok (.getfield 126, 3) := by decide +kernel
theorem d_TD_read_57 : decode c_TD_read 57 = .ok (.ireturn, 1) := by decide +kernel
theorem d_TD_exchange_0 : decode c_TD_exchange 0 = .ok (.aload_n 0, 1) := by decide +kernel
theorem d_TD_exchange_1 : decode c_TD_exchange 1 = .ok (.getfield 19, 3) := by decide +kernel
theorem d_TD_exchange_4 : decode c_TD_exchange 4 = .ok (.invokevirtual 129, 3) := by decide +kernel
theorem d_TD_exchange_7 : decode c_TD_exchange 7 = .ok (.aload_n 0, 1) := by decide +kernel
theorem d_TD_exchange_8 : decode c_TD_exchange 8 = .ok (.invokevirtual 123, 3) := by decide +kernel
theorem d_TD_exchange_11 : decode c_TD_exchange 11 = .ok (.aload_n 0, 1) := by decide +kernel
theorem d_TD_exchange_12 : decode c_TD_exchange 12 = .ok (.getfield 19, 3) := by decide +kernel
theorem d_TD_exchange_15 : decode c_TD_exchange 15 = .ok (.getfield 83, 3) := by decide +kernel
theorem d_TD_exchange_18 : decode c_TD_exchange 18 = .ok (.getfield 126, 3) := by decide +kernel
theorem d_TD_exchange_21 : decode c_TD_exchange 21 = .ok (.ireturn, 1) := by decide +kernel
theorem d_TD_nodes_0 : decode c_TD_nodes 0 = .ok (.iload_n 1, 1) := by decide +kernel
theorem d_TD_nodes_1 : decode c_TD_nodes 1 = .ok (.invokestatic 105, 3) := by decide +kernel
theorem d_TD_nodes_4 : decode c_TD_nodes 4 = .ok (.ifCond .eq 17, 3) := by decide +kernel
theorem d_TD_nodes_7 : decode c_TD_nodes 7 = .ok (.aload_n 0, 1) := by decide +kernel
theorem d_TD_nodes_8 : decode c_TD_nodes 8 = .ok (.getfield 19, 3) := by decide +kernel
theorem d_TD_nodes_11 : decode c_TD_nodes 11 = .ok (.iload_n 1, 1) := by decide +kernel
theorem d_TD_nodes_12 : decode c_TD_nodes 12 = .ok (.invokevirtual 108, 3) := by decide +kernel
theorem d_TD_nodes_15 : decode c_TD_nodes 15 = .ok (.getfield 126, 3) := by decide +kernel
theorem d_TD_nodes_18 : decode c_TD_nodes 18 = .ok (.goto 5, 3) := by decide +kernel
theorem d_TD_nodes_21 : decode c_TD_nodes 21 = .ok (.bipush (-11), 2) := by decide +kernel
theorem d_TD_nodes_23 : decode c_TD_nodes 23 = .ok (.ireturn, 1) := by decide +kernel
theorem d_TD_node_0 : decode c_TD_node 0 = .ok (.aload_n 0, 1) := by decide +kernel
theorem d_TD_node_1 : decode c_TD_node 1 = .ok (.iload_n 1, 1) := by decide +kernel
theorem d_TD_node_2 : decode c_TD_node 2 = .ok (.iload_n 2, 1) := by decide +kernel
theorem d_TD_node_3 : decode c_TD_node 3 = .ok (.invokevirtual 132, 3) := by decide +kernel
theorem d_TD_node_6 : decode c_TD_node 6 = .ok (.ifCond .ne 6, 3) := by decide +kernel
theorem d_TD_node_9 : decode c_TD_node 9 = .ok (.bipush (-11), 2) := by decide +kernel
theorem d_TD_node_11 : decode c_TD_node 11 = .ok (.ireturn, 1) := by decide +kernel
theorem d_TD_node_12 : decode c_TD_node 12 = .ok (.aload_n 0, 1) := by decide +kernel
theorem d_TD_node_13 : decode c_TD_node 13 = .ok (.getfield 19, 3) := by decide +kernel
theorem d_TD_node_16 : decode c_TD_node 16 = .ok (.iload_n 1, 1) := by decide +kernel
theorem d_TD_node_17 : decode c_TD_node 17 = .ok (.invokevirtual 108, 3) := by decide +kernel
theorem d_TD_node_20 : decode c_TD_node 20 = .ok (.astore 4, 2) := by decide +kernel
theorem d_TD_node_22 : decode c_TD_node 22 = .ok (.iload_n 3, 1) := by decide +kernel
theorem d_TD_node_23 : decode c_TD_node 23 = .ok (.tableswitch 85 0 5 #[37, 45, 53, 61, 69, 77], 37) := by decide +kernel
theorem d_TD_node_60 : decode c_TD_node 60 = .ok (.aload 4, 2) := by decide +kernel
theorem d_TD_node_62 : decode c_TD_node 62 = .ok (.getfield 136, 3) := by decide +kernel
theorem d_TD_node_65 : decode c_TD_node 65 = .ok (.iload_n 2, 1) := by decide +kernel
theorem d_TD_node_66 : decode c_TD_node 66 = .ok (.iaload, 1) := by decide +kernel
theorem d_TD_node_67 : decode c_TD_node 67 = .ok (.ireturn, 1) := by decide +kernel
theorem d_TD_node_68 : decode c_TD_node 68 = .ok (.aload 4, 2) := by decide +kernel
theorem d_TD_node_70 : decode c_TD_node 70 = .ok (.getfield 140, 3) := by decide +kernel
theorem d_TD_node_73 : decode c_TD_node 73 = .ok (.iload_n 2, 1) := by decide +kernel
theorem d_TD_node_74 : decode c_TD_node 74 = .ok (.iaload, 1) := by decide +kernel
theorem d_TD_node_75 : decode c_TD_node 75 = .ok (.ireturn, 1) := by decide +kernel
theorem d_TD_node_76 : decode c_TD_node 76 = .ok (.aload 4, 2) := by decide +kernel
theorem d_TD_node_78 : decode c_TD_node 78 = .ok (.getfield 143, 3) := by decide +kernel
theorem d_TD_node_81 : decode c_TD_node 81 = .ok (.iload_n 2, 1) := by decide +kernel
theorem d_TD_node_82 : decode c_TD_node 82 = .ok (.iaload, 1) := by decide +kernel
theorem d_TD_node_83 : decode c_TD_node 83 = .ok (.ireturn, 1) := by decide +kernel
theorem d_TD_node_84 : decode c_TD_node 84 = .ok (.aload 4, 2) := by decide +kernel
theorem d_TD_node_86 : decode c_TD_node 86 = .ok (.getfield 146, 3) := by decide +kernel
theorem d_TD_node_89 : decode c_TD_node 89 = .ok (.iload_n 2, 1) := by decide +kernel
theorem d_TD_node_90 : decode c_TD_node 90 = .ok (.iaload, 1) := by decide +kernel
theorem d_TD_node_91 : decode c_TD_node 91 = .ok (.ireturn, 1) := by decide +kernel
theorem d_TD_node_92 : decode c_TD_node 92 = .ok (.aload 4, 2) := by decide +kernel
theorem d_TD_node_94 : decode c_TD_node 94 = .ok (.getfield 149, 3) := by decide +kernel
theorem d_TD_node_97 : decode c_TD_node 97 = .ok (.iload_n 2, 1) := by decide +kernel
theorem d_TD_node_98 : decode c_TD_node 98 = .ok (.iaload, 1) := by decide +kernel
theorem d_TD_node_99 : decode c_TD_node 99 = .ok (.ireturn, 1) := by decide +kernel
theorem d_TD_node_100 : decode c_TD_node 100 = .ok (.aload 4, 2) := by decide +kernel
theorem d_TD_node_102 : decode c_TD_node 102 = .ok (.getfield 152, 3) := by decide +kernel
theorem d_TD_node_105 : decode c_TD_node 105 = .ok (.iload_n 2, 1) := by decide +kernel
theorem d_TD_node_106 : decode c_TD_node 106 = .ok (.iaload, 1) := by decide +kernel
theorem d_TD_node_107 : decode c_TD_node 107 = .ok (.ireturn, 1) := by decide +kernel
theorem d_TD_node_108 : decode c_TD_node 108 = .ok (.bipush (-12), 2) := by decide +kernel
theorem d_TD_node_110 : decode c_TD_node 110 = .ok (.ireturn, 1) := by decide +kernel
theorem d_TD_child_0 : decode c_TD_child 0 = .ok (.aload_n 0, 1) := by decide +kernel
theorem d_TD_child_1 : decode c_TD_child 1 = .ok (.iload_n 1, 1) := by decide +kernel
theorem d_TD_child_2 : decode c_TD_child 2 = .ok (.iload_n 2, 1) := by decide +kernel
theorem d_TD_child_3 : decode c_TD_child 3 = .ok (.invokevirtual 132, 3) := by decide +kernel
theorem d_TD_child_6 : decode c_TD_child 6 = .ok (.ifCond .ne 6, 3) := by decide +kernel
theorem d_TD_child_9 : decode c_TD_child 9 = .ok (.bipush (-11), 2) := by decide +kernel
theorem d_TD_child_11 : decode c_TD_child 11 = .ok (.ireturn, 1) := by decide +kernel
theorem d_TD_child_12 : decode c_TD_child 12 = .ok (.aload_n 0, 1) := by decide +kernel
theorem d_TD_child_13 : decode c_TD_child 13 = .ok (.getfield 19, 3) := by decide +kernel
theorem d_TD_child_16 : decode c_TD_child 16 = .ok (.iload_n 1, 1) := by decide +kernel
theorem d_TD_child_17 : decode c_TD_child 17 = .ok (.invokevirtual 108, 3) := by decide +kernel
theorem d_TD_child_20 : decode c_TD_child 20 = .ok (.iload_n 2, 1) := by decide +kernel
theorem d_TD_child_21 : decode c_TD_child 21 = .ok (.iload_n 3, 1) := by decide +kernel
theorem d_TD_child_22 : decode c_TD_child 22 = .ok (.invokevirtual 155, 3) := by decide +kernel
theorem d_TD_child_25 : decode c_TD_child 25 = .ok (.ireturn, 1) := by decide +kernel
theorem d_TD_equal_0 : decode c_TD_equal 0 = .ok (.aload_n 0, 1) := by decide +kernel
theorem d_TD_equal_1 : decode c_TD_equal 1 = .ok (.iconst 0, 1) := by decide +kernel
theorem d_TD_equal_2 : decode c_TD_equal 2 = .ok (.iload_n 1, 1) := by decide +kernel
theorem d_TD_equal_3 : decode c_TD_equal 3 = .ok (.invokevirtual 132, 3) := by decide +kernel
theorem d_TD_equal_6 : decode c_TD_equal 6 = .ok (.ifCond .eq 12, 3) := by decide +kernel
theorem d_TD_equal_9 : decode c_TD_equal 9 = .ok (.aload_n 0, 1) := by decide +kernel
theorem d_TD_equal_10 : decode c_TD_equal 10 = .ok (.iconst 1, 1) := by decide +kernel
theorem d_TD_equal_11 : decode c_TD_equal 11 = .ok (.iload_n 2, 1) := by decide +kernel
theorem d_TD_equal_12 : decode c_TD_equal 12 = .ok (.invokevirtual 132, 3) := by decide +kernel
theorem d_TD_equal_15 : decode c_TD_equal 15 = .ok (.ifCond .ne 6, 3) := by decide +kernel
theorem d_TD_equal_18 : decode c_TD_equal 18 = .ok (.bipush (-11), 2) := by decide +kernel
theorem d_TD_equal_20 : decode c_TD_equal 20 = .ok (.ireturn, 1) := by decide +kernel
theorem d_TD_equal_21 : decode c_TD_equal 21 = .ok (.aload_n 0, 1) := by decide +kernel
theorem d_TD_equal_22 : decode c_TD_equal 22 = .ok (.getfield 19, 3) := by decide +kernel
theorem d_TD_equal_25 : decode c_TD_equal 25 = .ok (.iload_n 1, 1) := by decide +kernel
theorem d_TD_equal_26 : decode c_TD_equal 26 = .ok (.iload_n 2, 1) := by decide +kernel
theorem d_TD_equal_27 : decode c_TD_equal 27 = .ok (.invokevirtual 159, 3) := by decide +kernel
theorem d_TD_equal_30 : decode c_TD_equal 30 = .ok (.ifCond .eq 7, 3) := by decide +kernel
theorem d_TD_equal_33 : decode c_TD_equal 33 = .ok (.iconst 1, 1) := by decide +kernel
theorem d_TD_equal_34 : decode c_TD_equal 34 = .ok (.goto 4, 3) := by decide +kernel
theorem d_TD_equal_37 : decode c_TD_equal 37 = .ok (.iconst 0, 1) := by decide +kernel
theorem d_TD_equal_38 : decode c_TD_equal 38 = .ok (.ireturn, 1) := by decide +kernel
theorem d_TD_setMatching_0 : decode c_TD_setMatching 0 = .ok (.iload_n 1, 1) := by decide +kernel
theorem d_TD_setMatching_1 : decode c_TD_setMatching 1 = .ok (.iconst 1, 1) := by decide +kernel
theorem d_TD_setMatching_2 : decode c_TD_setMatching 2 = .ok (.if_icmp .lt 19, 3) := by decide +kernel
theorem d_TD_setMatching_5 : decode c_TD_setMatching 5 = .ok (.iload_n 1, 1) := by decide +kernel
theorem d_TD_setMatching_6 : decode c_TD_setMatching 6 = .ok (.bipush 9, 2) := by decide +kernel
theorem d_TD_setMatching_8 : decode c_TD_setMatching 8 = .ok (.if_icmp .gt 13, 3) := by decide +kernel
theorem d_TD_setMatching_11 : decode c_TD_setMatching 11 = .ok (.iload_n 2, 1) := by decide +kernel
theorem d_TD_setMatching_12 : decode c_TD_setMatching 12 = .ok (.ifCond .lt 9, 3) := by decide +kernel
theorem d_TD_setMatching_15 : decode c_TD_setMatching 15 = .ok (.iload_n 2, 1) := by decide +kernel
theorem d_TD_setMatching_16 : decode c_TD_setMatching 16 = .ok (.bipush 100, 2) := by decide +kernel
theorem d_TD_setMatching_18 : decode c_TD_setMatching 18 = .ok (.if_icmp .le 6, 3) := by decide +kernel
theorem d_TD_setMatching_21 : decode c_TD_setMatching 21 = .ok (.bipush (-12), 2) := by decide +kernel
theorem d_TD_setMatching_23 : decode c_TD_setMatching 23 = .ok (.ireturn, 1) := by decide +kernel
theorem d_TD_setMatching_24 : decode c_TD_setMatching 24 = .ok (.sipush 1000, 3) := by decide +kernel
theorem d_TD_setMatching_27 : decode c_TD_setMatching 27 = .ok (.aload_n 0, 1) := by decide +kernel
theorem d_TD_setMatching_28 : decode c_TD_setMatching 28 = .ok (.getfield 19, 3) := by decide +kernel
theorem d_TD_setMatching_31 : decode c_TD_setMatching 31 = .ok (.getfield 162, 3) := by decide +kernel
theorem d_TD_setMatching_34 : decode c_TD_setMatching 34 = .ok (.imul, 1) := by decide +kernel
theorem d_TD_setMatching_35 : decode c_TD_setMatching 35 = .ok (.aload_n 0, 1) := by decide +kernel
theorem d_TD_setMatching_36 : decode c_TD_setMatching 36 = .ok (.getfield 19, 3) := by decide +kernel
theorem d_TD_setMatching_39 : decode c_TD_setMatching 39 = .ok (.getfield 164, 3) := by decide +kernel
theorem d_TD_setMatching_42 : decode c_TD_setMatching 42 = .ok (.iadd, 1) := by decide +kernel
theorem d_TD_setMatching_43 : decode c_TD_setMatching 43 = .ok (.istore_n 3, 1) := by decide +kernel
theorem d_TD_setMatching_44 : decode c_TD_setMatching 44 = .ok (.aload_n 0, 1) := by decide +kernel
theorem d_TD_setMatching_45 : decode c_TD_setMatching 45 = .ok (.getfield 19, 3) := by decide +kernel
theorem d_TD_setMatching_48 : decode c_TD_setMatching 48 = .ok (.iload_n 1, 1) := by decide +kernel
theorem d_TD_setMatching_49 : decode c_TD_setMatching 49 = .ok (.putfield 162, 3) := by decide +kernel
theorem d_TD_setMatching_52 : decode c_TD_setMatching 52 = .ok (.aload_n 0, 1) := by decide +kernel
theorem d_TD_setMatching_53 : decode c_TD_setMatching 53 = .ok (.getfield 19, 3) := by decide +kernel
theorem d_TD_setMatching_56 : decode c_TD_setMatching 56 = .ok (.iload_n 2, 1) := by decide +kernel
theorem d_TD_setMatching_57 : decode c_TD_setMatching 57 = .ok (.putfield 164, 3) := by decide +kernel
theorem d_TD_setMatching_60 : decode c_TD_setMatching 60 = .ok (.aload_n 0, 1) := by decide +kernel
theorem d_TD_setMatching_61 : decode c_TD_setMatching 61 = .ok (.invokevirtual 123, 3) := by decide +kernel
theorem d_TD_setMatching_64 : decode c_TD_setMatching 64 = .ok (.iload_n 3, 1) := by decide +kernel
theorem d_TD_setMatching_65 : decode c_TD_setMatching 65 = .ok (.ireturn, 1) := by decide +kernel
theorem d_TD_pairs_0 : decode c_TD_pairs 0 = .ok (.aload_n 0, 1) := by decide +kernel
theorem d_TD_pairs_1 : decode c_TD_pairs 1 = .ok (.invokevirtual 167, 3) := by decide +kernel
theorem d_TD_pairs_4 : decode c_TD_pairs 4 = .ok (.aload_n 0, 1) := by decide +kernel
theorem d_TD_pairs_5 : decode c_TD_pairs 5 = .ok (.getfield 34, 3) := by decide +kernel
theorem d_TD_pairs_8 : decode c_TD_pairs 8 = .ok (.getfield 170, 3) := by decide +kernel
theorem d_TD_pairs_11 : decode c_TD_pairs 11 = .ok (.ireturn, 1) := by decide +kernel
theorem d_TD_partner_0 : decode c_TD_partner 0 = .ok (.aload_n 0, 1) := by decide +kernel
theorem d_TD_partner_1 : decode c_TD_partner 1 = .ok (.iload_n 1, 1) := by decide +kernel
theorem d_TD_partner_2 : decode c_TD_partner 2 = .ok (.iload_n 2, 1) := by decide +kernel
theorem d_TD_partner_3 : decode c_TD_partner 3 = .ok (.invokevirtual 132, 3) := by decide +kernel
theorem d_TD_partner_6 : decode c_TD_partner 6 = .ok (.ifCond .ne 6, 3) := by decide +kernel
theorem d_TD_partner_9 : decode c_TD_partner 9 = .ok (.bipush (-11), 2) := by decide +kernel
theorem d_TD_partner_11 : decode c_TD_partner 11 = .ok (.ireturn, 1) := by decide +kernel
theorem d_TD_partner_12 : decode c_TD_partner 12 = .ok (.aload_n 0, 1) := by decide +kernel
theorem d_TD_partner_13 : decode c_TD_partner 13 = .ok (.invokevirtual 167, 3) := by decide +kernel
theorem d_TD_partner_16 : decode c_TD_partner 16 = .ok (.iload_n 1, 1) := by decide +kernel
theorem d_TD_partner_17 : decode c_TD_partner 17 = .ok (.ifCond .ne 15, 3) := by decide +kernel
theorem d_TD_partner_20 : decode c_TD_partner 20 = .ok (.aload_n 0, 1) := by decide +kernel
theorem d_TD_partner_21 : decode c_TD_partner 21 = .ok (.getfield 34, 3) := by decide +kernel
theorem d_TD_partner_24 : decode c_TD_partner 24 = .ok (.getfield 173, 3) := by decide +kernel
theorem d_TD_partner_27 : decode c_TD_partner 27 = .ok (.iload_n 2, 1) := by decide +kernel
theorem d_TD_partner_28 : decode c_TD_partner 28 = .ok (.iaload, 1) := by decide +kernel
theorem d_TD_partner_29 : decode c_TD_partner 29 = .ok (.goto 12, 3) := by decide +kernel
theorem d_TD_partner_32 : decode c_TD_partner 32 = .ok (.aload_n 0, 1) := by decide +kernel
theorem d_TD_partner_33 : decode c_TD_partner 33 = .ok (.getfield 34, 3) := by decide +kernel
theorem d_TD_partner_36 : decode c_TD_partner 36 = .ok (.getfield 176, 3) := by decide +kernel
theorem d_TD_partner_39 : decode c_TD_partner 39 = .ok (.iload_n 2, 1) := by decide +kernel
theorem d_TD_partner_40 : decode c_TD_partner 40 = .ok (.iaload, 1) := by decide +kernel
theorem d_TD_partner_41 : decode c_TD_partner 41 = .ok (.invokestatic 179, 3) := by decide +kernel
theorem d_TD_partner_44 : decode c_TD_partner 44 = .ok (.ireturn, 1) := by decide +kernel
theorem d_TD_phase_0 : decode c_TD_phase 0 = .ok (.aload_n 0, 1) := by decide +kernel
theorem d_TD_phase_1 : decode c_TD_phase 1 = .ok (.iconst 0, 1) := by decide +kernel
theorem d_TD_phase_2 : decode c_TD_phase 2 = .ok (.iload_n 1, 1) := by decide +kernel
theorem d_TD_phase_3 : decode c_TD_phase 3 = .ok (.invokevirtual 132, 3) := by decide +kernel
theorem d_TD_phase_6 : decode c_TD_phase 6 = .ok (.ifCond .ne 6, 3) := by decide +kernel
theorem d_TD_phase_9 : decode c_TD_phase 9 = .ok (.bipush (-11), 2) := by decide +kernel
theorem d_TD_phase_11 : decode c_TD_phase 11 = .ok (.ireturn, 1) := by decide +kernel
theorem d_TD_phase_12 : decode c_TD_phase 12 = .ok (.aload_n 0, 1) := by decide +kernel
theorem d_TD_phase_13 : decode c_TD_phase 13 = .ok (.invokevirtual 167, 3) := by decide +kernel
theorem d_TD_phase_16 : decode c_TD_phase 16 = .ok (.aload_n 0, 1) := by decide +kernel
theorem d_TD_phase_17 : decode c_TD_phase 17 = .ok (.getfield 34, 3) := by decide +kernel
theorem d_TD_phase_20 : decode c_TD_phase 20 = .ok (.getfield 183, 3) := by decide +kernel
theorem d_TD_phase_23 : decode c_TD_phase 23 = .ok (.iload_n 1, 1) := by decide +kernel
theorem d_TD_phase_24 : decode c_TD_phase 24 = .ok (.iaload, 1) := by decide +kernel
theorem d_TD_phase_25 : decode c_TD_phase 25 = .ok (.invokestatic 179, 3) := by decide +kernel
theorem d_TD_phase_28 : decode c_TD_phase 28 = .ok (.ireturn, 1) := by decide +kernel
theorem d_TD_likeness_0 : decode c_TD_likeness 0 = .ok (.aload_n 0, 1) := by decide +kernel
theorem d_TD_likeness_1 : decode c_TD_likeness 1 = .ok (.iconst 0, 1) := by decide +kernel
theorem d_TD_likeness_2 : decode c_TD_likeness 2 = .ok (.iload_n 1, 1) := by decide +kernel
theorem d_TD_likeness_3 : decode c_TD_likeness 3 = .ok (.invokevirtual 132, 3) := by decide +kernel
theorem d_TD_likeness_6 : decode c_TD_likeness 6 = .ok (.ifCond .eq 12, 3) := by decide +kernel
theorem d_TD_likeness_9 : decode c_TD_likeness 9 = .ok (.aload_n 0, 1) := by decide +kernel
theorem d_TD_likeness_10 : decode c_TD_likeness 10 = .ok (.iconst 1, 1) := by decide +kernel
theorem d_TD_likeness_11 : decode c_TD_likeness 11 = .ok (.iload_n 2, 1) := by decide +kernel
theorem d_TD_likeness_12 : decode c_TD_likeness 12 = .ok (.invokevirtual 132, 3) := by decide +kernel
theorem d_TD_likeness_15 : decode c_TD_likeness 15 = .ok (.ifCond .ne 6, 3) := by decide +kernel
theorem d_TD_likeness_18 : decode c_TD_likeness 18 = .ok (.bipush (-11), 2) := by decide +kernel
theorem d_TD_likeness_20 : decode c_TD_likeness 20 = .ok (.ireturn, 1) := by decide +kernel
theorem d_TD_likeness_21 : decode c_TD_likeness 21 = .ok (.aload_n 0, 1) := by decide +kernel
theorem d_TD_likeness_22 : decode c_TD_likeness 22 = .ok (.invokevirtual 167, 3) := by decide +kernel
theorem d_TD_likeness_25 : decode c_TD_likeness 25 = .ok (.aload_n 0, 1) := by decide +kernel
theorem d_TD_likeness_26 : decode c_TD_likeness 26 = .ok (.getfield 19, 3) := by decide +kernel
theorem d_TD_likeness_29 : decode c_TD_likeness 29 = .ok (.getfield 83, 3) := by decide +kernel
theorem d_TD_likeness_32 : decode c_TD_likeness 32 = .ok (.getfield 152, 3) := by decide +kernel
theorem d_TD_likeness_35 : decode c_TD_likeness 35 = .ok (.iload_n 1, 1) := by decide +kernel
theorem d_TD_likeness_36 : decode c_TD_likeness 36 = .ok (.iaload, 1) := by decide +kernel
theorem d_TD_likeness_37 : decode c_TD_likeness 37 = .ok (.aload_n 0, 1) := by decide +kernel
theorem d_TD_likeness_38 : decode c_TD_likeness 38 = .ok (.getfield 19, 3) := by decide +kernel
theorem d_TD_likeness_41 : decode c_TD_likeness 41 = .ok (.getfield 186, 3) := by decide +kernel
theorem d_TD_likeness_44 : decode c_TD_likeness 44 = .ok (.getfield 152, 3) := by decide +kernel
theorem d_TD_likeness_47 : decode c_TD_likeness 47 = .ok (.iload_n 2, 1) := by decide +kernel
theorem d_TD_likeness_48 : decode c_TD_likeness 48 = .ok (.iaload, 1) := by decide +kernel
theorem d_TD_likeness_49 : decode c_TD_likeness 49 = .ok (.iadd, 1) := by decide +kernel
theorem d_TD_likeness_50 : decode c_TD_likeness 50 = .ok (.istore_n 3, 1) := by decide +kernel
theorem d_TD_likeness_51 : decode c_TD_likeness 51 = .ok (.iload_n 3, 1) := by decide +kernel
theorem d_TD_likeness_52 : decode c_TD_likeness 52 = .ok (.ifCond .ne 7, 3) := by decide +kernel
theorem d_TD_likeness_55 : decode c_TD_likeness 55 = .ok (.iconst 0, 1) := by decide +kernel
theorem d_TD_likeness_56 : decode c_TD_likeness 56 = .ok (.goto 22, 3) := by decide +kernel
theorem d_TD_likeness_59 : decode c_TD_likeness 59 = .ok (.sipush 200, 3) := by decide +kernel
theorem d_TD_likeness_62 : decode c_TD_likeness 62 = .ok (.aload_n 0, 1) := by decide +kernel
theorem d_TD_likeness_63 : decode c_TD_likeness 63 = .ok (.getfield 34, 3) := by decide +kernel
theorem d_TD_likeness_66 : decode c_TD_likeness 66 = .ok (.aload_n 0, 1) := by decide +kernel
theorem d_TD_likeness_67 : decode c_TD_likeness 67 = .ok (.getfield 19, 3) := by decide +kernel
theorem d_TD_likeness_70 : decode c_TD_likeness 70 = .ok (.iload_n 1, 1) := by decide +kernel
theorem d_TD_likeness_71 : decode c_TD_likeness 71 = .ok (.iload_n 2, 1) := by decide +kernel
theorem d_TD_likeness_72 : decode c_TD_likeness 72 = .ok (.invokevirtual 189, 3) := by decide +kernel
theorem d_TD_likeness_75 : decode c_TD_likeness 75 = .ok (.imul, 1) := by decide +kernel
theorem d_TD_likeness_76 : decode c_TD_likeness 76 = .ok (.iload_n 3, 1) := by decide +kernel
theorem d_TD_likeness_77 : decode c_TD_likeness 77 = .ok (.idiv, 1) := by decide +kernel
theorem d_TD_likeness_78 : decode c_TD_likeness 78 = .ok (.ireturn, 1) := by decide +kernel
theorem d_TD_steps_0 : decode c_TD_steps 0 = .ok (.aload_n 0, 1) := by decide +kernel
theorem d_TD_steps_1 : decode c_TD_steps 1 = .ok (.invokevirtual 167, 3) := by decide +kernel
theorem d_TD_steps_4 : decode c_TD_steps 4 = .ok (.aload_n 0, 1) := by decide +kernel
theorem d_TD_steps_5 : decode c_TD_steps 5 = .ok (.getfield 41, 3) := by decide +kernel
theorem d_TD_steps_8 : decode c_TD_steps 8 = .ok (.getfield 193, 3) := by decide +kernel
theorem d_TD_steps_11 : decode c_TD_steps 11 = .ok (.ireturn, 1) := by decide +kernel
theorem d_TD_step_0 : decode c_TD_step 0 = .ok (.aload_n 0, 1) := by decide +kernel
theorem d_TD_step_1 : decode c_TD_step 1 = .ok (.invokevirtual 167, 3) := by decide +kernel
theorem d_TD_step_4 : decode c_TD_step 4 = .ok (.iload_n 1, 1) := by decide +kernel
theorem d_TD_step_5 : decode c_TD_step 5 = .ok (.ifCond .lt 14, 3) := by decide +kernel
theorem d_TD_step_8 : decode c_TD_step 8 = .ok (.iload_n 1, 1) := by decide +kernel
theorem d_TD_step_9 : decode c_TD_step 9 = .ok (.aload_n 0, 1) := by decide +kernel
theorem d_TD_step_10 : decode c_TD_step 10 = .ok (.getfield 41, 3) := by decide +kernel
theorem d_TD_step_13 : decode c_TD_step 13 = .ok (.getfield 193, 3) := by decide +kernel
theorem d_TD_step_16 : decode c_TD_step 16 = .ok (.if_icmp .lt 6, 3) := by decide +kernel
theorem d_TD_step_19 : decode c_TD_step 19 = .ok (.bipush (-11), 2) := by decide +kernel
theorem d_TD_step_21 : decode c_TD_step 21 = .ok (.ireturn, 1) := by decide +kernel
theorem d_TD_step_22 : decode c_TD_step 22 = .ok (.aload_n 0, 1) := by decide +kernel
theorem d_TD_step_23 : decode c_TD_step 23 = .ok (.getfield 41, 3) := by decide +kernel
theorem d_TD_step_26 : decode c_TD_step 26 = .ok (.getfield 194, 3) := by decide +kernel
theorem d_TD_step_29 : decode c_TD_step 29 = .ok (.iload_n 1, 1) := by decide +kernel
theorem d_TD_step_30 : decode c_TD_step 30 = .ok (.aaload, 1) := by decide +kernel
theorem d_TD_step_31 : decode c_TD_step 31 = .ok (.iload_n 2, 1) := by decide +kernel
theorem d_TD_step_32 : decode c_TD_step 32 = .ok (.invokevirtual 198, 3) := by decide +kernel
theorem d_TD_step_35 : decode c_TD_step 35 = .ok (.ireturn, 1) := by decide +kernel
theorem d_TD_count_0 : decode c_TD_count 0 = .ok (.iload_n 1, 1) := by decide +kernel
theorem d_TD_count_1 : decode c_TD_count 1 = .ok (.ifCond .lt 8, 3) := by decide +kernel
theorem d_TD_count_4 : decode c_TD_count 4 = .ok (.iload_n 1, 1) := by decide +kernel
theorem d_TD_count_5 : decode c_TD_count 5 = .ok (.iconst 3, 1) := by decide +kernel
theorem d_TD_count_6 : decode c_TD_count 6 = .ok (.if_icmp .le 6, 3) := by decide +kernel
theorem d_TD_count_9 : decode c_TD_count 9 = .ok (.bipush (-12), 2) := by decide +kernel
theorem d_TD_count_11 : decode c_TD_count 11 = .ok (.ireturn, 1) := by decide +kernel
theorem d_TD_count_12 : decode c_TD_count 12 = .ok (.aload_n 0, 1) := by decide +kernel
theorem d_TD_count_13 : decode c_TD_count 13 = .ok (.invokevirtual 167, 3) := by decide +kernel
theorem d_TD_count_16 : decode c_TD_count 16 = .ok (.iconst 0, 1) := by decide +kernel
theorem d_TD_count_17 : decode c_TD_count 17 = .ok (.istore_n 2, 1) := by decide +kernel
theorem d_TD_count_18 : decode c_TD_count 18 = .ok (.iconst 0, 1) := by decide +kernel
theorem d_TD_count_19 : decode c_TD_count 19 = .ok (.istore_n 3, 1) := by decide +kernel
theorem d_TD_count_20 : decode c_TD_count 20 = .ok (.iload_n 3, 1) := by decide +kernel
theorem d_TD_count_21 : decode c_TD_count 21 = .ok (.aload_n 0, 1) := by decide +kernel
theorem d_TD_count_22 : decode c_TD_count 22 = .ok (.getfield 41, 3) := by decide +kernel
theorem d_TD_count_25 : decode c_TD_count 25 = .ok (.getfield 193, 3) := by decide +kernel
theorem d_TD_count_28 : decode c_TD_count 28 = .ok (.if_icmp .ge 28, 3) := by decide +kernel
theorem d_TD_count_31 : decode c_TD_count 31 = .ok (.aload_n 0, 1) := by decide +kernel
theorem d_TD_count_32 : decode c_TD_count 32 = .ok (.getfield 41, 3) := by decide +kernel
theorem d_TD_count_35 : decode c_TD_count 35 = .ok (.getfield 194, 3) := by decide +kernel
theorem d_TD_count_38 : decode c_TD_count 38 = .ok (.iload_n 3, 1) := by decide +kernel
theorem d_TD_count_39 : decode c_TD_count 39 = .ok (.aaload, 1) := by decide +kernel
theorem d_TD_count_40 : decode c_TD_count 40 = .ok (.getfield 203, 3) := by decide +kernel
theorem d_TD_count_43 : decode c_TD_count 43 = .ok (.iload_n 1, 1) := by decide +kernel
theorem d_TD_count_44 : decode c_TD_count 44 = .ok (.if_icmp .ne 6, 3) := by decide +kernel
theorem d_TD_count_47 : decode c_TD_count 47 = .ok (.iinc 2 1, 3) := by decide +kernel
theorem d_TD_count_50 : decode c_TD_count 50 = .ok (.iinc 3 1, 3) := by decide +kernel
theorem d_TD_count_53 : decode c_TD_count 53 = .ok (.goto (-33), 3) := by decide +kernel
theorem d_TD_count_56 : decode c_TD_count 56 = .ok (.iload_n 2, 1) := by decide +kernel
theorem d_TD_count_57 : decode c_TD_count 57 = .ok (.ireturn, 1) := by decide +kernel
theorem d_TD_distance_0 : decode c_TD_distance 0 = .ok (.aload_n 0, 1) := by decide +kernel
theorem d_TD_distance_1 : decode c_TD_distance 1 = .ok (.getfield 76, 3) := by decide +kernel
theorem d_TD_distance_4 : decode c_TD_distance 4 = .ok (.iconst (-1), 1) := by decide +kernel
theorem d_TD_distance_5 : decode c_TD_distance 5 = .ok (.if_icmp .ne 18, 3) := by decide +kernel
theorem d_TD_distance_8 : decode c_TD_distance 8 = .ok (.aload_n 0, 1) := by decide +kernel
theorem d_TD_distance_9 : decode c_TD_distance 9 = .ok (.aload_n 0, 1) := by decide +kernel
theorem d_TD_distance_10 : decode c_TD_distance 10 = .ok (.getfield 48, 3) := by decide +kernel
theorem d_TD_distance_13 : decode c_TD_distance 13 = .ok (.aload_n 0, 1) := by decide +kernel
theorem d_TD_distance_14 : decode c_TD_distance 14 = .ok (.getfield 19, 3) := by decide +kernel
theorem d_TD_distance_17 : decode c_TD_distance 17 = .ok (.invokevirtual 206, 3) := by decide +kernel
theorem d_TD_distance_20 : decode c_TD_distance 20 = .ok (.putfield 76, 3) := by decide +kernel
theorem d_TD_distance_23 : decode c_TD_distance 23 = .ok (.aload_n 0, 1) := by decide +kernel
theorem d_TD_distance_24 : decode c_TD_distance 24 = .ok (.getfield 76, 3) := by decide +kernel
theorem d_TD_distance_27 : decode c_TD_distance 27 = .ok (.ireturn, 1) := by decide +kernel
theorem d_TD_start_0 : decode c_TD_start 0 = .ok (.aload_n 0, 1) := by decide +kernel
theorem d_TD_start_1 : decode c_TD_start 1 = .ok (.getfield 80, 3) := by decide +kernel
theorem d_TD_start_4 : decode c_TD_start 4 = .ok (.istore_n 1, 1) := by decide +kernel
theorem d_TD_start_5 : decode c_TD_start 5 = .ok (.aload_n 0, 1) := by decide +kernel
theorem d_TD_start_6 : decode c_TD_start 6 = .ok (.invokevirtual 210, 3) := by decide +kernel
theorem d_TD_start_9 : decode c_TD_start 9 = .ok (.iload_n 1, 1) := by decide +kernel
theorem d_TD_start_10 : decode c_TD_start 10 = .ok (.ireturn, 1) := by decide +kernel
theorem d_TD_stepOn_0 : decode c_TD_stepOn 0 = .ok (.aload_n 0, 1) := by decide +kernel
theorem d_TD_stepOn_1 : decode c_TD_stepOn 1 = .ok (.invokevirtual 167, 3) := by decide +kernel
theorem d_TD_stepOn_4 : decode c_TD_stepOn 4 = .ok (.aload_n 0, 1) := by decide +kernel
theorem d_TD_stepOn_5 : decode c_TD_stepOn 5 = .ok (.getfield 80, 3) := by decide +kernel
theorem d_TD_stepOn_8 : decode c_TD_stepOn 8 = .ok (.ifCond .lt 17, 3) := by decide +kernel
theorem d_TD_stepOn_11 : decode c_TD_stepOn 11 = .ok (.aload_n 0, 1) := by decide +kernel
theorem d_TD_stepOn_12 : decode c_TD_stepOn 12 = .ok (.getfield 80, 3) := by decide +kernel
theorem d_TD_stepOn_15 : decode c_TD_stepOn 15 = .ok (.aload_n 0, 1) := by decide +kernel
theorem d_TD_stepOn_16 : decode c_TD_stepOn 16 = .ok (.getfield 41, 3) := by decide +kernel
theorem d_TD_stepOn_19 : decode c_TD_stepOn 19 = .ok (.getfield 193, 3) := by decide +kernel
theorem d_TD_stepOn_22 : decode c_TD_stepOn 22 = .ok (.if_icmp .lt 6, 3) := by decide +kernel
theorem d_TD_stepOn_25 : decode c_TD_stepOn 25 = .ok (.bipush (-13), 2) := by decide +kernel
theorem d_TD_stepOn_27 : decode c_TD_stepOn 27 = .ok (.ireturn, 1) := by decide +kernel
theorem d_TD_stepOn_28 : decode c_TD_stepOn 28 = .ok (.aload_n 0, 1) := by decide +kernel
theorem d_TD_stepOn_29 : decode c_TD_stepOn 29 = .ok (.getfield 55, 3) := by decide +kernel
theorem d_TD_stepOn_32 : decode c_TD_stepOn 32 = .ok (.aload_n 0, 1) := by decide +kernel
theorem d_TD_stepOn_33 : decode c_TD_stepOn 33 = .ok (.getfield 41, 3) := by decide +kernel
theorem d_TD_stepOn_36 : decode c_TD_stepOn 36 = .ok (.getfield 194, 3) := by decide +kernel
theorem d_TD_stepOn_39 : decode c_TD_stepOn 39 = .ok (.aload_n 0, 1) := by decide +kernel
theorem d_TD_stepOn_40 : decode c_TD_stepOn 40 = .ok (.getfield 80, 3) := by decide +kernel
theorem d_TD_stepOn_43 : decode c_TD_stepOn 43 = .ok (.aaload, 1) := by decide +kernel
theorem d_TD_stepOn_44 : decode c_TD_stepOn 44 = .ok (.invokevirtual 213, 3) := by decide +kernel
theorem d_TD_stepOn_47 : decode c_TD_stepOn 47 = .ok (.aload_n 0, 1) := by decide +kernel
theorem d_TD_stepOn_48 : decode c_TD_stepOn 48 = .ok (.dup, 1) := by decide +kernel
theorem d_TD_stepOn_49 : decode c_TD_stepOn 49 = .ok (.getfield 80, 3) := by decide +kernel
theorem d_TD_stepOn_52 : decode c_TD_stepOn 52 = .ok (.iconst 1, 1) := by decide +kernel
theorem d_TD_stepOn_53 : decode c_TD_stepOn 53 = .ok (.iadd, 1) := by decide +kernel
theorem d_TD_stepOn_54 : decode c_TD_stepOn 54 = .ok (.putfield 80, 3) := by decide +kernel
theorem d_TD_stepOn_57 : decode c_TD_stepOn 57 = .ok (.aload_n 0, 1) := by decide +kernel
theorem d_TD_stepOn_58 : decode c_TD_stepOn 58 = .ok (.getfield 80, 3) := by decide +kernel
theorem d_TD_stepOn_61 : decode c_TD_stepOn 61 = .ok (.ireturn, 1) := by decide +kernel
theorem d_TD_stepBack_0 : decode c_TD_stepBack 0 = .ok (.aload_n 0, 1) := by decide +kernel
theorem d_TD_stepBack_1 : decode c_TD_stepBack 1 = .ok (.invokevirtual 167, 3) := by decide +kernel
theorem d_TD_stepBack_4 : decode c_TD_stepBack 4 = .ok (.aload_n 0, 1) := by decide +kernel
theorem d_TD_stepBack_5 : decode c_TD_stepBack 5 = .ok (.getfield 80, 3) := by decide +kernel
theorem d_TD_stepBack_8 : decode c_TD_stepBack 8 = .ok (.iconst 1, 1) := by decide +kernel
theorem d_TD_stepBack_9 : decode c_TD_stepBack 9 = .ok (.if_icmp .lt 17, 3) := by decide +kernel
theorem d_TD_stepBack_12 : decode c_TD_stepBack 12 = .ok (.aload_n 0, 1) := by decide +kernel
theorem d_TD_stepBack_13 : decode c_TD_stepBack 13 = .ok (.getfield 80, 3) := by decide +kernel
theorem d_TD_stepBack_16 : decode c_TD_stepBack 16 = .ok (.aload_n 0, 1) := by decide +kernel
theorem d_TD_stepBack_17 : decode c_TD_stepBack 17 = .ok (.getfield 41, 3) := by decide +kernel
theorem d_TD_stepBack_20 : decode c_TD_stepBack 20 = .ok (.getfield 193, 3) := by decide +kernel
theorem d_TD_stepBack_23 : decode c_TD_stepBack 23 = .ok (.if_icmp .le 6, 3) := by decide +kernel
theorem d_TD_stepBack_26 : decode c_TD_stepBack 26 = .ok (.bipush (-13), 2) := by decide +kernel
theorem d_TD_stepBack_28 : decode c_TD_stepBack 28 = .ok (.ireturn, 1) := by decide +kernel
theorem d_TD_stepBack_29 : decode c_TD_stepBack 29 = .ok (.aload_n 0, 1) := by decide +kernel
theorem d_TD_stepBack_30 : decode c_TD_stepBack 30 = .ok (.dup, 1) := by decide +kernel
theorem d_TD_stepBack_31 : decode c_TD_stepBack 31 = .ok (.getfield 80, 3) := by decide +kernel
theorem d_TD_stepBack_34 : decode c_TD_stepBack 34 = .ok (.iconst 1, 1) := by decide +kernel
theorem d_TD_stepBack_35 : decode c_TD_stepBack 35 = .ok (.isub, 1) := by decide +kernel
theorem d_TD_stepBack_36 : decode c_TD_stepBack 36 = .ok (.putfield 80, 3) := by decide +kernel
theorem d_TD_stepBack_39 : decode c_TD_stepBack 39 = .ok (.aload_n 0, 1) := by decide +kernel
theorem d_TD_stepBack_40 : decode c_TD_stepBack 40 = .ok (.getfield 55, 3) := by decide +kernel
theorem d_TD_stepBack_43 : decode c_TD_stepBack 43 = .ok (.aload_n 0, 1) := by decide +kernel
theorem d_TD_stepBack_44 : decode c_TD_stepBack 44 = .ok (.getfield 41, 3) := by decide +kernel
theorem d_TD_stepBack_47 : decode c_TD_stepBack 47 = .ok (.getfield 194, 3) := by decide +kernel
theorem d_TD_stepBack_50 : decode c_TD_stepBack 50 = .ok (.aload_n 0, 1) := by decide +kernel
theorem d_TD_stepBack_51 : decode c_TD_stepBack 51 = .ok (.getfield 80, 3) := by decide +kernel
theorem d_TD_stepBack_54 : decode c_TD_stepBack 54 = .ok (.aaload, 1) := by decide +kernel
theorem d_TD_stepBack_55 : decode c_TD_stepBack 55 = .ok (.invokevirtual 217, 3) := by decide +kernel
theorem d_TD_stepBack_58 : decode c_TD_stepBack 58 = .ok (.aload_n 0, 1) := by decide +kernel
theorem d_TD_stepBack_59 : decode c_TD_stepBack 59 = .ok (.getfield 80, 3) := by decide +kernel
theorem d_TD_stepBack_62 : decode c_TD_stepBack 62 = .ok (.ireturn, 1) := by decide +kernel
theorem d_TD_workingChild_0 : decode c_TD_workingChild 0 = .ok (.iload_n 1, 1) := by decide +kernel
theorem d_TD_workingChild_1 : decode c_TD_workingChild 1 = .ok (.iconst (-1), 1) := by decide +kernel
theorem d_TD_workingChild_2 : decode c_TD_workingChild 2 = .ok (.if_icmp .ne 8, 3) := by decide +kernel
theorem d_TD_workingChild_5 : decode c_TD_workingChild 5 = .ok (.bipush 48, 2) := by decide +kernel
theorem d_TD_workingChild_7 : decode c_TD_workingChild 7 = .ok (.goto 7, 3) := by decide +kernel
theorem d_TD_workingChild_10 : decode c_TD_workingChild 10 = .ok (.iload_n 1, 1) := by decide +kernel
theorem d_TD_workingChild_11 : decode c_TD_workingChild 11 = .ok (.invokestatic 220, 3) := by decide +kernel
theorem d_TD_workingChild_14 : decode c_TD_workingChild 14 = .ok (.istore_n 3, 1) := by decide +kernel
theorem d_TD_workingChild_15 : decode c_TD_workingChild 15 = .ok (.iload_n 3, 1) := by decide +kernel
theorem d_TD_workingChild_16 : decode c_TD_workingChild 16 = .ok (.bipush 48, 2) := by decide +kernel
theorem d_TD_workingChild_18 : decode c_TD_workingChild 18 = .ok (.if_icmp .eq 17, 3) := by decide +kernel
theorem d_TD_workingChild_21 : decode c_TD_workingChild 21 = .ok (.aload_n 0, 1) := by decide +kernel
theorem d_TD_workingChild_22 : decode c_TD_workingChild 22 = .ok (.getfield 55, 3) := by decide +kernel
theorem d_TD_workingChild_25 : decode c_TD_workingChild 25 = .ok (.iload_n 3, 1) := by decide +kernel
theorem d_TD_workingChild_26 : decode c_TD_workingChild 26 = .ok (.invokevirtual 223, 3) := by decide +kernel
theorem d_TD_workingChild_29 : decode c_TD_workingChild 29 = .ok (.ifCond .ne 6, 3) := by decide +kernel
theorem d_TD_workingChild_32 : decode c_TD_workingChild 32 = .ok (.bipush (-11), 2) := by decide +kernel
theorem d_TD_workingChild_34 : decode c_TD_workingChild 34 = .ok (.ireturn, 1) := by decide +kernel
theorem d_TD_workingChild_35 : decode c_TD_workingChild 35 = .ok (.aload_n 0, 1) := by decide +kernel
theorem d_TD_workingChild_36 : decode c_TD_workingChild 36 = .ok (.getfield 55, 3) := by decide +kernel
theorem d_TD_workingChild_39 : decode c_TD_workingChild 39 = .ok (.iload_n 3, 1) := by decide +kernel
theorem d_TD_workingChild_40 : decode c_TD_workingChild 40 = .ok (.iload_n 2, 1) := by decide +kernel
theorem d_TD_workingChild_41 : decode c_TD_workingChild 41 = .ok (.invokevirtual 226, 3) := by decide +kernel
theorem d_TD_workingChild_44 : decode c_TD_workingChild 44 = .ok (.istore 4, 2) := by decide +kernel
theorem d_TD_workingChild_46 : decode c_TD_workingChild 46 = .ok (.iload 4, 2) := by decide +kernel
theorem d_TD_workingChild_48 : decode c_TD_workingChild 48 = .ok (.iconst (-1), 1) := by decide +kernel
theorem d_TD_workingChild_49 : decode c_TD_workingChild 49 = .ok (.if_icmp .ne 8, 3) := by decide +kernel
theorem d_TD_workingChild_52 : decode c_TD_workingChild 52 = .ok (.bipush (-15), 2) := by decide +kernel
theorem d_TD_workingChild_54 : decode c_TD_workingChild 54 = .ok (.goto 8, 3) := by decide +kernel
theorem d_TD_workingChild_57 : decode c_TD_workingChild 57 = .ok (.iload 4, 2) := by decide +kernel
theorem d_TD_workingChild_59 : decode c_TD_workingChild 59 = .ok (.invokestatic 227, 3) := by decide +kernel
theorem d_TD_workingChild_62 : decode c_TD_workingChild 62 = .ok (.ireturn, 1) := by decide +kernel
theorem d_TD_workingNode_0 : decode c_TD_workingNode 0 = .ok (.iload_n 1, 1) := by decide +kernel
theorem d_TD_workingNode_1 : decode c_TD_workingNode 1 = .ok (.invokestatic 220, 3) := by decide +kernel
theorem d_TD_workingNode_4 : decode c_TD_workingNode 4 = .ok (.istore_n 3, 1) := by decide +kernel
theorem d_TD_workingNode_5 : decode c_TD_workingNode 5 = .ok (.aload_n 0, 1) := by decide +kernel
theorem d_TD_workingNode_6 : decode c_TD_workingNode 6 = .ok (.getfield 55, 3) := by decide +kernel
theorem d_TD_workingNode_9 : decode c_TD_workingNode 9 = .ok (.iload_n 3, 1) := by decide +kernel
theorem d_TD_workingNode_10 : decode c_TD_workingNode 10 = .ok (.invokevirtual 223, 3) := by decide +kernel
theorem d_TD_workingNode_13 : decode c_TD_workingNode 13 = .ok (.ifCond .ne 6, 3) := by decide +kernel
theorem d_TD_workingNode_16 : decode c_TD_workingNode 16 = .ok (.bipush (-11), 2) := by decide +kernel
theorem d_TD_workingNode_18 : decode c_TD_workingNode 18 = .ok (.ireturn, 1) := by decide +kernel
theorem d_TD_workingNode_19 : decode c_TD_workingNode 19 = .ok (.iload_n 2, 1) := by decide +kernel
theorem d_TD_workingNode_20 : decode c_TD_workingNode 20 = .ok (.tableswitch 61 0 2 #[28, 38, 48], 28) := by decide +kernel
theorem d_TD_workingNode_48 : decode c_TD_workingNode 48 = .ok (.aload_n 0, 1) := by decide +kernel
theorem d_TD_workingNode_49 : decode c_TD_workingNode 49 = .ok (.getfield 55, 3) := by decide +kernel
theorem d_TD_workingNode_52 : decode c_TD_workingNode 52 = .ok (.getfield 230, 3) := by decide +kernel
theorem d_TD_workingNode_55 : decode c_TD_workingNode 55 = .ok (.iload_n 3, 1) := by decide +kernel
theorem d_TD_workingNode_56 : decode c_TD_workingNode 56 = .ok (.iaload, 1) := by decide +kernel
theorem d_TD_workingNode_57 : decode c_TD_workingNode 57 = .ok (.ireturn, 1) := by decide +kernel
theorem d_TD_workingNode_58 : decode c_TD_workingNode 58 = .ok (.aload_n 0, 1) := by decide +kernel
theorem d_TD_workingNode_59 : decode c_TD_workingNode 59 = .ok (.getfield 55, 3) := by decide +kernel
theorem d_TD_workingNode_62 : decode c_TD_workingNode 62 = .ok (.getfield 231, 3) := by decide +kernel
theorem d_TD_workingNode_65 : decode c_TD_workingNode 65 = .ok (.iload_n 3, 1) := by decide +kernel
theorem d_TD_workingNode_66 : decode c_TD_workingNode 66 = .ok (.iaload, 1) := by decide +kernel
theorem d_TD_workingNode_67 : decode c_TD_workingNode 67 = .ok (.ireturn, 1) := by decide +kernel
theorem d_TD_workingNode_68 : decode c_TD_workingNode 68 = .ok (.aload_n 0, 1) := by decide +kernel
theorem d_TD_workingNode_69 : decode c_TD_workingNode 69 = .ok (.getfield 55, 3) := by decide +kernel
theorem d_TD_workingNode_72 : decode c_TD_workingNode 72 = .ok (.getfield 232, 3) := by decide +kernel
theorem d_TD_workingNode_75 : decode c_TD_workingNode 75 = .ok (.iload_n 3, 1) := by decide +kernel
theorem d_TD_workingNode_76 : decode c_TD_workingNode 76 = .ok (.iaload, 1) := by decide +kernel
theorem d_TD_workingNode_77 : decode c_TD_workingNode 77 = .ok (.invokestatic 227, 3) := by decide +kernel
theorem d_TD_workingNode_80 : decode c_TD_workingNode 80 = .ok (.ireturn, 1) := by decide +kernel
theorem d_TD_workingNode_81 : decode c_TD_workingNode 81 = .ok (.bipush (-12), 2) := by decide +kernel
theorem d_TD_workingNode_83 : decode c_TD_workingNode 83 = .ok (.ireturn, 1) := by decide +kernel
theorem d_TD_print_0 : decode c_TD_print 0 = .ok (.iload_n 1, 1) := by decide +kernel
theorem d_TD_print_1 : decode c_TD_print 1 = .ok (.iconst 2, 1) := by decide +kernel
theorem d_TD_print_2 : decode c_TD_print 2 = .ok (.if_icmp .ne 22, 3) := by decide +kernel
theorem d_TD_print_5 : decode c_TD_print 5 = .ok (.aload_n 0, 1) := by decide +kernel
theorem d_TD_print_6 : decode c_TD_print 6 = .ok (.getfield 65, 3) := by decide +kernel
theorem d_TD_print_9 : decode c_TD_print 9 = .ok (.aload_n 0, 1) := by decide +kernel
theorem d_TD_print_10 : decode c_TD_print 10 = .ok (.getfield 55, 3) := by decide +kernel
theorem d_TD_print_13 : decode c_TD_print 13 = .ok (.invokevirtual 233, 3) := by decide +kernel
theorem d_TD_print_16 : decode c_TD_print 16 = .ok (.aload_n 0, 1) := by decide +kernel
theorem d_TD_print_17 : decode c_TD_print 17 = .ok (.getfield 65, 3) := by decide +kernel
theorem d_TD_print_20 : decode c_TD_print 20 = .ok (.getfield 237, 3) := by decide +kernel
theorem d_TD_print_23 : decode c_TD_print 23 = .ok (.ireturn, 1) := by decide +kernel
theorem d_TD_print_24 : decode c_TD_print 24 = .ok (.iload_n 1, 1) := by decide +kernel
theorem d_TD_print_25 : decode c_TD_print 25 = .ok (.invokestatic 105, 3) := by decide +kernel
theorem d_TD_print_28 : decode c_TD_print 28 = .ok (.ifCond .ne 6, 3) := by decide +kernel
theorem d_TD_print_31 : decode c_TD_print 31 = .ok (.bipush (-11), 2) := by decide +kernel
theorem d_TD_print_33 : decode c_TD_print 33 = .ok (.ireturn, 1) := by decide +kernel
theorem d_TD_print_34 : decode c_TD_print 34 = .ok (.aload_n 0, 1) := by decide +kernel
theorem d_TD_print_35 : decode c_TD_print 35 = .ok (.getfield 59, 3) := by decide +kernel
theorem d_TD_print_38 : decode c_TD_print 38 = .ok (.aload_n 0, 1) := by decide +kernel
theorem d_TD_print_39 : decode c_TD_print 39 = .ok (.getfield 19, 3) := by decide +kernel
theorem d_TD_print_42 : decode c_TD_print 42 = .ok (.iload_n 1, 1) := by decide +kernel
theorem d_TD_print_43 : decode c_TD_print 43 = .ok (.invokevirtual 108, 3) := by decide +kernel
theorem d_TD_print_46 : decode c_TD_print 46 = .ok (.invokevirtual 87, 3) := by decide +kernel
theorem d_TD_print_49 : decode c_TD_print 49 = .ok (.aload_n 0, 1) := by decide +kernel
theorem d_TD_print_50 : decode c_TD_print 50 = .ok (.getfield 65, 3) := by decide +kernel
theorem d_TD_print_53 : decode c_TD_print 53 = .ok (.aload_n 0, 1) := by decide +kernel
theorem d_TD_print_54 : decode c_TD_print 54 = .ok (.getfield 59, 3) := by decide +kernel
theorem d_TD_print_57 : decode c_TD_print 57 = .ok (.invokevirtual 233, 3) := by decide +kernel
theorem d_TD_print_60 : decode c_TD_print 60 = .ok (.aload_n 0, 1) := by decide +kernel
theorem d_TD_print_61 : decode c_TD_print 61 = .ok (.getfield 65, 3) := by decide +kernel
theorem d_TD_print_64 : decode c_TD_print 64 = .ok (.getfield 237, 3) := by decide +kernel
theorem d_TD_print_67 : decode c_TD_print 67 = .ok (.ireturn, 1) := by decide +kernel
theorem d_TD_printed_0 : decode c_TD_printed 0 = .ok (.iload_n 1, 1) := by decide +kernel
theorem d_TD_printed_1 : decode c_TD_printed 1 = .ok (.ifCond .lt 14, 3) := by decide +kernel
theorem d_TD_printed_4 : decode c_TD_printed 4 = .ok (.iload_n 1, 1) := by decide +kernel
theorem d_TD_printed_5 : decode c_TD_printed 5 = .ok (.aload_n 0, 1) := by decide +kernel
theorem d_TD_printed_6 : decode c_TD_printed 6 = .ok (.getfield 65, 3) := by decide +kernel
theorem d_TD_printed_9 : decode c_TD_printed 9 = .ok (.getfield 237, 3) := by decide +kernel
theorem d_TD_printed_12 : decode c_TD_printed 12 = .ok (.if_icmp .lt 8, 3) := by decide +kernel
theorem d_TD_printed_15 : decode c_TD_printed 15 = .ok (.bipush (-11), 2) := by decide +kernel
theorem d_TD_printed_17 : decode c_TD_printed 17 = .ok (.goto 12, 3) := by decide +kernel
theorem d_TD_printed_20 : decode c_TD_printed 20 = .ok (.aload_n 0, 1) := by decide +kernel
theorem d_TD_printed_21 : decode c_TD_printed 21 = .ok (.getfield 65, 3) := by decide +kernel
theorem d_TD_printed_24 : decode c_TD_printed 24 = .ok (.getfield 238, 3) := by decide +kernel
theorem d_TD_printed_27 : decode c_TD_printed 27 = .ok (.iload_n 1, 1) := by decide +kernel
theorem d_TD_printed_28 : decode c_TD_printed 28 = .ok (.iaload, 1) := by decide +kernel
theorem d_TD_printed_29 : decode c_TD_printed 29 = .ok (.ireturn, 1) := by decide +kernel
theorem d_TD_save_0 : decode c_TD_save 0 = .ok (.iload_n 1, 1) := by decide +kernel
theorem d_TD_save_1 : decode c_TD_save 1 = .ok (.invokestatic 241, 3) := by decide +kernel
theorem d_TD_save_4 : decode c_TD_save 4 = .ok (.ifCond .ne 6, 3) := by decide +kernel
theorem d_TD_save_7 : decode c_TD_save 7 = .ok (.bipush (-11), 2) := by decide +kernel
theorem d_TD_save_9 : decode c_TD_save 9 = .ok (.ireturn, 1) := by decide +kernel
theorem d_TD_save_10 : decode c_TD_save 10 = .ok (.aload_n 0, 1) := by decide +kernel
theorem d_TD_save_11 : decode c_TD_save 11 = .ok (.getfield 23, 3) := by decide +kernel
theorem d_TD_save_14 : decode c_TD_save 14 = .ok (.iload_n 1, 1) := by decide +kernel
theorem d_TD_save_15 : decode c_TD_save 15 = .ok (.aaload, 1) := by decide +kernel
theorem d_TD_save_16 : decode c_TD_save 16 = .ok (.aload_n 0, 1) := by decide +kernel
theorem d_TD_save_17 : decode c_TD_save 17 = .ok (.getfield 19, 3) := by decide +kernel
theorem d_TD_save_20 : decode c_TD_save 20 = .ok (.invokevirtual 244, 3) := by decide +kernel
theorem d_TD_save_23 : decode c_TD_save 23 = .ok (.aload_n 0, 1) := by decide +kernel
theorem d_TD_save_24 : decode c_TD_save 24 = .ok (.getfield 27, 3) := by decide +kernel
theorem d_TD_save_27 : decode c_TD_save 27 = .ok (.iload_n 1, 1) := by decide +kernel
theorem d_TD_save_28 : decode c_TD_save 28 = .ok (.iconst 1, 1) := by decide +kernel
theorem d_TD_save_29 : decode c_TD_save 29 = .ok (.bastore, 1) := by decide +kernel
theorem d_TD_save_30 : decode c_TD_save 30 = .ok (.aload_n 0, 1) := by decide +kernel
theorem d_TD_save_31 : decode c_TD_save 31 = .ok (.getfield 19, 3) := by decide +kernel
theorem d_TD_save_34 : decode c_TD_save 34 = .ok (.getfield 83, 3) := by decide +kernel
theorem d_TD_save_37 : decode c_TD_save 37 = .ok (.getfield 126, 3) := by decide +kernel
theorem d_TD_save_40 : decode c_TD_save 40 = .ok (.ireturn, 1) := by decide +kernel
theorem d_TD_restore_0 : decode c_TD_restore 0 = .ok (.iload_n 1, 1) := by decide +kernel
theorem d_TD_restore_1 : decode c_TD_restore 1 = .ok (.invokestatic 241, 3) := by decide +kernel
theorem d_TD_restore_4 : decode c_TD_restore 4 = .ok (.ifCond .ne 6, 3) := by decide +kernel
theorem d_TD_restore_7 : decode c_TD_restore 7 = .ok (.bipush (-11), 2) := by decide +kernel
theorem d_TD_restore_9 : decode c_TD_restore 9 = .ok (.ireturn, 1) := by decide +kernel
theorem d_TD_restore_10 : decode c_TD_restore 10 = .ok (.aload_n 0, 1) := by decide +kernel
theorem d_TD_restore_11 : decode c_TD_restore 11 = .ok (.getfield 27, 3) := by decide +kernel
theorem d_TD_restore_14 : decode c_TD_restore 14 = .ok (.iload_n 1, 1) := by decide +kernel
theorem d_TD_restore_15 : decode c_TD_restore 15 = .ok (.baload, 1) := by decide +kernel
theorem d_TD_restore_16 : decode c_TD_restore 16 = .ok (.ifCond .ne 6, 3) := by decide +kernel
theorem d_TD_restore_19 : decode c_TD_restore 19 = .ok (.bipush (-13), 2) := by decide +kernel
theorem d_TD_restore_21 : decode c_TD_restore 21 = .ok (.ireturn, 1) := by decide +kernel
theorem d_TD_restore_22 : decode c_TD_restore 22 = .ok (.aload_n 0, 1) := by decide +kernel
theorem d_TD_restore_23 : decode c_TD_restore 23 = .ok (.getfield 19, 3) := by decide +kernel
theorem d_TD_restore_26 : decode c_TD_restore 26 = .ok (.aload_n 0, 1) := by decide +kernel
theorem d_TD_restore_27 : decode c_TD_restore 27 = .ok (.getfield 23, 3) := by decide +kernel
theorem d_TD_restore_30 : decode c_TD_restore 30 = .ok (.iload_n 1, 1) := by decide +kernel
theorem d_TD_restore_31 : decode c_TD_restore 31 = .ok (.aaload, 1) := by decide +kernel
theorem d_TD_restore_32 : decode c_TD_restore 32 = .ok (.invokevirtual 244, 3) := by decide +kernel
theorem d_TD_restore_35 : decode c_TD_restore 35 = .ok (.aload_n 0, 1) := by decide +kernel
theorem d_TD_restore_36 : decode c_TD_restore 36 = .ok (.invokevirtual 123, 3) := by decide +kernel
theorem d_TD_restore_39 : decode c_TD_restore 39 = .ok (.aload_n 0, 1) := by decide +kernel
theorem d_TD_restore_40 : decode c_TD_restore 40 = .ok (.getfield 19, 3) := by decide +kernel
theorem d_TD_restore_43 : decode c_TD_restore 43 = .ok (.getfield 83, 3) := by decide +kernel
theorem d_TD_restore_46 : decode c_TD_restore 46 = .ok (.getfield 126, 3) := by decide +kernel
theorem d_TD_restore_49 : decode c_TD_restore 49 = .ok (.ireturn, 1) := by decide +kernel
theorem d_TD_checksum_0 : decode c_TD_checksum 0 = .ok (.aload_n 0, 1) := by decide +kernel
theorem d_TD_checksum_1 : decode c_TD_checksum 1 = .ok (.invokevirtual 167, 3) := by decide +kernel
theorem d_TD_checksum_4 : decode c_TD_checksum 4 = .ok (.ldc2_w 247, 3) := by decide +kernel
theorem d_TD_checksum_7 : decode c_TD_checksum 7 = .ok (.lstore_n 1, 1) := by decide +kernel
theorem d_TD_checksum_8 : decode c_TD_checksum 8 = .ok (.ldc2_w 249, 3) := by decide +kernel
theorem d_TD_checksum_11 : decode c_TD_checksum 11 = .ok (.lload_n 1, 1) := by decide +kernel
theorem d_TD_checksum_12 : decode c_TD_checksum 12 = .ok (.lmul, 1) := by decide +kernel
theorem d_TD_checksum_13 : decode c_TD_checksum 13 = .ok (.aload_n 0, 1) := by decide +kernel
theorem d_TD_checksum_14 : decode c_TD_checksum 14 = .ok (.getfield 19, 3) := by decide +kernel
theorem d_TD_checksum_17 : decode c_TD_checksum 17 = .ok (.getfield 83, 3) := by decide +kernel
theorem d_TD_checksum_20 : decode c_TD_checksum 20 = .ok (.getfield 126, 3) := by decide +kernel
theorem d_TD_checksum_23 : decode c_TD_checksum 23 = .ok (.i2l, 1) := by decide +kernel
theorem d_TD_checksum_24 : decode c_TD_checksum 24 = .ok (.ladd, 1) := by decide +kernel
theorem d_TD_checksum_25 : decode c_TD_checksum 25 = .ok (.lstore_n 1, 1) := by decide +kernel
theorem d_TD_checksum_26 : decode c_TD_checksum 26 = .ok (.ldc2_w 249, 3) := by decide +kernel
theorem d_TD_checksum_29 : decode c_TD_checksum 29 = .ok (.lload_n 1, 1) := by decide +kernel
theorem d_TD_checksum_30 : decode c_TD_checksum 30 = .ok (.lmul, 1) := by decide +kernel
theorem d_TD_checksum_31 : decode c_TD_checksum 31 = .ok (.aload_n 0, 1) := by decide +kernel
theorem d_TD_checksum_32 : decode c_TD_checksum 32 = .ok (.getfield 19, 3) := by decide +kernel
theorem d_TD_checksum_35 : decode c_TD_checksum 35 = .ok (.getfield 186, 3) := by decide +kernel
theorem d_TD_checksum_38 : decode c_TD_checksum 38 = .ok (.getfield 126, 3) := by decide +kernel
theorem d_TD_checksum_41 : decode c_TD_checksum 41 = .ok (.i2l, 1) := by decide +kernel
theorem d_TD_checksum_42 : decode c_TD_checksum 42 = .ok (.ladd, 1) := by decide +kernel
theorem d_TD_checksum_43 : decode c_TD_checksum 43 = .ok (.lstore_n 1, 1) := by decide +kernel
theorem d_TD_checksum_44 : decode c_TD_checksum 44 = .ok (.iconst 0, 1) := by decide +kernel
theorem d_TD_checksum_45 : decode c_TD_checksum 45 = .ok (.istore_n 3, 1) := by decide +kernel
theorem d_TD_checksum_46 : decode c_TD_checksum 46 = .ok (.iload_n 3, 1) := by decide +kernel
theorem d_TD_checksum_47 : decode c_TD_checksum 47 = .ok (.aload_n 0, 1) := by decide +kernel
theorem d_TD_checksum_48 : decode c_TD_checksum 48 = .ok (.getfield 19, 3) := by decide +kernel
theorem d_TD_checksum_51 : decode c_TD_checksum 51 = .ok (.getfield 83, 3) := by decide +kernel
theorem d_TD_checksum_54 : decode c_TD_checksum 54 = .ok (.getfield 126, 3) := by decide +kernel
theorem d_TD_checksum_57 : decode c_TD_checksum 57 = .ok (.if_icmp .ge 49, 3) := by decide +kernel
theorem d_TD_checksum_60 : decode c_TD_checksum 60 = .ok (.ldc2_w 249, 3) := by decide +kernel
theorem d_TD_checksum_63 : decode c_TD_checksum 63 = .ok (.lload_n 1, 1) := by decide +kernel
theorem d_TD_checksum_64 : decode c_TD_checksum 64 = .ok (.lmul, 1) := by decide +kernel
theorem d_TD_checksum_65 : decode c_TD_checksum 65 = .ok (.aload_n 0, 1) := by decide +kernel
theorem d_TD_checksum_66 : decode c_TD_checksum 66 = .ok (.getfield 34, 3) := by decide +kernel
theorem d_TD_checksum_69 : decode c_TD_checksum 69 = .ok (.getfield 173, 3) := by decide +kernel
theorem d_TD_checksum_72 : decode c_TD_checksum 72 = .ok (.iload_n 3, 1) := by decide +kernel
theorem d_TD_checksum_73 : decode c_TD_checksum 73 = .ok (.iaload, 1) := by decide +kernel
theorem d_TD_checksum_74 : decode c_TD_checksum 74 = .ok (.invokestatic 179, 3) := by decide +kernel
theorem d_TD_checksum_77 : decode c_TD_checksum 77 = .ok (.i2l, 1) := by decide +kernel
theorem d_TD_checksum_78 : decode c_TD_checksum 78 = .ok (.ladd, 1) := by decide +kernel
theorem d_TD_checksum_79 : decode c_TD_checksum 79 = .ok (.lstore_n 1, 1) := by decide +kernel
theorem d_TD_checksum_80 : decode c_TD_checksum 80 = .ok (.ldc2_w 249, 3) := by decide +kernel
theorem d_TD_checksum_83 : decode c_TD_checksum 83 = .ok (.lload_n 1, 1) := by decide +kernel
theorem d_TD_checksum_84 : decode c_TD_checksum 84 = .ok (.lmul, 1) := by decide +kernel
theorem d_TD_checksum_85 : decode c_TD_checksum 85 = .ok (.aload_n 0, 1) := by decide +kernel
theorem d_TD_checksum_86 : decode c_TD_checksum 86 = .ok (.getfield 34, 3) := by decide +kernel
theorem d_TD_checksum_89 : decode c_TD_checksum 89 = .ok (.getfield 183, 3) := by decide +kernel
theorem d_TD_checksum_92 : decode c_TD_checksum 92 = .ok (.iload_n 3, 1) := by decide +kernel
theorem d_TD_checksum_93 : decode c_TD_checksum 93 = .ok (.iaload, 1) := by decide +kernel
theorem d_TD_checksum_94 : decode c_TD_checksum 94 = .ok (.invokestatic 179, 3) := by decide +kernel
theorem d_TD_checksum_97 : decode c_TD_checksum 97 = .ok (.i2l, 1) := by decide +kernel
theorem d_TD_checksum_98 : decode c_TD_checksum 98 = .ok (.ladd, 1) := by decide +kernel
theorem d_TD_checksum_99 : decode c_TD_checksum 99 = .ok (.lstore_n 1, 1) := by decide +kernel
theorem d_TD_checksum_100 : decode c_TD_checksum 100 = .ok (.iinc 3 1, 3) := by decide +kernel
theorem d_TD_checksum_103 : decode c_TD_checksum 103 = .ok (.goto (-57), 3) := by decide +kernel
theorem d_TD_checksum_106 : decode c_TD_checksum 106 = .ok (.ldc2_w 249, 3) := by decide +kernel
theorem d_TD_checksum_109 : decode c_TD_checksum 109 = .ok (.lload_n 1, 1) := by decide +kernel
theorem d_TD_checksum_110 : decode c_TD_checksum 110 = .ok (.lmul, 1) := by decide +kernel
theorem d_TD_checksum_111 : decode c_TD_checksum 111 = .ok (.aload_n 0, 1) := by decide +kernel
theorem d_TD_checksum_112 : decode c_TD_checksum 112 = .ok (.getfield 41, 3) := by decide +kernel
theorem d_TD_checksum_115 : decode c_TD_checksum 115 = .ok (.getfield 193, 3) := by decide +kernel
theorem d_TD_checksum_118 : decode c_TD_checksum 118 = .ok (.i2l, 1) := by decide +kernel
theorem d_TD_checksum_119 : decode c_TD_checksum 119 = .ok (.ladd, 1) := by decide +kernel
theorem d_TD_checksum_120 : decode c_TD_checksum 120 = .ok (.lstore_n 1, 1) := by decide +kernel
theorem d_TD_checksum_121 : decode c_TD_checksum 121 = .ok (.iconst 0, 1) := by decide +kernel
theorem d_TD_checksum_122 : decode c_TD_checksum 122 = .ok (.istore_n 3, 1) := by decide +kernel
theorem d_TD_checksum_123 : decode c_TD_checksum 123 = .ok (.iload_n 3, 1) := by decide +kernel
theorem d_TD_checksum_124 : decode c_TD_checksum 124 = .ok (.aload_n 0, 1) := by decide +kernel
theorem d_TD_checksum_125 : decode c_TD_checksum 125 = .ok (.getfield 41, 3) := by decide +kernel
theorem d_TD_checksum_128 : decode c_TD_checksum 128 = .ok (.getfield 193, 3) := by decide +kernel
theorem d_TD_checksum_131 : decode c_TD_checksum 131 = .ok (.if_icmp .ge 46, 3) := by decide +kernel
theorem d_TD_checksum_134 : decode c_TD_checksum 134 = .ok (.iconst 0, 1) := by decide +kernel
theorem d_TD_checksum_135 : decode c_TD_checksum 135 = .ok (.istore 4, 2) := by decide +kernel
theorem d_TD_checksum_137 : decode c_TD_checksum 137 = .ok (.iload 4, 2) := by decide +kernel
theorem d_TD_checksum_139 : decode c_TD_checksum 139 = .ok (.iconst 5, 1) := by decide +kernel
theorem d_TD_checksum_140 : decode c_TD_checksum 140 = .ok (.if_icmp .gt 31, 3) := by decide +kernel
theorem d_TD_checksum_143 : decode c_TD_checksum 143 = .ok (.ldc2_w 249, 3) := by decide +kernel
theorem d_TD_checksum_146 : decode c_TD_checksum 146 = .ok (.lload_n 1, 1) := by decide +kernel
theorem d_TD_checksum_147 : decode c_TD_checksum 147 = .ok (.lmul, 1) := by decide +kernel
theorem d_TD_checksum_148 : decode c_TD_checksum 148 = .ok (.aload_n 0, 1) := by decide +kernel
theorem d_TD_checksum_149 : decode c_TD_checksum 149 = .ok (.getfield 41, 3) := by decide +kernel
theorem d_TD_checksum_152 : decode c_TD_checksum 152 = .ok (.getfield 194, 3) := by decide +kernel
theorem d_TD_checksum_155 : decode c_TD_checksum 155 = .ok (.iload_n 3, 1) := by decide +kernel
theorem d_TD_checksum_156 : decode c_TD_checksum 156 = .ok (.aaload, 1) := by decide +kernel
theorem d_TD_checksum_157 : decode c_TD_checksum 157 = .ok (.iload 4, 2) := by decide +kernel
theorem d_TD_checksum_159 : decode c_TD_checksum 159 = .ok (.invokevirtual 198, 3) := by decide +kernel
theorem d_TD_checksum_162 : decode c_TD_checksum 162 = .ok (.i2l, 1) := by decide +kernel
theorem d_TD_checksum_163 : decode c_TD_checksum 163 = .ok (.ladd, 1) := by decide +kernel
theorem d_TD_checksum_164 : decode c_TD_checksum 164 = .ok (.lstore_n 1, 1) := by decide +kernel
theorem d_TD_checksum_165 : decode c_TD_checksum 165 = .ok (.iinc 4 1, 3) := by decide +kernel
theorem d_TD_checksum_168 : decode c_TD_checksum 168 = .ok (.goto (-31), 3) := by decide +kernel
theorem d_TD_checksum_171 : decode c_TD_checksum 171 = .ok (.iinc 3 1, 3) := by decide +kernel
theorem d_TD_checksum_174 : decode c_TD_checksum 174 = .ok (.goto (-51), 3) := by decide +kernel
theorem d_TD_checksum_177 : decode c_TD_checksum 177 = .ok (.ldc2_w 249, 3) := by decide +kernel
theorem d_TD_checksum_180 : decode c_TD_checksum 180 = .ok (.lload_n 1, 1) := by decide +kernel
theorem d_TD_checksum_181 : decode c_TD_checksum 181 = .ok (.lmul, 1) := by decide +kernel
theorem d_TD_checksum_182 : decode c_TD_checksum 182 = .ok (.aload_n 0, 1) := by decide +kernel
theorem d_TD_checksum_183 : decode c_TD_checksum 183 = .ok (.invokevirtual 251, 3) := by decide +kernel
theorem d_TD_checksum_186 : decode c_TD_checksum 186 = .ok (.i2l, 1) := by decide +kernel
theorem d_TD_checksum_187 : decode c_TD_checksum 187 = .ok (.ladd, 1) := by decide +kernel
theorem d_TD_checksum_188 : decode c_TD_checksum 188 = .ok (.lstore_n 1, 1) := by decide +kernel
theorem d_TD_checksum_189 : decode c_TD_checksum 189 = .ok (.aload_n 0, 1) := by decide +kernel
theorem d_TD_checksum_190 : decode c_TD_checksum 190 = .ok (.getfield 69, 3) := by decide +kernel
theorem d_TD_checksum_193 : decode c_TD_checksum 193 = .ok (.aload_n 0, 1) := by decide +kernel
theorem d_TD_checksum_194 : decode c_TD_checksum 194 = .ok (.getfield 55, 3) := by decide +kernel
theorem d_TD_checksum_197 : decode c_TD_checksum 197 = .ok (.invokevirtual 233, 3) := by decide +kernel
theorem d_TD_checksum_200 : decode c_TD_checksum 200 = .ok (.ldc2_w 249, 3) := by decide +kernel
theorem d_TD_checksum_203 : decode c_TD_checksum 203 = .ok (.lload_n 1, 1) := by decide +kernel
theorem d_TD_checksum_204 : decode c_TD_checksum 204 = .ok (.lmul, 1) := by decide +kernel
theorem d_TD_checksum_205 : decode c_TD_checksum 205 = .ok (.aload_n 0, 1) := by decide +kernel
theorem d_TD_checksum_206 : decode c_TD_checksum 206 = .ok (.getfield 69, 3) := by decide +kernel
theorem d_TD_checksum_209 : decode c_TD_checksum 209 = .ok (.getfield 237, 3) := by decide +kernel
theorem d_TD_checksum_212 : decode c_TD_checksum 212 = .ok (.i2l, 1) := by decide +kernel
theorem d_TD_checksum_213 : decode c_TD_checksum 213 = .ok (.ladd, 1) := by decide +kernel
theorem d_TD_checksum_214 : decode c_TD_checksum 214 = .ok (.lstore_n 1, 1) := by decide +kernel
theorem d_TD_checksum_215 : decode c_TD_checksum 215 = .ok (.iconst 0, 1) := by decide +kernel
theorem d_TD_checksum_216 : decode c_TD_checksum 216 = .ok (.istore_n 3, 1) := by decide +kernel
theorem d_TD_checksum_217 : decode c_TD_checksum 217 = .ok (.iload_n 3, 1) := by decide +kernel
theorem d_TD_checksum_218 : decode c_TD_checksum 218 = .ok (.aload_n 0, 1) := by decide +kernel
theorem d_TD_checksum_219 : decode c_TD_checksum 219 = .ok (.getfield 69, 3) := by decide +kernel
theorem d_TD_checksum_222 : decode c_TD_checksum 222 = .ok (.getfield 237, 3) := by decide +kernel
theorem d_TD_checksum_225 : decode c_TD_checksum 225 = .ok (.if_icmp .ge 26, 3) := by decide +kernel
theorem d_TD_checksum_228 : decode c_TD_checksum 228 = .ok (.ldc2_w 249, 3) := by decide +kernel
theorem d_TD_checksum_231 : decode c_TD_checksum 231 = .ok (.lload_n 1, 1) := by decide +kernel
theorem d_TD_checksum_232 : decode c_TD_checksum 232 = .ok (.lmul, 1) := by decide +kernel
theorem d_TD_checksum_233 : decode c_TD_checksum 233 = .ok (.aload_n 0, 1) := by decide +kernel
theorem d_TD_checksum_234 : decode c_TD_checksum 234 = .ok (.getfield 69, 3) := by decide +kernel
theorem d_TD_checksum_237 : decode c_TD_checksum 237 = .ok (.getfield 238, 3) := by decide +kernel
theorem d_TD_checksum_240 : decode c_TD_checksum 240 = .ok (.iload_n 3, 1) := by decide +kernel
theorem d_TD_checksum_241 : decode c_TD_checksum 241 = .ok (.iaload, 1) := by decide +kernel
theorem d_TD_checksum_242 : decode c_TD_checksum 242 = .ok (.i2l, 1) := by decide +kernel
theorem d_TD_checksum_243 : decode c_TD_checksum 243 = .ok (.ladd, 1) := by decide +kernel
theorem d_TD_checksum_244 : decode c_TD_checksum 244 = .ok (.lstore_n 1, 1) := by decide +kernel
theorem d_TD_checksum_245 : decode c_TD_checksum 245 = .ok (.iinc 3 1, 3) := by decide +kernel
theorem d_TD_checksum_248 : decode c_TD_checksum 248 = .ok (.goto (-31), 3) := by decide +kernel
theorem d_TD_checksum_251 : decode c_TD_checksum 251 = .ok (.lload_n 1, 1) := by decide +kernel
theorem d_TD_checksum_252 : decode c_TD_checksum 252 = .ok (.lreturn, 1) := by decide +kernel
theorem d_TD_isTree_0 : decode c_TD_isTree 0 = .ok (.iload_n 0, 1) := by decide +kernel
theorem d_TD_isTree_1 : decode c_TD_isTree 1 = .ok (.ifCond .eq 8, 3) := by decide +kernel
theorem d_TD_isTree_4 : decode c_TD_isTree 4 = .ok (.iload_n 0, 1) := by decide +kernel
theorem d_TD_isTree_5 : decode c_TD_isTree 5 = .ok (.iconst 1, 1) := by decide +kernel
theorem d_TD_isTree_6 : decode c_TD_isTree 6 = .ok (.if_icmp .ne 7, 3) := by decide +kernel
theorem d_TD_isTree_9 : decode c_TD_isTree 9 = .ok (.iconst 1, 1) := by decide +kernel
theorem d_TD_isTree_10 : decode c_TD_isTree 10 = .ok (.goto 4, 3) := by decide +kernel
theorem d_TD_isTree_13 : decode c_TD_isTree 13 = .ok (.iconst 0, 1) := by decide +kernel
theorem d_TD_isTree_14 : decode c_TD_isTree 14 = .ok (.ireturn, 1) := by decide +kernel
theorem d_TD_isSlot_0 : decode c_TD_isSlot 0 = .ok (.iload_n 0, 1) := by decide +kernel
theorem d_TD_isSlot_1 : decode c_TD_isSlot 1 = .ok (.ifCond .lt 12, 3) := by decide +kernel
theorem d_TD_isSlot_4 : decode c_TD_isSlot 4 = .ok (.iload_n 0, 1) := by decide +kernel
theorem d_TD_isSlot_5 : decode c_TD_isSlot 5 = .ok (.iconst 2, 1) := by decide +kernel
theorem d_TD_isSlot_6 : decode c_TD_isSlot 6 = .ok (.if_icmp .ge 7, 3) := by decide +kernel
theorem d_TD_isSlot_9 : decode c_TD_isSlot 9 = .ok (.iconst 1, 1) := by decide +kernel
theorem d_TD_isSlot_10 : decode c_TD_isSlot 10 = .ok (.goto 4, 3) := by decide +kernel
theorem d_TD_isSlot_13 : decode c_TD_isSlot 13 = .ok (.iconst 0, 1) := by decide +kernel
theorem d_TD_isSlot_14 : decode c_TD_isSlot 14 = .ok (.ireturn, 1) := by decide +kernel
theorem d_TD_isNode_0 : decode c_TD_isNode 0 = .ok (.iload_n 1, 1) := by decide +kernel
theorem d_TD_isNode_1 : decode c_TD_isNode 1 = .ok (.invokestatic 105, 3) := by decide +kernel
theorem d_TD_isNode_4 : decode c_TD_isNode 4 = .ok (.ifCond .eq 26, 3) := by decide +kernel
theorem d_TD_isNode_7 : decode c_TD_isNode 7 = .ok (.iload_n 2, 1) := by decide +kernel
theorem d_TD_isNode_8 : decode c_TD_isNode 8 = .ok (.ifCond .lt 22, 3) := by decide +kernel
theorem d_TD_isNode_11 : decode c_TD_isNode 11 = .ok (.iload_n 2, 1) := by decide +kernel
theorem d_TD_isNode_12 : decode c_TD_isNode 12 = .ok (.aload_n 0, 1) := by decide +kernel
theorem d_TD_isNode_13 : decode c_TD_isNode 13 = .ok (.getfield 19, 3) := by decide +kernel
theorem d_TD_isNode_16 : decode c_TD_isNode 16 = .ok (.iload_n 1, 1) := by decide +kernel
theorem d_TD_isNode_17 : decode c_TD_isNode 17 = .ok (.invokevirtual 108, 3) := by decide +kernel
theorem d_TD_isNode_20 : decode c_TD_isNode 20 = .ok (.getfield 126, 3) := by decide +kernel
theorem d_TD_isNode_23 : decode c_TD_isNode 23 = .ok (.if_icmp .ge 7, 3) := by decide +kernel
theorem d_TD_isNode_26 : decode c_TD_isNode 26 = .ok (.iconst 1, 1) := by decide +kernel
theorem d_TD_isNode_27 : decode c_TD_isNode 27 = .ok (.goto 4, 3) := by decide +kernel
theorem d_TD_isNode_30 : decode c_TD_isNode 30 = .ok (.iconst 0, 1) := by decide +kernel
theorem d_TD_isNode_31 : decode c_TD_isNode 31 = .ok (.ireturn, 1) := by decide +kernel
theorem d_TD_orNone_0 : decode c_TD_orNone 0 = .ok (.iload_n 0, 1) := by decide +kernel
theorem d_TD_orNone_1 : decode c_TD_orNone 1 = .ok (.iconst (-1), 1) := by decide +kernel
theorem d_TD_orNone_2 : decode c_TD_orNone 2 = .ok (.if_icmp .ne 8, 3) := by decide +kernel
theorem d_TD_orNone_5 : decode c_TD_orNone 5 = .ok (.bipush (-15), 2) := by decide +kernel
theorem d_TD_orNone_7 : decode c_TD_orNone 7 = .ok (.goto 4, 3) := by decide +kernel
theorem d_TD_orNone_10 : decode c_TD_orNone 10 = .ok (.iload_n 0, 1) := by decide +kernel
theorem d_TD_orNone_11 : decode c_TD_orNone 11 = .ok (.ireturn, 1) := by decide +kernel
theorem d_TD_compare_0 : decode c_TD_compare 0 = .ok (.aload_n 0, 1) := by decide +kernel
theorem d_TD_compare_1 : decode c_TD_compare 1 = .ok (.getfield 72, 3) := by decide +kernel
theorem d_TD_compare_4 : decode c_TD_compare 4 = .ok (.ifCond .ne 34, 3) := by decide +kernel
theorem d_TD_compare_7 : decode c_TD_compare 7 = .ok (.aload_n 0, 1) := by decide +kernel
theorem d_TD_compare_8 : decode c_TD_compare 8 = .ok (.getfield 34, 3) := by decide +kernel
theorem d_TD_compare_11 : decode c_TD_compare 11 = .ok (.aload_n 0, 1) := by decide +kernel
theorem d_TD_compare_12 : decode c_TD_compare 12 = .ok (.getfield 19, 3) := by decide +kernel
theorem d_TD_compare_15 : decode c_TD_compare 15 = .ok (.invokevirtual 254, 3) := by decide +kernel
theorem d_TD_compare_18 : decode c_TD_compare 18 = .ok (.aload_n 0, 1) := by decide +kernel
theorem d_TD_compare_19 : decode c_TD_compare 19 = .ok (.getfield 41, 3) := by decide +kernel
theorem d_TD_compare_22 : decode c_TD_compare 22 = .ok (.aload_n 0, 1) := by decide +kernel
theorem d_TD_compare_23 : decode c_TD_compare 23 = .ok (.getfield 19, 3) := by decide +kernel
theorem d_TD_compare_26 : decode c_TD_compare 26 = .ok (.aload_n 0, 1) := by decide +kernel
theorem d_TD_compare_27 : decode c_TD_compare 27 = .ok (.getfield 34, 3) := by decide +kernel
theorem d_TD_compare_30 : decode c_TD_compare 30 = .ok (.invokevirtual 257, 3) := by decide +kernel
theorem d_TD_compare_33 : decode c_TD_compare 33 = .ok (.aload_n 0, 1) := by decide +kernel
theorem d_TD_compare_34 : decode c_TD_compare 34 = .ok (.iconst 1, 1) := by decide +kernel
theorem d_TD_compare_35 : decode c_TD_compare 35 = .ok (.putfield 72, 3) := by decide +kernel
theorem d_TD_compare_38 : decode c_TD_compare 38 = .ok (.return_, 1) := by decide +kernel
theorem d_TD_forgetAnswers_0 : decode c_TD_forgetAnswers 0 = .ok (.aload_n 0, 1) := by decide +kernel
theorem d_TD_forgetAnswers_1 : decode c_TD_forgetAnswers 1 = .ok (.iconst 0, 1) := by decide +kernel
theorem d_TD_forgetAnswers_2 : decode c_TD_forgetAnswers 2 = .ok (.putfield 72, 3) := by decide +kernel
theorem d_TD_forgetAnswers_5 : decode c_TD_forgetAnswers 5 = .ok (.aload_n 0, 1) := by decide +kernel
theorem d_TD_forgetAnswers_6 : decode c_TD_forgetAnswers 6 = .ok (.iconst (-1), 1) := by decide +kernel
theorem d_TD_forgetAnswers_7 : decode c_TD_forgetAnswers 7 = .ok (.putfield 76, 3) := by decide +kernel
theorem d_TD_forgetAnswers_10 : decode c_TD_forgetAnswers 10 = .ok (.aload_n 0, 1) := by decide +kernel
theorem d_TD_forgetAnswers_11 : decode c_TD_forgetAnswers 11 = .ok (.invokevirtual 210, 3) := by decide +kernel
theorem d_TD_forgetAnswers_14 : decode c_TD_forgetAnswers 14 = .ok (.return_, 1) := by decide +kernel
theorem d_TD_rewind_0 : decode c_TD_rewind 0 = .ok (.aload_n 0, 1) := by decide +kernel
theorem d_TD_rewind_1 : decode c_TD_rewind 1 = .ok (.getfield 55, 3) := by decide +kernel
theorem d_TD_rewind_4 : decode c_TD_rewind 4 = .ok (.aload_n 0, 1) := by decide +kernel
theorem d_TD_rewind_5 : decode c_TD_rewind 5 = .ok (.getfield 19, 3) := by decide +kernel
theorem d_TD_rewind_8 : decode c_TD_rewind 8 = .ok (.getfield 83, 3) := by decide +kernel
theorem d_TD_rewind_11 : decode c_TD_rewind 11 = .ok (.invokevirtual 87, 3) := by decide +kernel
theorem d_TD_rewind_14 : decode c_TD_rewind 14 = .ok (.aload_n 0, 1) := by decide +kernel
theorem d_TD_rewind_15 : decode c_TD_rewind 15 = .ok (.iconst 0, 1) := by decide +kernel
theorem d_TD_rewind_16 : decode c_TD_rewind 16 = .ok (.putfield 80, 3) := by decide +kernel
theorem d_TD_rewind_19 : decode c_TD_rewind 19 = .ok (.return_, 1) := by decide +kernel
theorem d_TD_roomOf_0 : decode c_TD_roomOf 0 = .ok (.iload_n 0, 1) := by decide +kernel
theorem d_TD_roomOf_1 : decode c_TD_roomOf 1 = .ok (.ifCond .lt 11, 3) := by decide +kernel
theorem d_TD_roomOf_4 : decode c_TD_roomOf 4 = .ok (.iload_n 0, 1) := by decide +kernel
theorem d_TD_roomOf_5 : decode c_TD_roomOf 5 = .ok (.bipush 24, 2) := by decide +kernel
theorem d_TD_roomOf_7 : decode c_TD_roomOf 7 = .ok (.if_icmp .ge 5, 3) := by decide +kernel
theorem d_TD_roomOf_10 : decode c_TD_roomOf 10 = .ok (.iload_n 0, 1) := by decide +kernel
theorem d_TD_roomOf_11 : decode c_TD_roomOf 11 = .ok (.ireturn, 1) := by decide +kernel
theorem d_TD_roomOf_12 : decode c_TD_roomOf 12 = .ok (.iload_n 0, 1) := by decide +kernel
theorem d_TD_roomOf_13 : decode c_TD_roomOf 13 = .ok (.bipush 100, 2) := by decide +kernel
theorem d_TD_roomOf_15 : decode c_TD_roomOf 15 = .ok (.if_icmp .lt 17, 3) := by decide +kernel
theorem d_TD_roomOf_18 : decode c_TD_roomOf 18 = .ok (.iload_n 0, 1) := by decide +kernel
theorem d_TD_roomOf_19 : decode c_TD_roomOf 19 = .ok (.bipush 124, 2) := by decide +kernel
theorem d_TD_roomOf_21 : decode c_TD_roomOf 21 = .ok (.if_icmp .ge 11, 3) := by decide +kernel
theorem d_TD_roomOf_24 : decode c_TD_roomOf 24 = .ok (.iload_n 0, 1) := by decide +kernel
theorem d_TD_roomOf_25 : decode c_TD_roomOf 25 = .ok (.bipush 100, 2) := by decide +kernel
theorem d_TD_roomOf_27 : decode c_TD_roomOf 27 = .ok (.isub, 1) := by decide +kernel
theorem d_TD_roomOf_28 : decode c_TD_roomOf 28 = .ok (.invokestatic 261, 3) := by decide +kernel
theorem d_TD_roomOf_31 : decode c_TD_roomOf 31 = .ok (.ireturn, 1) := by decide +kernel
theorem d_TD_roomOf_32 : decode c_TD_roomOf 32 = .ok (.iconst (-1), 1) := by decide +kernel
theorem d_TD_roomOf_33 : decode c_TD_roomOf 33 = .ok (.ireturn, 1) := by decide +kernel
theorem d_TD_roomOfInserted_0 : decode c_TD_roomOfInserted 0 = .ok (.bipush 24, 2) := by decide +kernel
theorem d_TD_roomOfInserted_2 : decode c_TD_roomOfInserted 2 = .ok (.iload_n 0, 1) := by decide +kernel
theorem d_TD_roomOfInserted_3 : decode c_TD_roomOfInserted 3 = .ok (.iadd, 1) := by decide +kernel
theorem d_TD_roomOfInserted_4 : decode c_TD_roomOfInserted 4 = .ok (.ireturn, 1) := by decide +kernel
theorem d_TD_numberOf_0 : decode c_TD_numberOf 0 = .ok (.iload_n 0, 1) := by decide +kernel
theorem d_TD_numberOf_1 : decode c_TD_numberOf 1 = .ok (.bipush 48, 2) := by decide +kernel
theorem d_TD_numberOf_3 : decode c_TD_numberOf 3 = .ok (.if_icmp .ne 5, 3) := by decide +kernel
theorem d_TD_numberOf_6 : decode c_TD_numberOf 6 = .ok (.iconst (-1), 1) := by decide +kernel
theorem d_TD_numberOf_7 : decode c_TD_numberOf 7 = .ok (.ireturn, 1) := by decide +kernel
theorem d_TD_numberOf_8 : decode c_TD_numberOf 8 = .ok (.iload_n 0, 1) := by decide +kernel
theorem d_TD_numberOf_9 : decode c_TD_numberOf 9 = .ok (.bipush 24, 2) := by decide +kernel
theorem d_TD_numberOf_11 : decode c_TD_numberOf 11 = .ok (.if_icmp .ge 7, 3) := by decide +kernel
theorem d_TD_numberOf_14 : decode c_TD_numberOf 14 = .ok (.iload_n 0, 1) := by decide +kernel
theorem d_TD_numberOf_15 : decode c_TD_numberOf 15 = .ok (.goto 10, 3) := by decide +kernel
theorem d_TD_numberOf_18 : decode c_TD_numberOf 18 = .ok (.bipush 100, 2) := by decide +kernel
theorem d_TD_numberOf_20 : decode c_TD_numberOf 20 = .ok (.iload_n 0, 1) := by decide +kernel
theorem d_TD_numberOf_21 : decode c_TD_numberOf 21 = .ok (.iadd, 1) := by decide +kernel
theorem d_TD_numberOf_22 : decode c_TD_numberOf 22 = .ok (.bipush 24, 2) := by decide +kernel
theorem d_TD_numberOf_24 : decode c_TD_numberOf 24 = .ok (.isub, 1) := by decide +kernel
theorem d_TD_numberOf_25 : decode c_TD_numberOf 25 = .ok (.ireturn, 1) := by decide +kernel
theorem d_Mo_init_0 : decode c_Mo_init 0 = .ok (.aload_n 0, 1) := by decide +kernel
theorem d_Mo_init_1 : decode c_Mo_init 1 = .ok (.invokespecial 1, 3) := by decide +kernel
theorem d_Mo_init_4 : decode c_Mo_init 4 = .ok (.aload_n 0, 1) := by decide +kernel
theorem d_Mo_init_5 : decode c_Mo_init 5 = .ok (.iconst 3, 1) := by decide +kernel
theorem d_Mo_init_6 : decode c_Mo_init 6 = .ok (.newarray .int, 2) := by decide +kernel
theorem d_Mo_init_8 : decode c_Mo_init 8 = .ok (.putfield 7, 3) := by decide +kernel
theorem d_Mo_init_11 : decode c_Mo_init 11 = .ok (.aload_n 0, 1) := by decide +kernel
theorem d_Mo_init_12 : decode c_Mo_init 12 = .ok (.bipush 72, 2) := by decide +kernel
theorem d_Mo_init_14 : decode c_Mo_init 14 = .ok (.newarray .int, 2) := by decide +kernel
theorem d_Mo_init_16 : decode c_Mo_init 16 = .ok (.putfield 13, 3) := by decide +kernel
theorem d_Mo_init_19 : decode c_Mo_init 19 = .ok (.aload_n 0, 1) := by decide +kernel
theorem d_Mo_init_20 : decode c_Mo_init 20 = .ok (.bipush 72, 2) := by decide +kernel
theorem d_Mo_init_22 : decode c_Mo_init 22 = .ok (.newarray .int, 2) := by decide +kernel
theorem d_Mo_init_24 : decode c_Mo_init 24 = .ok (.putfield 16, 3) := by decide +kernel
theorem d_Mo_init_27 : decode c_Mo_init 27 = .ok (.aload_n 0, 1) := by decide +kernel
theorem d_Mo_init_28 : decode c_Mo_init 28 = .ok (.bipush 72, 2) := by decide +kernel
theorem d_Mo_init_30 : decode c_Mo_init 30 = .ok (.newarray .int, 2) := by decide +kernel
theorem d_Mo_init_32 : decode c_Mo_init 32 = .ok (.putfield 19, 3) := by decide +kernel
theorem d_Mo_init_35 : decode c_Mo_init 35 = .ok (.aload_n 0, 1) := by decide +kernel
theorem d_Mo_init_36 : decode c_Mo_init 36 = .ok (.iconst 2, 1) := by decide +kernel
theorem d_Mo_init_37 : decode c_Mo_init 37 = .ok (.putfield 22, 3) := by decide +kernel
theorem d_Mo_init_40 : decode c_Mo_init 40 = .ok (.aload_n 0, 1) := by decide +kernel
theorem d_Mo_init_41 : decode c_Mo_init 41 = .ok (.bipush 50, 2) := by decide +kernel
theorem d_Mo_init_43 : decode c_Mo_init 43 = .ok (.putfield 26, 3) := by decide +kernel
theorem d_Mo_init_46 : decode c_Mo_init 46 = .ok (.aload_n 0, 1) := by decide +kernel
theorem d_Mo_init_47 : decode c_Mo_init 47 = .ok (.sipush 300, 3) := by decide +kernel
theorem d_Mo_init_50 : decode c_Mo_init 50 = .ok (.newarray .int, 2) := by decide +kernel
theorem d_Mo_init_52 : decode c_Mo_init 52 = .ok (.putfield 29, 3) := by decide +kernel
theorem d_Mo_init_55 : decode c_Mo_init 55 = .ok (.aload_n 0, 1) := by decide +kernel
theorem d_Mo_init_56 : decode c_Mo_init 56 = .ok (.iconst 2, 1) := by decide +kernel
theorem d_Mo_init_57 : decode c_Mo_init 57 = .ok (.newarray .boolean, 2) := by decide +kernel
theorem d_Mo_init_59 : decode c_Mo_init 59 = .ok (.putfield 32, 3) := by decide +kernel
theorem d_Mo_init_62 : decode c_Mo_init 62 = .ok (.aload_n 0, 1) := by decide +kernel
theorem d_Mo_init_63 : decode c_Mo_init 63 = .ok (.bipush 100, 2) := by decide +kernel
theorem d_Mo_init_65 : decode c_Mo_init 65 = .ok (.newarray .int, 2) := by decide +kernel
theorem d_Mo_init_67 : decode c_Mo_init 67 = .ok (.putfield 36, 3) := by decide +kernel
theorem d_Mo_init_70 : decode c_Mo_init 70 = .ok (.aload_n 0, 1) := by decide +kernel
theorem d_Mo_init_71 : decode c_Mo_init 71 = .ok (.sipush 500, 3) := by decide +kernel
theorem d_Mo_init_74 : decode c_Mo_init 74 = .ok (.newarray .int, 2) := by decide +kernel
theorem d_Mo_init_76 : decode c_Mo_init 76 = .ok (.putfield 39, 3) := by decide +kernel
theorem d_Mo_init_79 : decode c_Mo_init 79 = .ok (.aload_n 0, 1) := by decide +kernel
theorem d_Mo_init_80 : decode c_Mo_init 80 = .ok (.bipush 26, 2) := by decide +kernel
theorem d_Mo_init_82 : decode c_Mo_init 82 = .ok (.newarray .int, 2) := by decide +kernel
theorem d_Mo_init_84 : decode c_Mo_init 84 = .ok (.putfield 42, 3) := by decide +kernel
theorem d_Mo_init_87 : decode c_Mo_init 87 = .ok (.aload_n 0, 1) := by decide +kernel
theorem d_Mo_init_88 : decode c_Mo_init 88 = .ok (.bipush 48, 2) := by decide +kernel
theorem d_Mo_init_90 : decode c_Mo_init 90 = .ok (.newarray .int, 2) := by decide +kernel
theorem d_Mo_init_92 : decode c_Mo_init 92 = .ok (.putfield 45, 3) := by decide +kernel
theorem d_Mo_init_95 : decode c_Mo_init 95 = .ok (.aload_n 0, 1) := by decide +kernel
theorem d_Mo_init_96 : decode c_Mo_init 96 = .ok (.bipush 48, 2) := by decide +kernel
theorem d_Mo_init_98 : decode c_Mo_init 98 = .ok (.newarray .int, 2) := by decide +kernel
theorem d_Mo_init_100 : decode c_Mo_init 100 = .ok (.putfield 48, 3) := by decide +kernel
theorem d_Mo_init_103 : decode c_Mo_init 103 = .ok (.aload_n 0, 1) := by decide +kernel
theorem d_Mo_init_104 : decode c_Mo_init 104 = .ok (.bipush 24, 2) := by decide +kernel
theorem d_Mo_init_106 : decode c_Mo_init 106 = .ok (.newarray .int, 2) := by decide +kernel
theorem d_Mo_init_108 : decode c_Mo_init 108 = .ok (.putfield 51, 3) := by decide +kernel
theorem d_Mo_init_111 : decode c_Mo_init 111 = .ok (.aload_n 0, 1) := by decide +kernel
theorem d_Mo_init_112 : decode c_Mo_init 112 = .ok (.bipush 24, 2) := by decide +kernel
theorem d_Mo_init_114 : decode c_Mo_init 114 = .ok (.newarray .int, 2) := by decide +kernel
theorem d_Mo_init_116 : decode c_Mo_init 116 = .ok (.putfield 54, 3) := by decide +kernel
theorem d_Mo_init_119 : decode c_Mo_init 119 = .ok (.aload_n 0, 1) := by decide +kernel
theorem d_Mo_init_120 : decode c_Mo_init 120 = .ok (.bipush 24, 2) := by decide +kernel
theorem d_Mo_init_122 : decode c_Mo_init 122 = .ok (.newarray .int, 2) := by decide +kernel
theorem d_Mo_init_124 : decode c_Mo_init 124 = .ok (.putfield 57, 3) := by decide +kernel
theorem d_Mo_init_127 : decode c_Mo_init 127 = .ok (.aload_n 0, 1) := by decide +kernel
theorem d_Mo_init_128 : decode c_Mo_init 128 = .ok (.bipush 24, 2) := by decide +kernel
theorem d_Mo_init_130 : decode c_Mo_init 130 = .ok (.newarray .int, 2) := by decide +kernel
theorem d_Mo_init_132 : decode c_Mo_init 132 = .ok (.putfield 60, 3) := by decide +kernel
theorem d_Mo_init_135 : decode c_Mo_init 135 = .ok (.aload_n 0, 1) := by decide +kernel
theorem d_Mo_init_136 : decode c_Mo_init 136 = .ok (.bipush 49, 2) := by decide +kernel
theorem d_Mo_init_138 : decode c_Mo_init 138 = .ok (.newarray .int, 2) := by decide +kernel
theorem d_Mo_init_140 : decode c_Mo_init 140 = .ok (.putfield 63, 3) := by decide +kernel
theorem d_Mo_init_143 : decode c_Mo_init 143 = .ok (.aload_n 0, 1) := by decide +kernel
theorem d_Mo_init_144 : decode c_Mo_init 144 = .ok (.bipush 49, 2) := by decide +kernel
theorem d_Mo_init_146 : decode c_Mo_init 146 = .ok (.newarray .int, 2) := by decide +kernel
theorem d_Mo_init_148 : decode c_Mo_init 148 = .ok (.putfield 66, 3) := by decide +kernel
theorem d_Mo_init_151 : decode c_Mo_init 151 = .ok (.aload_n 0, 1) := by decide +kernel
theorem d_Mo_init_152 : decode c_Mo_init 152 = .ok (.bipush 49, 2) := by decide +kernel
theorem d_Mo_init_154 : decode c_Mo_init 154 = .ok (.newarray .int, 2) := by decide +kernel
theorem d_Mo_init_156 : decode c_Mo_init 156 = .ok (.putfield 69, 3) := by decide +kernel
theorem d_Mo_init_159 : decode c_Mo_init 159 = .ok (.aload_n 0, 1) := by decide +kernel
theorem d_Mo_init_160 : decode c_Mo_init 160 = .ok (.sipush 2401, 3) := by decide +kernel
theorem d_Mo_init_163 : decode c_Mo_init 163 = .ok (.newarray .int, 2) := by decide +kernel
theorem d_Mo_init_165 : decode c_Mo_init 165 = .ok (.putfield 72, 3) := by decide +kernel
theorem d_Mo_init_168 : decode c_Mo_init 168 = .ok (.aload_n 0, 1) := by decide +kernel
theorem d_Mo_init_169 : decode c_Mo_init 169 = .ok (.bipush 49, 2) := by decide +kernel
theorem d_Mo_init_171 : decode c_Mo_init 171 = .ok (.newarray .int, 2) := by decide +kernel
theorem d_Mo_init_173 : decode c_Mo_init 173 = .ok (.putfield 75, 3) := by decide +kernel
theorem d_Mo_init_176 : decode c_Mo_init 176 = .ok (.aload_n 0, 1) := by decide +kernel
theorem d_Mo_init_177 : decode c_Mo_init 177 = .ok (.sipush 1200, 3) := by decide +kernel
theorem d_Mo_init_180 : decode c_Mo_init 180 = .ok (.newarray .int, 2) := by decide +kernel
theorem d_Mo_init_182 : decode c_Mo_init 182 = .ok (.putfield 78, 3) := by decide +kernel
theorem d_Mo_init_185 : decode c_Mo_init 185 = .ok (.aload_n 0, 1) := by decide +kernel
theorem d_Mo_init_186 : decode c_Mo_init 186 = .ok (.bipush 25, 2) := by decide +kernel
theorem d_Mo_init_188 : decode c_Mo_init 188 = .ok (.newarray .int, 2) := by decide +kernel
theorem d_Mo_init_190 : decode c_Mo_init 190 = .ok (.putfield 81, 3) := by decide +kernel
theorem d_Mo_init_193 : decode c_Mo_init 193 = .ok (.aload_n 0, 1) := by decide +kernel
theorem d_Mo_init_194 : decode c_Mo_init 194 = .ok (.bipush 24, 2) := by decide +kernel
theorem d_Mo_init_196 : decode c_Mo_init 196 = .ok (.newarray .boolean, 2) := by decide +kernel
theorem d_Mo_init_198 : decode c_Mo_init 198 = .ok (.putfield 84, 3) := by decide +kernel
theorem d_Mo_init_201 : decode c_Mo_init 201 = .ok (.aload_n 0, 1) := by decide +kernel
theorem d_Mo_init_202 : decode c_Mo_init 202 = .ok (.bipush 24, 2) := by decide +kernel
theorem d_Mo_init_204 : decode c_Mo_init 204 = .ok (.newarray .int, 2) := by decide +kernel
theorem d_Mo_init_206 : decode c_Mo_init 206 = .ok (.putfield 87, 3) := by decide +kernel
theorem d_Mo_init_209 : decode c_Mo_init 209 = .ok (.aload_n 0, 1) := by decide +kernel
theorem d_Mo_init_210 : decode c_Mo_init 210 = .ok (.bipush 24, 2) := by decide +kernel
theorem d_Mo_init_212 : decode c_Mo_init 212 = .ok (.newarray .int, 2) := by decide +kernel
theorem d_Mo_init_214 : decode c_Mo_init 214 = .ok (.putfield 90, 3) := by decide +kernel
theorem d_Mo_init_217 : decode c_Mo_init 217 = .ok (.aload_n 0, 1) := by decide +kernel
theorem d_Mo_init_218 : decode c_Mo_init 218 = .ok (.bipush 48, 2) := by decide +kernel
theorem d_Mo_init_220 : decode c_Mo_init 220 = .ok (.newarray .int, 2) := by decide +kernel
theorem d_Mo_init_222 : decode c_Mo_init 222 = .ok (.putfield 93, 3) := by decide +kernel
theorem d_Mo_init_225 : decode c_Mo_init 225 = .ok (.aload_n 0, 1) := by decide +kernel
theorem d_Mo_init_226 : decode c_Mo_init 226 = .ok (.bipush 48, 2) := by decide +kernel
theorem d_Mo_init_228 : decode c_Mo_init 228 = .ok (.newarray .int, 2) := by decide +kernel
theorem d_Mo_init_230 : decode c_Mo_init 230 = .ok (.putfield 96, 3) := by decide +kernel
theorem d_Mo_init_233 : decode c_Mo_init 233 = .ok (.aload_n 0, 1) := by decide +kernel
theorem d_Mo_init_234 : decode c_Mo_init 234 = .ok (.sipush 576, 3) := by decide +kernel
theorem d_Mo_init_237 : decode c_Mo_init 237 = .ok (.newarray .int, 2) := by decide +kernel
theorem d_Mo_init_239 : decode c_Mo_init 239 = .ok (.putfield 99, 3) := by decide +kernel
theorem d_Mo_init_242 : decode c_Mo_init 242 = .ok (.aload_n 0, 1) := by decide +kernel
theorem d_Mo_init_243 : decode c_Mo_init 243 = .ok (.sipush 625, 3) := by decide +kernel
theorem d_Mo_init_246 : decode c_Mo_init 246 = .ok (.newarray .int, 2) := by decide +kernel
theorem d_Mo_init_248 : decode c_Mo_init 248 = .ok (.putfield 102, 3) := by decide +kernel
theorem d_Mo_init_251 : decode c_Mo_init 251 = .ok (.aload_n 0, 1) := by decide +kernel
theorem d_Mo_init_252 : decode c_Mo_init 252 = .ok (.sipush 500, 3) := by decide +kernel
theorem d_Mo_init_255 : decode c_Mo_init 255 = .ok (.newarray .int, 2) := by decide +kernel
theorem d_Mo_init_257 : decode c_Mo_init 257 = .ok (.putfield 105, 3) := by decide +kernel
theorem d_Mo_init_260 : decode c_Mo_init 260 = .ok (.aload_n 0, 1) := by decide +kernel
theorem d_Mo_init_261 : decode c_Mo_init 261 = .ok (.bipush 50, 2) := by decide +kernel
theorem d_Mo_init_263 : decode c_Mo_init 263 = .ok (.newarray .int, 2) := by decide +kernel
theorem d_Mo_init_265 : decode c_Mo_init 265 = .ok (.putfield 108, 3) := by decide +kernel
theorem d_Mo_init_268 : decode c_Mo_init 268 = .ok (.aload_n 0, 1) := by decide +kernel
theorem d_Mo_init_269 : decode c_Mo_init 269 = .ok (.bipush 50, 2) := by decide +kernel
theorem d_Mo_init_271 : decode c_Mo_init 271 = .ok (.newarray .int, 2) := by decide +kernel
theorem d_Mo_init_273 : decode c_Mo_init 273 = .ok (.putfield 111, 3) := by decide +kernel
theorem d_Mo_init_276 : decode c_Mo_init 276 = .ok (.iconst 0, 1) := by decide +kernel
theorem d_Mo_init_277 : decode c_Mo_init 277 = .ok (.istore_n 1, 1) := by decide +kernel
theorem d_Mo_init_278 : decode c_Mo_init 278 = .ok (.iload_n 1, 1) := by decide +kernel
theorem d_Mo_init_279 : decode c_Mo_init 279 = .ok (.iconst 2, 1) := by decide +kernel
theorem d_Mo_init_280 : decode c_Mo_init 280 = .ok (.if_icmp .ge 27, 3) := by decide +kernel
theorem d_Mo_init_283 : decode c_Mo_init 283 = .ok (.aload_n 0, 1) := by decide +kernel
theorem d_Mo_init_284 : decode c_Mo_init 284 = .ok (.getfield 7, 3) := by decide +kernel
theorem d_Mo_init_287 : decode c_Mo_init 287 = .ok (.iload_n 1, 1) := by decide +kernel
theorem d_Mo_init_288 : decode c_Mo_init 288 = .ok (.iconst 1, 1) := by decide +kernel
theorem d_Mo_init_289 : decode c_Mo_init 289 = .ok (.iastore, 1) := by decide +kernel
theorem d_Mo_init_290 : decode c_Mo_init 290 = .ok (.aload_n 0, 1) := by decide +kernel
theorem d_Mo_init_291 : decode c_Mo_init 291 = .ok (.getfield 19, 3) := by decide +kernel
theorem d_Mo_init_294 : decode c_Mo_init 294 = .ok (.iload_n 1, 1) := by decide +kernel
theorem d_Mo_init_295 : decode c_Mo_init 295 = .ok (.iconst 0, 1) := by decide +kernel
theorem d_Mo_init_296 : decode c_Mo_init 296 = .ok (.invokestatic 114, 3) := by decide +kernel
theorem d_Mo_init_299 : decode c_Mo_init 299 = .ok (.iconst (-1), 1) := by decide +kernel
theorem d_Mo_init_300 : decode c_Mo_init 300 = .ok (.iastore, 1) := by decide +kernel
theorem d_Mo_init_301 : decode c_Mo_init 301 = .ok (.iinc 1 1, 3) := by decide +kernel
theorem d_Mo_init_304 : decode c_Mo_init 304 = .ok (.goto (-26), 3) := by decide +kernel
theorem d_Mo_init_307 : decode c_Mo_init 307 = .ok (.aload_n 0, 1) := by decide +kernel
theorem d_Mo_init_308 : decode c_Mo_init 308 = .ok (.invokevirtual 118, 3) := by decide +kernel
theorem d_Mo_init_311 : decode c_Mo_init 311 = .ok (.return_, 1) := by decide +kernel
theorem d_Mo_in_0 : decode c_Mo_in 0 = .ok (.iload_n 0, 1) := by decide +kernel
theorem d_Mo_in_1 : decode c_Mo_in 1 = .ok (.iload_n 1, 1) := by decide +kernel
theorem d_Mo_in_2 : decode c_Mo_in 2 = .ok (.if_icmp .lt 12, 3) := by decide +kernel
theorem d_Mo_in_5 : decode c_Mo_in 5 = .ok (.iload_n 0, 1) := by decide +kernel
theorem d_Mo_in_6 : decode c_Mo_in 6 = .ok (.iload_n 2, 1) := by decide +kernel
theorem d_Mo_in_7 : decode c_Mo_in 7 = .ok (.if_icmp .gt 7, 3) := by decide +kernel
theorem d_Mo_in_10 : decode c_Mo_in 10 = .ok (.iconst 1, 1) := by decide +kernel
theorem d_Mo_in_11 : decode c_Mo_in 11 = .ok (.goto 4, 3) := by decide +kernel
theorem d_Mo_in_14 : decode c_Mo_in 14 = .ok (.iconst 0, 1) := by decide +kernel
theorem d_Mo_in_15 : decode c_Mo_in 15 = .ok (.ireturn, 1) := by decide +kernel
theorem d_Mo_at_0 : decode c_Mo_at 0 = .ok (.bipush 24, 2) := by decide +kernel
theorem d_Mo_at_2 : decode c_Mo_at 2 = .ok (.iload_n 0, 1) := by decide +kernel
theorem d_Mo_at_3 : decode c_Mo_at 3 = .ok (.imul, 1) := by decide +kernel
theorem d_Mo_at_4 : decode c_Mo_at 4 = .ok (.iload_n 1, 1) := by decide +kernel
theorem d_Mo_at_5 : decode c_Mo_at 5 = .ok (.iadd, 1) := by decide +kernel
theorem d_Mo_at_6 : decode c_Mo_at 6 = .ok (.ireturn, 1) := by decide +kernel
theorem d_Mo_isNode_0 : decode c_Mo_isNode 0 = .ok (.iload_n 1, 1) := by decide +kernel
theorem d_Mo_isNode_1 : decode c_Mo_isNode 1 = .ok (.iconst 0, 1) := by decide +kernel
theorem d_Mo_isNode_2 : decode c_Mo_isNode 2 = .ok (.iconst 1, 1) := by decide +kernel
theorem d_Mo_isNode_3 : decode c_Mo_isNode 3 = .ok (.invokestatic 121, 3) := by decide +kernel
theorem d_Mo_isNode_6 : decode c_Mo_isNode 6 = .ok (.ifCond .eq 23, 3) := by decide +kernel
theorem d_Mo_isNode_9 : decode c_Mo_isNode 9 = .ok (.iload_n 2, 1) := by decide +kernel
theorem d_Mo_isNode_10 : decode c_Mo_isNode 10 = .ok (.iconst 0, 1) := by decide +kernel
theorem d_Mo_isNode_11 : decode c_Mo_isNode 11 = .ok (.aload_n 0, 1) := by decide +kernel
theorem d_Mo_isNode_12 : decode c_Mo_isNode 12 = .ok (.getfield 7, 3) := by decide +kernel
theorem d_Mo_isNode_15 : decode c_Mo_isNode 15 = .ok (.iload_n 1, 1) := by decide +kernel
theorem d_Mo_isNode_16 : decode c_Mo_isNode 16 = .ok (.iaload, 1) := by decide +kernel
theorem d_Mo_isNode_17 : decode c_Mo_isNode 17 = .ok (.iconst 1, 1) := by decide +kernel
theorem d_Mo_isNode_18 : decode c_Mo_isNode 18 = .ok (.isub, 1) := by decide +kernel
theorem d_Mo_isNode_19 : decode c_Mo_isNode 19 = .ok (.invokestatic 121, 3) := by decide +kernel
theorem d_Mo_isNode_22 : decode c_Mo_isNode 22 = .ok (.ifCond .eq 7, 3) := by decide +kernel
theorem d_Mo_isNode_25 : decode c_Mo_isNode 25 = .ok (.iconst 1, 1) := by decide +kernel
theorem d_Mo_isNode_26 : decode c_Mo_isNode 26 = .ok (.goto 4, 3) := by decide +kernel
theorem d_Mo_isNode_29 : decode c_Mo_isNode 29 = .ok (.iconst 0, 1) := by decide +kernel
theorem d_Mo_isNode_30 : decode c_Mo_isNode 30 = .ok (.ireturn, 1) := by decide +kernel
theorem d_Mo_append_0 : decode c_Mo_append 0 = .ok (.iload_n 1, 1) := by decide +kernel
theorem d_Mo_append_1 : decode c_Mo_append 1 = .ok (.iconst 0, 1) := by decide +kernel
theorem d_Mo_append_2 : decode c_Mo_append 2 = .ok (.bipush 127, 2) := by decide +kernel
theorem d_Mo_append_4 : decode c_Mo_append 4 = .ok (.invokestatic 121, 3) := by decide +kernel
theorem d_Mo_append_7 : decode c_Mo_append 7 = .ok (.ifCond .ne 6, 3) := by decide +kernel
theorem d_Mo_append_10 : decode c_Mo_append 10 = .ok (.bipush (-12), 2) := by decide +kernel
theorem d_Mo_append_12 : decode c_Mo_append 12 = .ok (.ireturn, 1) := by decide +kernel
theorem d_Mo_append_13 : decode c_Mo_append 13 = .ok (.aload_n 0, 1) := by decide +kernel
theorem d_Mo_append_14 : decode c_Mo_append 14 = .ok (.getfield 125, 3) := by decide +kernel
theorem d_Mo_append_17 : decode c_Mo_append 17 = .ok (.bipush 100, 2) := by decide +kernel
theorem d_Mo_append_19 : decode c_Mo_append 19 = .ok (.if_icmp .ne 6, 3) := by decide +kernel
theorem d_Mo_append_22 : decode c_Mo_append 22 = .ok (.bipush (-14), 2) := by decide +kernel
theorem d_Mo_append_24 : decode c_Mo_append 24 = .ok (.ireturn, 1) := by decide +kernel
theorem d_Mo_append_25 : decode c_Mo_append 25 = .ok (.aload_n 0, 1) := by decide +kernel
theorem d_Mo_append_26 : decode c_Mo_append 26 = .ok (.getfield 36, 3) := by decide +kernel
theorem d_Mo_append_29 : decode c_Mo_append 29 = .ok (.aload_n 0, 1) := by decide +kernel
theorem d_Mo_append_30 : decode c_Mo_append 30 = .ok (.getfield 125, 3) := by decide +kernel
theorem d_Mo_append_33 : decode c_Mo_append 33 = .ok (.iload_n 1, 1) := by decide +kernel
theorem d_Mo_append_34 : decode c_Mo_append 34 = .ok (.iastore, 1) := by decide +kernel
theorem d_Mo_append_35 : decode c_Mo_append 35 = .ok (.aload_n 0, 1) := by decide +kernel
theorem d_Mo_append_36 : decode c_Mo_append 36 = .ok (.dup, 1) := by decide +kernel
theorem d_Mo_append_37 : decode c_Mo_append 37 = .ok (.getfield 125, 3) := by decide +kernel
theorem d_Mo_append_40 : decode c_Mo_append 40 = .ok (.iconst 1, 1) := by decide +kernel
theorem d_Mo_append_41 : decode c_Mo_append 41 = .ok (.iadd, 1) := by decide +kernel
theorem d_Mo_append_42 : decode c_Mo_append 42 = .ok (.putfield 125, 3) := by decide +kernel
theorem d_Mo_append_45 : decode c_Mo_append 45 = .ok (.aload_n 0, 1) := by decide +kernel
theorem d_Mo_append_46 : decode c_Mo_append 46 = .ok (.getfield 125, 3) := by decide +kernel
theorem d_Mo_append_49 : decode c_Mo_append 49 = .ok (.ireturn, 1) := by decide +kernel
theorem d_Mo_clearText_0 : decode c_Mo_clearText 0 = .ok (.aload_n 0, 1) := by decide +kernel
theorem d_Mo_clearText_1 : decode c_Mo_clearText 1 = .ok (.getfield 125, 3) := by decide +kernel
theorem d_Mo_clearText_4 : decode c_Mo_clearText 4 = .ok (.istore_n 1, 1) := by decide +kernel
theorem d_Mo_clearText_5 : decode c_Mo_clearText 5 = .ok (.aload_n 0, 1) := by decide +kernel
theorem d_Mo_clearText_6 : decode c_Mo_clearText 6 = .ok (.iconst 0, 1) := by decide +kernel
theorem d_Mo_clearText_7 : decode c_Mo_clearText 7 = .ok (.putfield 125, 3) := by decide +kernel
theorem d_Mo_clearText_10 : decode c_Mo_clearText 10 = .ok (.iload_n 1, 1) := by decide +kernel
theorem d_Mo_clearText_11 : decode c_Mo_clearText 11 = .ok (.ireturn, 1) := by decide +kernel
theorem d_Mo_here_0 : decode c_Mo_here 0 = .ok (.aload_n 0, 1) := by decide +kernel
theorem d_Mo_here_1 : decode c_Mo_here 1 = .ok (.getfield 128, 3) := by decide +kernel
theorem d_Mo_here_4 : decode c_Mo_here 4 = .ok (.aload_n 0, 1) := by decide +kernel
theorem d_Mo_here_5 : decode c_Mo_here 5 = .ok (.getfield 125, 3) := by decide +kernel
theorem d_Mo_here_8 : decode c_Mo_here 8 = .ok (.if_icmp .ge 15, 3) := by decide +kernel
theorem d_Mo_here_11 : decode c_Mo_here 11 = .ok (.aload_n 0, 1) := by decide +kernel
theorem d_Mo_here_12 : decode c_Mo_here 12 = .ok (.getfield 36, 3) := by decide +kernel
theorem d_Mo_here_15 : decode c_Mo_here 15 = .ok (.aload_n 0, 1) := by decide +kernel
theorem d_Mo_here_16 : decode c_Mo_here 16 = .ok (.getfield 128, 3) := by decide +kernel
theorem d_Mo_here_19 : decode c_Mo_here 19 = .ok (.iaload, 1) := by decide +kernel
theorem d_Mo_here_20 : decode c_Mo_here 20 = .ok (.goto 4, 3) := by decide +kernel
theorem d_Mo_here_23 : decode c_Mo_here 23 = .ok (.iconst (-1), 1) := by decide +kernel
theorem d_Mo_here_24 : decode c_Mo_here 24 = .ok (.ireturn, 1) := by decide +kernel
theorem d_Mo_isLabelRead_0 : decode c_Mo_isLabelRead 0 = .ok (.iload_n 1, 1) := by decide +kernel
theorem d_Mo_isLabelRead_1 : decode c_Mo_isLabelRead 1 = .ok (.bipush 97, 2) := by decide +kernel
theorem d_Mo_isLabelRead_3 : decode c_Mo_isLabelRead 3 = .ok (.bipush 104, 2) := by decide +kernel
theorem d_Mo_isLabelRead_5 : decode c_Mo_isLabelRead 5 = .ok (.invokestatic 121, 3) := by decide +kernel
theorem d_Mo_isLabelRead_8 : decode c_Mo_isLabelRead 8 = .ok (.ifCond .eq 14, 3) := by decide +kernel
theorem d_Mo_isLabelRead_11 : decode c_Mo_isLabelRead 11 = .ok (.aload_n 0, 1) := by decide +kernel
theorem d_Mo_isLabelRead_12 : decode c_Mo_isLabelRead 12 = .ok (.getfield 7, 3) := by decide +kernel
theorem d_Mo_isLabelRead_15 : decode c_Mo_isLabelRead 15 = .ok (.iconst 2, 1) := by decide +kernel
theorem d_Mo_isLabelRead_16 : decode c_Mo_isLabelRead 16 = .ok (.iaload, 1) := by decide +kernel
theorem d_Mo_isLabelRead_17 : decode c_Mo_isLabelRead 17 = .ok (.bipush 24, 2) := by decide +kernel
theorem d_Mo_isLabelRead_19 : decode c_Mo_isLabelRead 19 = .ok (.if_icmp .ne 5, 3) := by decide +kernel
theorem d_Mo_isLabelRead_22 : decode c_Mo_isLabelRead 22 = .ok (.iconst 0, 1) := by decide +kernel
theorem d_Mo_isLabelRead_23 : decode c_Mo_isLabelRead 23 = .ok (.ireturn, 1) := by decide +kernel
theorem d_Mo_isLabelRead_24 : decode c_Mo_isLabelRead 24 = .ok (.iconst 2, 1) := by decide +kernel
theorem d_Mo_isLabelRead_25 : decode c_Mo_isLabelRead 25 = .ok (.aload_n 0, 1) := by decide +kernel
theorem d_Mo_isLabelRead_26 : decode c_Mo_isLabelRead 26 = .ok (.getfield 7, 3) := by decide +kernel
theorem d_Mo_isLabelRead_29 : decode c_Mo_isLabelRead 29 = .ok (.iconst 2, 1) := by decide +kernel
theorem d_Mo_isLabelRead_30 : decode c_Mo_isLabelRead 30 = .ok (.iaload, 1) := by decide +kernel
theorem d_Mo_isLabelRead_31 : decode c_Mo_isLabelRead 31 = .ok (.invokestatic 114, 3) := by decide +kernel
theorem d_Mo_isLabelRead_34 : decode c_Mo_isLabelRead 34 = .ok (.istore_n 2, 1) := by decide +kernel
theorem d_Mo_isLabelRead_35 : decode c_Mo_isLabelRead 35 = .ok (.aload_n 0, 1) := by decide +kernel
theorem d_Mo_isLabelRead_36 : decode c_Mo_isLabelRead 36 = .ok (.getfield 13, 3) := by decide +kernel
theorem d_Mo_isLabelRead_39 : decode c_Mo_isLabelRead 39 = .ok (.iload_n 2, 1) := by decide +kernel
theorem d_Mo_isLabelRead_40 : decode c_Mo_isLabelRead 40 = .ok (.iload_n 1, 1) := by decide +kernel
theorem d_Mo_isLabelRead_41 : decode c_Mo_isLabelRead 41 = .ok (.bipush 97, 2) := by decide +kernel
theorem d_Mo_isLabelRead_43 : decode c_Mo_isLabelRead 43 = .ok (.isub, 1) := by decide +kernel
theorem d_Mo_isLabelRead_44 : decode c_Mo_isLabelRead 44 = .ok (.iastore, 1) := by decide +kernel
theorem d_Mo_isLabelRead_45 : decode c_Mo_isLabelRead 45 = .ok (.aload_n 0, 1) := by decide +kernel
theorem d_Mo_isLabelRead_46 : decode c_Mo_isLabelRead 46 = .ok (.getfield 16, 3) := by decide +kernel
theorem d_Mo_isLabelRead_49 : decode c_Mo_isLabelRead 49 = .ok (.iload_n 2, 1) := by decide +kernel
theorem d_Mo_isLabelRead_50 : decode c_Mo_isLabelRead 50 = .ok (.iconst 0, 1) := by decide +kernel
theorem d_Mo_isLabelRead_51 : decode c_Mo_isLabelRead 51 = .ok (.iastore, 1) := by decide +kernel
theorem d_Mo_isLabelRead_52 : decode c_Mo_isLabelRead 52 = .ok (.aload_n 0, 1) := by decide +kernel
theorem d_Mo_isLabelRead_53 : decode c_Mo_isLabelRead 53 = .ok (.getfield 19, 3) := by decide +kernel
theorem d_Mo_isLabelRead_56 : decode c_Mo_isLabelRead 56 = .ok (.iload_n 2, 1) := by decide +kernel
theorem d_Mo_isLabelRead_57 : decode c_Mo_isLabelRead 57 = .ok (.aload_n 0, 1) := by decide +kernel
theorem d_Mo_isLabelRead_58 : decode c_Mo_isLabelRead 58 = .ok (.getfield 131, 3) := by decide +kernel
theorem d_Mo_isLabelRead_61 : decode c_Mo_isLabelRead 61 = .ok (.ifCond .ne 7, 3) := by decide +kernel
theorem d_Mo_isLabelRead_64 : decode c_Mo_isLabelRead 64 = .ok (.iconst (-1), 1) := by decide +kernel
theorem d_Mo_isLabelRead_65 : decode c_Mo_isLabelRead 65 = .ok (.goto 14, 3) := by decide +kernel
theorem d_Mo_isLabelRead_68 : decode c_Mo_isLabelRead 68 = .ok (.aload_n 0, 1) := by decide +kernel
theorem d_Mo_isLabelRead_69 : decode c_Mo_isLabelRead 69 = .ok (.getfield 42, 3) := by decide +kernel
theorem d_Mo_isLabelRead_72 : decode c_Mo_isLabelRead 72 = .ok (.aload_n 0, 1) := by decide +kernel
theorem d_Mo_isLabelRead_73 : decode c_Mo_isLabelRead 73 = .ok (.getfield 131, 3) := by decide +kernel
theorem d_Mo_isLabelRead_76 : decode c_Mo_isLabelRead 76 = .ok (.iconst 1, 1) := by decide +kernel
theorem d_Mo_isLabelRead_77 : decode c_Mo_isLabelRead 77 = .ok (.isub, 1) := by decide +kernel
theorem d_Mo_isLabelRead_78 : decode c_Mo_isLabelRead 78 = .ok (.iaload, 1) := by decide +kernel
theorem d_Mo_isLabelRead_79 : decode c_Mo_isLabelRead 79 = .ok (.iastore, 1) := by decide +kernel
theorem d_Mo_isLabelRead_80 : decode c_Mo_isLabelRead 80 = .ok (.aload_n 0, 1) := by decide +kernel
theorem d_Mo_isLabelRead_81 : decode c_Mo_isLabelRead 81 = .ok (.getfield 7, 3) := by decide +kernel
theorem d_Mo_isLabelRead_84 : decode c_Mo_isLabelRead 84 = .ok (.iconst 2, 1) := by decide +kernel
theorem d_Mo_isLabelRead_85 : decode c_Mo_isLabelRead 85 = .ok (.dup2, 1) := by decide +kernel
theorem d_Mo_isLabelRead_86 : decode c_Mo_isLabelRead 86 = .ok (.iaload, 1) := by decide +kernel
theorem d_Mo_isLabelRead_87 : decode c_Mo_isLabelRead 87 = .ok (.iconst 1, 1) := by decide +kernel
theorem d_Mo_isLabelRead_88 : decode c_Mo_isLabelRead 88 = .ok (.iadd, 1) := by decide +kernel
theorem d_Mo_isLabelRead_89 : decode c_Mo_isLabelRead 89 = .ok (.iastore, 1) := by decide +kernel
theorem d_Mo_isLabelRead_90 : decode c_Mo_isLabelRead 90 = .ok (.aload_n 0, 1) := by decide +kernel
theorem d_Mo_isLabelRead_91 : decode c_Mo_isLabelRead 91 = .ok (.iconst 1, 1) := by decide +kernel
theorem d_Mo_isLabelRead_92 : decode c_Mo_isLabelRead 92 = .ok (.putfield 134, 3) := by decide +kernel
theorem d_Mo_isLabelRead_95 : decode c_Mo_isLabelRead 95 = .ok (.iconst 1, 1) := by decide +kernel
theorem d_Mo_isLabelRead_96 : decode c_Mo_isLabelRead 96 = .ok (.ireturn, 1) := by decide +kernel
theorem d_Mo_isDigitRead_0 : decode c_Mo_isDigitRead 0 = .ok (.iload_n 1, 1) := by decide +kernel
theorem d_Mo_isDigitRead_1 : decode c_Mo_isDigitRead 1 = .ok (.bipush 48, 2) := by decide +kernel
theorem d_Mo_isDigitRead_3 : decode c_Mo_isDigitRead 3 = .ok (.bipush 57, 2) := by decide +kernel
theorem d_Mo_isDigitRead_5 : decode c_Mo_isDigitRead 5 = .ok (.invokestatic 121, 3) := by decide +kernel
theorem d_Mo_isDigitRead_8 : decode c_Mo_isDigitRead 8 = .ok (.ifCond .eq 11, 3) := by decide +kernel
theorem d_Mo_isDigitRead_11 : decode c_Mo_isDigitRead 11 = .ok (.aload_n 0, 1) := by decide +kernel
theorem d_Mo_isDigitRead_12 : decode c_Mo_isDigitRead 12 = .ok (.getfield 134, 3) := by decide +kernel
theorem d_Mo_isDigitRead_15 : decode c_Mo_isDigitRead 15 = .ok (.iconst 3, 1) := by decide +kernel
theorem d_Mo_isDigitRead_16 : decode c_Mo_isDigitRead 16 = .ok (.if_icmp .ne 5, 3) := by decide +kernel
theorem d_Mo_isDigitRead_19 : decode c_Mo_isDigitRead 19 = .ok (.iconst 0, 1) := by decide +kernel
theorem d_Mo_isDigitRead_20 : decode c_Mo_isDigitRead 20 = .ok (.ireturn, 1) := by decide +kernel
theorem d_Mo_isDigitRead_21 : decode c_Mo_isDigitRead 21 = .ok (.iconst 2, 1) := by decide +kernel
theorem d_Mo_isDigitRead_22 : decode c_Mo_isDigitRead 22 = .ok (.aload_n 0, 1) := by decide +kernel
theorem d_Mo_isDigitRead_23 : decode c_Mo_isDigitRead 23 = .ok (.getfield 7, 3) := by decide +kernel
theorem d_Mo_isDigitRead_26 : decode c_Mo_isDigitRead 26 = .ok (.iconst 2, 1) := by decide +kernel
theorem d_Mo_isDigitRead_27 : decode c_Mo_isDigitRead 27 = .ok (.iaload, 1) := by decide +kernel
theorem d_Mo_isDigitRead_28 : decode c_Mo_isDigitRead 28 = .ok (.iconst 1, 1) := by decide +kernel
theorem d_Mo_isDigitRead_29 : decode c_Mo_isDigitRead 29 = .ok (.isub, 1) := by decide +kernel
theorem d_Mo_isDigitRead_30 : decode c_Mo_isDigitRead 30 = .ok (.invokestatic 114, 3) := by decide +kernel
theorem d_Mo_isDigitRead_33 : decode c_Mo_isDigitRead 33 = .ok (.istore_n 2, 1) := by decide +kernel
theorem d_Mo_isDigitRead_34 : decode c_Mo_isDigitRead 34 = .ok (.aload_n 0, 1) := by decide +kernel
theorem d_Mo_isDigitRead_35 : decode c_Mo_isDigitRead 35 = .ok (.getfield 16, 3) := by decide +kernel
theorem d_Mo_isDigitRead_38 : decode c_Mo_isDigitRead 38 = .ok (.iload_n 2, 1) := by decide +kernel
theorem d_Mo_isDigitRead_39 : decode c_Mo_isDigitRead 39 = .ok (.bipush 10, 2) := by decide +kernel
theorem d_Mo_isDigitRead_41 : decode c_Mo_isDigitRead 41 = .ok (.aload_n 0, 1) := by decide +kernel
theorem d_Mo_isDigitRead_42 : decode c_Mo_isDigitRead 42 = .ok (.getfield 16, 3) := by decide +kernel
theorem d_Mo_isDigitRead_45 : decode c_Mo_isDigitRead 45 = .ok (.iload_n 2, 1) := by decide +kernel
theorem d_Mo_isDigitRead_46 : decode c_Mo_isDigitRead 46 = .ok (.iaload, 1) := by decide +kernel
theorem d_Mo_isDigitRead_47 : decode c_Mo_isDigitRead 47 = .ok (.imul, 1) := by decide +kernel
theorem d_Mo_isDigitRead_48 : decode c_Mo_isDigitRead 48 = .ok (.iload_n 1, 1) := by decide +kernel
theorem d_Mo_isDigitRead_49 : decode c_Mo_isDigitRead 49 = .ok (.iadd, 1) := by decide +kernel
theorem d_Mo_isDigitRead_50 : decode c_Mo_isDigitRead 50 = .ok (.bipush 48, 2) := by decide +kernel
theorem d_Mo_isDigitRead_52 : decode c_Mo_isDigitRead 52 = .ok (.isub, 1) := by decide +kernel
theorem d_Mo_isDigitRead_53 : decode c_Mo_isDigitRead 53 = .ok (.iastore, 1) := by decide +kernel
theorem d_Mo_isDigitRead_54 : decode c_Mo_isDigitRead 54 = .ok (.aload_n 0, 1) := by decide +kernel
theorem d_Mo_isDigitRead_55 : decode c_Mo_isDigitRead 55 = .ok (.aload_n 0, 1) := by decide +kernel
theorem d_Mo_isDigitRead_56 : decode c_Mo_isDigitRead 56 = .ok (.getfield 134, 3) := by decide +kernel
theorem d_Mo_isDigitRead_59 : decode c_Mo_isDigitRead 59 = .ok (.iconst 1, 1) := by decide +kernel
theorem d_Mo_isDigitRead_60 : decode c_Mo_isDigitRead 60 = .ok (.if_icmp .ne 13, 3) := by decide +kernel
theorem d_Mo_isDigitRead_63 : decode c_Mo_isDigitRead 63 = .ok (.iload_n 1, 1) := by decide +kernel
theorem d_Mo_isDigitRead_64 : decode c_Mo_isDigitRead 64 = .ok (.bipush 48, 2) := by decide +kernel
theorem d_Mo_isDigitRead_66 : decode c_Mo_isDigitRead 66 = .ok (.if_icmp .eq 7, 3) := by decide +kernel
theorem d_Mo_isDigitRead_69 : decode c_Mo_isDigitRead 69 = .ok (.iconst 2, 1) := by decide +kernel
theorem d_Mo_isDigitRead_70 : decode c_Mo_isDigitRead 70 = .ok (.goto 4, 3) := by decide +kernel
theorem d_Mo_isDigitRead_73 : decode c_Mo_isDigitRead 73 = .ok (.iconst 3, 1) := by decide +kernel
theorem d_Mo_isDigitRead_74 : decode c_Mo_isDigitRead 74 = .ok (.putfield 134, 3) := by decide +kernel
theorem d_Mo_isDigitRead_77 : decode c_Mo_isDigitRead 77 = .ok (.iconst 1, 1) := by decide +kernel
theorem d_Mo_isDigitRead_78 : decode c_Mo_isDigitRead 78 = .ok (.ireturn, 1) := by decide +kernel
theorem d_Mo_isOther_0 : decode c_Mo_isOther 0 = .ok (.iload_n 1, 1) := by decide +kernel
theorem d_Mo_isOther_1 : decode c_Mo_isOther 1 = .ok (.bipush 40, 2) := by decide +kernel
theorem d_Mo_isOther_3 : decode c_Mo_isOther 3 = .ok (.if_icmp .ne 44, 3) := by decide +kernel
theorem d_Mo_isOther_6 : decode c_Mo_isOther 6 = .ok (.aload_n 0, 1) := by decide +kernel
theorem d_Mo_isOther_7 : decode c_Mo_isOther 7 = .ok (.getfield 137, 3) := by decide +kernel
theorem d_Mo_isOther_10 : decode c_Mo_isOther 10 = .ok (.ifCond .ne 37, 3) := by decide +kernel
theorem d_Mo_isOther_13 : decode c_Mo_isOther 13 = .ok (.aload_n 0, 1) := by decide +kernel
theorem d_Mo_isOther_14 : decode c_Mo_isOther 14 = .ok (.getfield 42, 3) := by decide +kernel
theorem d_Mo_isOther_17 : decode c_Mo_isOther 17 = .ok (.aload_n 0, 1) := by decide +kernel
theorem d_Mo_isOther_18 : decode c_Mo_isOther 18 = .ok (.getfield 131, 3) := by decide +kernel
theorem d_Mo_isOther_21 : decode c_Mo_isOther 21 = .ok (.aload_n 0, 1) := by decide +kernel
theorem d_Mo_isOther_22 : decode c_Mo_isOther 22 = .ok (.getfield 7, 3) := by decide +kernel
theorem d_Mo_isOther_25 : decode c_Mo_isOther 25 = .ok (.iconst 2, 1) := by decide +kernel
theorem d_Mo_isOther_26 : decode c_Mo_isOther 26 = .ok (.iaload, 1) := by decide +kernel
theorem d_Mo_isOther_27 : decode c_Mo_isOther 27 = .ok (.iconst 1, 1) := by decide +kernel
theorem d_Mo_isOther_28 : decode c_Mo_isOther 28 = .ok (.isub, 1) := by decide +kernel
theorem d_Mo_isOther_29 : decode c_Mo_isOther 29 = .ok (.iastore, 1) := by decide +kernel
theorem d_Mo_isOther_30 : decode c_Mo_isOther 30 = .ok (.aload_n 0, 1) := by decide +kernel
theorem d_Mo_isOther_31 : decode c_Mo_isOther 31 = .ok (.dup, 1) := by decide +kernel
theorem d_Mo_isOther_32 : decode c_Mo_isOther 32 = .ok (.getfield 131, 3) := by decide +kernel
theorem d_Mo_isOther_35 : decode c_Mo_isOther 35 = .ok (.iconst 1, 1) := by decide +kernel
theorem d_Mo_isOther_36 : decode c_Mo_isOther 36 = .ok (.iadd, 1) := by decide +kernel
theorem d_Mo_isOther_37 : decode c_Mo_isOther 37 = .ok (.putfield 131, 3) := by decide +kernel
theorem d_Mo_isOther_40 : decode c_Mo_isOther 40 = .ok (.aload_n 0, 1) := by decide +kernel
theorem d_Mo_isOther_41 : decode c_Mo_isOther 41 = .ok (.iconst 0, 1) := by decide +kernel
theorem d_Mo_isOther_42 : decode c_Mo_isOther 42 = .ok (.putfield 134, 3) := by decide +kernel
theorem d_Mo_isOther_45 : decode c_Mo_isOther 45 = .ok (.iconst 1, 1) := by decide +kernel
theorem d_Mo_isOther_46 : decode c_Mo_isOther 46 = .ok (.ireturn, 1) := by decide +kernel
theorem d_Mo_isOther_47 : decode c_Mo_isOther 47 = .ok (.aload_n 0, 1) := by decide +kernel
theorem d_Mo_isOther_48 : decode c_Mo_isOther 48 = .ok (.getfield 131, 3) := by decide +kernel
theorem d_Mo_isOther_51 : decode c_Mo_isOther 51 = .ok (.ifCond .eq 15, 3) := by decide +kernel
theorem d_Mo_isOther_54 : decode c_Mo_isOther 54 = .ok (.iload_n 1, 1) := by decide +kernel
theorem d_Mo_isOther_55 : decode c_Mo_isOther 55 = .ok (.bipush 32, 2) := by decide +kernel
theorem d_Mo_isOther_57 : decode c_Mo_isOther 57 = .ok (.if_icmp .eq 11, 3) := by decide +kernel
theorem d_Mo_isOther_60 : decode c_Mo_isOther 60 = .ok (.iload_n 1, 1) := by decide +kernel
theorem d_Mo_isOther_61 : decode c_Mo_isOther 61 = .ok (.bipush 41, 2) := by decide +kernel
theorem d_Mo_isOther_63 : decode c_Mo_isOther 63 = .ok (.if_icmp .eq 5, 3) := by decide +kernel
theorem d_Mo_isOther_66 : decode c_Mo_isOther 66 = .ok (.iconst 0, 1) := by decide +kernel
theorem d_Mo_isOther_67 : decode c_Mo_isOther 67 = .ok (.ireturn, 1) := by decide +kernel
theorem d_Mo_isOther_68 : decode c_Mo_isOther 68 = .ok (.aload_n 0, 1) := by decide +kernel
theorem d_Mo_isOther_69 : decode c_Mo_isOther 69 = .ok (.iload_n 1, 1) := by decide +kernel
theorem d_Mo_isOther_70 : decode c_Mo_isOther 70 = .ok (.bipush 32, 2) := by decide +kernel
theorem d_Mo_isOther_72 : decode c_Mo_isOther 72 = .ok (.if_icmp .ne 7, 3) := by decide +kernel
theorem d_Mo_isOther_75 : decode c_Mo_isOther 75 = .ok (.iconst 0, 1) := by decide +kernel
theorem d_Mo_isOther_76 : decode c_Mo_isOther 76 = .ok (.goto 4, 3) := by decide +kernel
theorem d_Mo_isOther_79 : decode c_Mo_isOther 79 = .ok (.iconst 3, 1) := by decide +kernel
theorem d_Mo_isOther_80 : decode c_Mo_isOther 80 = .ok (.putfield 134, 3) := by decide +kernel
theorem d_Mo_isOther_83 : decode c_Mo_isOther 83 = .ok (.aload_n 0, 1) := by decide +kernel
theorem d_Mo_isOther_84 : decode c_Mo_isOther 84 = .ok (.iload_n 1, 1) := by decide +kernel
theorem d_Mo_isOther_85 : decode c_Mo_isOther 85 = .ok (.bipush 41, 2) := by decide +kernel
theorem d_Mo_isOther_87 : decode c_Mo_isOther 87 = .ok (.if_icmp .ne 7, 3) := by decide +kernel
theorem d_Mo_isOther_90 : decode c_Mo_isOther 90 = .ok (.iconst 1, 1) := by decide +kernel
theorem d_Mo_isOther_91 : decode c_Mo_isOther 91 = .ok (.goto 4, 3) := by decide +kernel
theorem d_Mo_isOther_94 : decode c_Mo_isOther 94 = .ok (.iconst 0, 1) := by decide +kernel
theorem d_Mo_isOther_95 : decode c_Mo_isOther 95 = .ok (.putfield 137, 3) := by decide +kernel
theorem d_Mo_isOther_98 : decode c_Mo_isOther 98 = .ok (.aload_n 0, 1) := by decide +kernel
theorem d_Mo_isOther_99 : decode c_Mo_isOther 99 = .ok (.dup, 1) := by decide +kernel
theorem d_Mo_isOther_100 : decode c_Mo_isOther 100 = .ok (.getfield 131, 3) := by decide +kernel
theorem d_Mo_isOther_103 : decode c_Mo_isOther 103 = .ok (.aload_n 0, 1) := by decide +kernel
theorem d_Mo_isOther_104 : decode c_Mo_isOther 104 = .ok (.getfield 137, 3) := by decide +kernel
theorem d_Mo_isOther_107 : decode c_Mo_isOther 107 = .ok (.ifCond .eq 7, 3) := by decide +kernel
theorem d_Mo_isOther_110 : decode c_Mo_isOther 110 = .ok (.iconst 1, 1) := by decide +kernel
theorem d_Mo_isOther_111 : decode c_Mo_isOther 111 = .ok (.goto 4, 3) := by decide +kernel
theorem d_Mo_isOther_114 : decode c_Mo_isOther 114 = .ok (.iconst 0, 1) := by decide +kernel
theorem d_Mo_isOther_115 : decode c_Mo_isOther 115 = .ok (.isub, 1) := by decide +kernel
theorem d_Mo_isOther_116 : decode c_Mo_isOther 116 = .ok (.putfield 131, 3) := by decide +kernel
theorem d_Mo_isOther_119 : decode c_Mo_isOther 119 = .ok (.iconst 1, 1) := by decide +kernel
theorem d_Mo_isOther_120 : decode c_Mo_isOther 120 = .ok (.ireturn, 1) := by decide +kernel
theorem d_Mo_isText_0 : decode c_Mo_isText 0 = .ok (.aload_n 0, 1) := by decide +kernel
theorem d_Mo_isText_1 : decode c_Mo_isText 1 = .ok (.iconst 0, 1) := by decide +kernel
theorem d_Mo_isText_2 : decode c_Mo_isText 2 = .ok (.putfield 128, 3) := by decide +kernel
theorem d_Mo_isText_5 : decode c_Mo_isText 5 = .ok (.aload_n 0, 1) := by decide +kernel
theorem d_Mo_isText_6 : decode c_Mo_isText 6 = .ok (.iconst 0, 1) := by decide +kernel
theorem d_Mo_isText_7 : decode c_Mo_isText 7 = .ok (.putfield 131, 3) := by decide +kernel
theorem d_Mo_isText_10 : decode c_Mo_isText 10 = .ok (.aload_n 0, 1) := by decide +kernel
theorem d_Mo_isText_11 : decode c_Mo_isText 11 = .ok (.iconst 0, 1) := by decide +kernel
theorem d_Mo_isText_12 : decode c_Mo_isText 12 = .ok (.putfield 134, 3) := by decide +kernel
theorem d_Mo_isText_15 : decode c_Mo_isText 15 = .ok (.aload_n 0, 1) := by decide +kernel
theorem d_Mo_isText_16 : decode c_Mo_isText 16 = .ok (.iconst 0, 1) := by decide +kernel
theorem d_Mo_isText_17 : decode c_Mo_isText 17 = .ok (.putfield 137, 3) := by decide +kernel
theorem d_Mo_isText_20 : decode c_Mo_isText 20 = .ok (.aload_n 0, 1) := by decide +kernel
theorem d_Mo_isText_21 : decode c_Mo_isText 21 = .ok (.getfield 7, 3) := by decide +kernel
theorem d_Mo_isText_24 : decode c_Mo_isText 24 = .ok (.iconst 2, 1) := by decide +kernel
theorem d_Mo_isText_25 : decode c_Mo_isText 25 = .ok (.iconst 0, 1) := by decide +kernel
theorem d_Mo_isText_26 : decode c_Mo_isText 26 = .ok (.iastore, 1) := by decide +kernel
theorem d_Mo_isText_27 : decode c_Mo_isText 27 = .ok (.iconst 1, 1) := by decide +kernel
theorem d_Mo_isText_28 : decode c_Mo_isText 28 = .ok (.istore_n 1, 1) := by decide +kernel
theorem d_Mo_isText_29 : decode c_Mo_isText 29 = .ok (.iload_n 1, 1) := by decide +kernel
theorem d_Mo_isText_30 : decode c_Mo_isText 30 = .ok (.ifCond .eq 83, 3) := by decide +kernel
theorem d_Mo_isText_33 : decode c_Mo_isText 33 = .ok (.aload_n 0, 1) := by decide +kernel
theorem d_Mo_isText_34 : decode c_Mo_isText 34 = .ok (.getfield 128, 3) := by decide +kernel
theorem d_Mo_isText_37 : decode c_Mo_isText 37 = .ok (.aload_n 0, 1) := by decide +kernel
theorem d_Mo_isText_38 : decode c_Mo_isText 38 = .ok (.getfield 125, 3) := by decide +kernel
theorem d_Mo_isText_41 : decode c_Mo_isText 41 = .ok (.if_icmp .ge 72, 3) := by decide +kernel
theorem d_Mo_isText_44 : decode c_Mo_isText 44 = .ok (.aload_n 0, 1) := by decide +kernel
theorem d_Mo_isText_45 : decode c_Mo_isText 45 = .ok (.invokevirtual 141, 3) := by decide +kernel
theorem d_Mo_isText_48 : decode c_Mo_isText 48 = .ok (.istore_n 2, 1) := by decide +kernel
theorem d_Mo_isText_49 : decode c_Mo_isText 49 = .ok (.aload_n 0, 1) := by decide +kernel
theorem d_Mo_isText_50 : decode c_Mo_isText 50 = .ok (.getfield 134, 3) := by decide +kernel
theorem d_Mo_isText_53 : decode c_Mo_isText 53 = .ok (.ifCond .ne 17, 3) := by decide +kernel
theorem d_Mo_isText_56 : decode c_Mo_isText 56 = .ok (.aload_n 0, 1) := by decide +kernel
theorem d_Mo_isText_57 : decode c_Mo_isText 57 = .ok (.iconst 0, 1) := by decide +kernel
theorem d_Mo_isText_58 : decode c_Mo_isText 58 = .ok (.putfield 137, 3) := by decide +kernel
theorem d_Mo_isText_61 : decode c_Mo_isText 61 = .ok (.aload_n 0, 1) := by decide +kernel
theorem d_Mo_isText_62 : decode c_Mo_isText 62 = .ok (.iload_n 2, 1) := by decide +kernel
theorem d_Mo_isText_63 : decode c_Mo_isText 63 = .ok (.invokevirtual 145, 3) := by decide +kernel
theorem d_Mo_isText_66 : decode c_Mo_isText 66 = .ok (.istore_n 1, 1) := by decide +kernel
theorem d_Mo_isText_67 : decode c_Mo_isText 67 = .ok (.goto 25, 3) := by decide +kernel
theorem d_Mo_isText_70 : decode c_Mo_isText 70 = .ok (.aload_n 0, 1) := by decide +kernel
theorem d_Mo_isText_71 : decode c_Mo_isText 71 = .ok (.iload_n 2, 1) := by decide +kernel
theorem d_Mo_isText_72 : decode c_Mo_isText 72 = .ok (.invokevirtual 149, 3) := by decide +kernel
theorem d_Mo_isText_75 : decode c_Mo_isText 75 = .ok (.ifCond .ne 11, 3) := by decide +kernel
theorem d_Mo_isText_78 : decode c_Mo_isText 78 = .ok (.aload_n 0, 1) := by decide +kernel
theorem d_Mo_isText_79 : decode c_Mo_isText 79 = .ok (.iload_n 2, 1) := by decide +kernel
theorem d_Mo_isText_80 : decode c_Mo_isText 80 = .ok (.invokevirtual 152, 3) := by decide +kernel
theorem d_Mo_isText_83 : decode c_Mo_isText 83 = .ok (.ifCond .eq 7, 3) := by decide +kernel
theorem d_Mo_isText_86 : decode c_Mo_isText 86 = .ok (.iconst 1, 1) := by decide +kernel
theorem d_Mo_isText_87 : decode c_Mo_isText 87 = .ok (.goto 4, 3) := by decide +kernel
theorem d_Mo_isText_90 : decode c_Mo_isText 90 = .ok (.iconst 0, 1) := by decide +kernel
theorem d_Mo_isText_91 : decode c_Mo_isText 91 = .ok (.istore_n 1, 1) := by decide +kernel
theorem d_Mo_isText_92 : decode c_Mo_isText 92 = .ok (.aload_n 0, 1) := by decide +kernel
theorem d_Mo_isText_93 : decode c_Mo_isText 93 = .ok (.dup, 1) := by decide +kernel
theorem d_Mo_isText_94 : decode c_Mo_isText 94 = .ok (.getfield 128, 3) := by decide +kernel
theorem d_Mo_isText_97 : decode c_Mo_isText 97 = .ok (.iload_n 1, 1) := by decide +kernel
theorem d_Mo_isText_98 : decode c_Mo_isText 98 = .ok (.ifCond .eq 7, 3) := by decide +kernel
theorem d_Mo_isText_101 : decode c_Mo_isText 101 = .ok (.iconst 1, 1) := by decide +kernel
theorem d_Mo_isText_102 : decode c_Mo_isText 102 = .ok (.goto 4, 3) := by decide +kernel
theorem d_Mo_isText_105 : decode c_Mo_isText 105 = .ok (.iconst 0, 1) := by decide +kernel
theorem d_Mo_isText_106 : decode c_Mo_isText 106 = .ok (.iadd, 1) := by decide +kernel
theorem d_Mo_isText_107 : decode c_Mo_isText 107 = .ok (.putfield 128, 3) := by decide +kernel
theorem d_Mo_isText_110 : decode c_Mo_isText 110 = .ok (.goto (-81), 3) := by decide +kernel
theorem d_Mo_isText_113 : decode c_Mo_isText 113 = .ok (.iload_n 1, 1) := by decide +kernel
theorem d_Mo_isText_114 : decode c_Mo_isText 114 = .ok (.ifCond .eq 21, 3) := by decide +kernel
theorem d_Mo_isText_117 : decode c_Mo_isText 117 = .ok (.aload_n 0, 1) := by decide +kernel
theorem d_Mo_isText_118 : decode c_Mo_isText 118 = .ok (.getfield 134, 3) := by decide +kernel
theorem d_Mo_isText_121 : decode c_Mo_isText 121 = .ok (.ifCond .le 14, 3) := by decide +kernel
theorem d_Mo_isText_124 : decode c_Mo_isText 124 = .ok (.aload_n 0, 1) := by decide +kernel
theorem d_Mo_isText_125 : decode c_Mo_isText 125 = .ok (.getfield 131, 3) := by decide +kernel
theorem d_Mo_isText_128 : decode c_Mo_isText 128 = .ok (.ifCond .ne 7, 3) := by decide +kernel
theorem d_Mo_isText_131 : decode c_Mo_isText 131 = .ok (.iconst 1, 1) := by decide +kernel
theorem d_Mo_isText_132 : decode c_Mo_isText 132 = .ok (.goto 4, 3) := by decide +kernel
theorem d_Mo_isText_135 : decode c_Mo_isText 135 = .ok (.iconst 0, 1) := by decide +kernel
theorem d_Mo_isText_136 : decode c_Mo_isText 136 = .ok (.ireturn, 1) := by decide +kernel
theorem d_Mo_faultPosition_0 : decode c_Mo_faultPosition 0 = .ok (.aload_n 0, 1) := by decide +kernel
theorem d_Mo_faultPosition_1 : decode c_Mo_faultPosition 1 = .ok (.invokevirtual 155, 3) := by decide +kernel
theorem d_Mo_faultPosition_4 : decode c_Mo_faultPosition 4 = .ok (.ifCond .eq 8, 3) := by decide +kernel
theorem d_Mo_faultPosition_7 : decode c_Mo_faultPosition 7 = .ok (.bipush (-15), 2) := by decide +kernel
theorem d_Mo_faultPosition_9 : decode c_Mo_faultPosition 9 = .ok (.goto 7, 3) := by decide +kernel
theorem d_Mo_faultPosition_12 : decode c_Mo_faultPosition 12 = .ok (.aload_n 0, 1) := by decide +kernel
theorem d_Mo_faultPosition_13 : decode c_Mo_faultPosition 13 = .ok (.getfield 128, 3) := by decide +kernel
theorem d_Mo_faultPosition_16 : decode c_Mo_faultPosition 16 = .ok (.ireturn, 1) := by decide +kernel
theorem d_Mo_faultDepth_0 : decode c_Mo_faultDepth 0 = .ok (.aload_n 0, 1) := by decide +kernel
theorem d_Mo_faultDepth_1 : decode c_Mo_faultDepth 1 = .ok (.invokevirtual 155, 3) := by decide +kernel
theorem d_Mo_faultDepth_4 : decode c_Mo_faultDepth 4 = .ok (.ifCond .eq 8, 3) := by decide +kernel
theorem d_Mo_faultDepth_7 : decode c_Mo_faultDepth 7 = .ok (.bipush (-15), 2) := by decide +kernel
theorem d_Mo_faultDepth_9 : decode c_Mo_faultDepth 9 = .ok (.goto 7, 3) := by decide +kernel
theorem d_Mo_faultDepth_12 : decode c_Mo_faultDepth 12 = .ok (.aload_n 0, 1) := by decide +kernel
theorem d_Mo_faultDepth_13 : decode c_Mo_faultDepth 13 = .ok (.getfield 131, 3) := by decide +kernel
theorem d_Mo_faultDepth_16 : decode c_Mo_faultDepth 16 = .ok (.ireturn, 1) := by decide +kernel
theorem d_Mo_copiesTree_0 : decode c_Mo_copiesTree 0 = .ok (.aload_n 0, 1) := by decide +kernel
theorem d_Mo_copiesTree_1 : decode c_Mo_copiesTree 1 = .ok (.getfield 7, 3) := by decide +kernel
theorem d_Mo_copiesTree_4 : decode c_Mo_copiesTree 4 = .ok (.iload_n 2, 1) := by decide +kernel
theorem d_Mo_copiesTree_5 : decode c_Mo_copiesTree 5 = .ok (.aload_n 0, 1) := by decide +kernel
theorem d_Mo_copiesTree_6 : decode c_Mo_copiesTree 6 = .ok (.getfield 7, 3) := by decide +kernel
theorem d_Mo_copiesTree_9 : decode c_Mo_copiesTree 9 = .ok (.iload_n 1, 1) := by decide +kernel
theorem d_Mo_copiesTree_10 : decode c_Mo_copiesTree 10 = .ok (.iaload, 1) := by decide +kernel
theorem d_Mo_copiesTree_11 : decode c_Mo_copiesTree 11 = .ok (.iastore, 1) := by decide +kernel
theorem d_Mo_copiesTree_12 : decode c_Mo_copiesTree 12 = .ok (.iconst 0, 1) := by decide +kernel
theorem d_Mo_copiesTree_13 : decode c_Mo_copiesTree 13 = .ok (.istore_n 3, 1) := by decide +kernel
theorem d_Mo_copiesTree_14 : decode c_Mo_copiesTree 14 = .ok (.iload_n 3, 1) := by decide +kernel
theorem d_Mo_copiesTree_15 : decode c_Mo_copiesTree 15 = .ok (.bipush 24, 2) := by decide +kernel
theorem d_Mo_copiesTree_17 : decode c_Mo_copiesTree 17 = .ok (.if_icmp .ge 69, 3) := by decide +kernel
theorem d_Mo_copiesTree_20 : decode c_Mo_copiesTree 20 = .ok (.aload_n 0, 1) := by decide +kernel
theorem d_Mo_copiesTree_21 : decode c_Mo_copiesTree 21 = .ok (.getfield 13, 3) := by decide +kernel
theorem d_Mo_copiesTree_24 : decode c_Mo_copiesTree 24 = .ok (.iload_n 2, 1) := by decide +kernel
theorem d_Mo_copiesTree_25 : decode c_Mo_copiesTree 25 = .ok (.iload_n 3, 1) := by decide +kernel
theorem d_Mo_copiesTree_26 : decode c_Mo_copiesTree 26 = .ok (.invokestatic 114, 3) := by decide +kernel
theorem d_Mo_copiesTree_29 : decode c_Mo_copiesTree 29 = .ok (.aload_n 0, 1) := by decide +kernel
theorem d_Mo_copiesTree_30 : decode c_Mo_copiesTree 30 = .ok (.getfield 13, 3) := by decide +kernel
theorem d_Mo_copiesTree_33 : decode c_Mo_copiesTree 33 = .ok (.iload_n 1, 1) := by decide +kernel
theorem d_Mo_copiesTree_34 : decode c_Mo_copiesTree 34 = .ok (.iload_n 3, 1) := by decide +kernel
theorem d_Mo_copiesTree_35 : decode c_Mo_copiesTree 35 = .ok (.invokestatic 114, 3) := by decide +kernel
theorem d_Mo_copiesTree_38 : decode c_Mo_copiesTree 38 = .ok (.iaload, 1) := by decide +kernel
theorem d_Mo_copiesTree_39 : decode c_Mo_copiesTree 39 = .ok (.iastore, 1) := by decide +kernel
theorem d_Mo_copiesTree_40 : decode c_Mo_copiesTree 40 = .ok (.aload_n 0, 1) := by decide +kernel
theorem d_Mo_copiesTree_41 : decode c_Mo_copiesTree 41 = .ok (.getfield 16, 3) := by decide +kernel
theorem d_Mo_copiesTree_44 : decode c_Mo_copiesTree 44 = .ok (.iload_n 2, 1) := by decide +kernel
theorem d_Mo_copiesTree_45 : decode c_Mo_copiesTree 45 = .ok (.iload_n 3, 1) := by decide +kernel
theorem d_Mo_copiesTree_46 : decode c_Mo_copiesTree 46 = .ok (.invokestatic 114, 3) := by decide +kernel
theorem d_Mo_copiesTree_49 : decode c_Mo_copiesTree 49 = .ok (.aload_n 0, 1) := by decide +kernel
theorem d_Mo_copiesTree_50 : decode c_Mo_copiesTree 50 = .ok (.getfield 16, 3) := by decide +kernel
theorem d_Mo_copiesTree_53 : decode c_Mo_copiesTree 53 = .ok (.iload_n 1, 1) := by decide +kernel
theorem d_Mo_copiesTree_54 : decode c_Mo_copiesTree 54 = .ok (.iload_n 3, 1) := by decide +kernel
theorem d_Mo_copiesTree_55 : decode c_Mo_copiesTree 55 = .ok (.invokestatic 114, 3) := by decide +kernel
theorem d_Mo_copiesTree_58 : decode c_Mo_copiesTree 58 = .ok (.iaload, 1) := by decide +kernel
theorem d_Mo_copiesTree_59 : decode c_Mo_copiesTree 59 = .ok (.iastore, 1) := by decide +kernel
theorem d_Mo_copiesTree_60 : decode c_Mo_copiesTree 60 = .ok (.aload_n 0, 1) := by decide +kernel
theorem d_Mo_copiesTree_61 : decode c_Mo_copiesTree 61 = .ok (.getfield 19, 3) := by decide +kernel
theorem d_Mo_copiesTree_64 : decode c_Mo_copiesTree 64 = .ok (.iload_n 2, 1) := by decide +kernel
theorem d_Mo_copiesTree_65 : decode c_Mo_copiesTree 65 = .ok (.iload_n 3, 1) := by decide +kernel
theorem d_Mo_copiesTree_66 : decode c_Mo_copiesTree 66 = .ok (.invokestatic 114, 3) := by decide +kernel
theorem d_Mo_copiesTree_69 : decode c_Mo_copiesTree 69 = .ok (.aload_n 0, 1) := by decide +kernel
theorem d_Mo_copiesTree_70 : decode c_Mo_copiesTree 70 = .ok (.getfield 19, 3) := by decide +kernel
theorem d_Mo_copiesTree_73 : decode c_Mo_copiesTree 73 = .ok (.iload_n 1, 1) := by decide +kernel
theorem d_Mo_copiesTree_74 : decode c_Mo_copiesTree 74 = .ok (.iload_n 3, 1) := by decide +kernel
theorem d_Mo_copiesTree_75 : decode c_Mo_copiesTree 75 = .ok (.invokestatic 114, 3) := by decide +kernel
theorem d_Mo_copiesTree_78 : decode c_Mo_copiesTree 78 = .ok (.iaload, 1) := by decide +kernel
theorem d_Mo_copiesTree_79 : decode c_Mo_copiesTree 79 = .ok (.iastore, 1) := by decide +kernel
theorem d_Mo_copiesTree_80 : decode c_Mo_copiesTree 80 = .ok (.iinc 3 1, 3) := by decide +kernel
theorem d_Mo_copiesTree_83 : decode c_Mo_copiesTree 83 = .ok (.goto (-69), 3) := by decide +kernel
theorem d_Mo_copiesTree_86 : decode c_Mo_copiesTree 86 = .ok (.return_, 1) := by decide +kernel
theorem d_Mo_read_0 : decode c_Mo_read 0 = .ok (.iload_n 1, 1) := by decide +kernel
theorem d_Mo_read_1 : decode c_Mo_read 1 = .ok (.iconst 0, 1) := by decide +kernel
theorem d_Mo_read_2 : decode c_Mo_read 2 = .ok (.iconst 1, 1) := by decide +kernel
theorem d_Mo_read_3 : decode c_Mo_read 3 = .ok (.invokestatic 121, 3) := by decide +kernel
theorem d_Mo_read_6 : decode c_Mo_read 6 = .ok (.ifCond .ne 6, 3) := by decide +kernel
theorem d_Mo_read_9 : decode c_Mo_read 9 = .ok (.bipush (-11), 2) := by decide +kernel
theorem d_Mo_read_11 : decode c_Mo_read 11 = .ok (.ireturn, 1) := by decide +kernel
theorem d_Mo_read_12 : decode c_Mo_read 12 = .ok (.aload_n 0, 1) := by decide +kernel
theorem d_Mo_read_13 : decode c_Mo_read 13 = .ok (.invokevirtual 155, 3) := by decide +kernel
theorem d_Mo_read_16 : decode c_Mo_read 16 = .ok (.ifCond .ne 6, 3) := by decide +kernel
theorem d_Mo_read_19 : decode c_Mo_read 19 = .ok (.bipush (-13), 2) := by decide +kernel
theorem d_Mo_read_21 : decode c_Mo_read 21 = .ok (.ireturn, 1) := by decide +kernel
theorem d_Mo_read_22 : decode c_Mo_read 22 = .ok (.aload_n 0, 1) := by decide +kernel
theorem d_Mo_read_23 : decode c_Mo_read 23 = .ok (.iconst 2, 1) := by decide +kernel
theorem d_Mo_read_24 : decode c_Mo_read 24 = .ok (.iload_n 1, 1) := by decide +kernel
theorem d_Mo_read_25 : decode c_Mo_read 25 = .ok (.invokevirtual 159, 3) := by decide +kernel
theorem d_Mo_read_28 : decode c_Mo_read 28 = .ok (.aload_n 0, 1) := by decide +kernel
theorem d_Mo_read_29 : decode c_Mo_read 29 = .ok (.invokevirtual 118, 3) := by decide +kernel
theorem d_Mo_read_32 : decode c_Mo_read 32 = .ok (.aload_n 0, 1) := by decide +kernel
theorem d_Mo_read_33 : decode c_Mo_read 33 = .ok (.getfield 7, 3) := by decide +kernel
theorem d_Mo_read_36 : decode c_Mo_read 36 = .ok (.iload_n 1, 1) := by decide +kernel
theorem d_Mo_read_37 : decode c_Mo_read 37 = .ok (.iaload, 1) := by decide +kernel
theorem d_Mo_read_38 : decode c_Mo_read 38 = .ok (.ireturn, 1) := by decide +kernel
theorem d_Mo_exchange_0 : decode c_Mo_exchange 0 = .ok (.aload_n 0, 1) := by decide +kernel
theorem d_Mo_exchange_1 : decode c_Mo_exchange 1 = .ok (.iconst 0, 1) := by decide +kernel
theorem d_Mo_exchange_2 : decode c_Mo_exchange 2 = .ok (.iconst 2, 1) := by decide +kernel
theorem d_Mo_exchange_3 : decode c_Mo_exchange 3 = .ok (.invokevirtual 159, 3) := by decide +kernel
theorem d_Mo_exchange_6 : decode c_Mo_exchange 6 = .ok (.aload_n 0, 1) := by decide +kernel
theorem d_Mo_exchange_7 : decode c_Mo_exchange 7 = .ok (.iconst 1, 1) := by decide +kernel
theorem d_Mo_exchange_8 : decode c_Mo_exchange 8 = .ok (.iconst 0, 1) := by decide +kernel
theorem d_Mo_exchange_9 : decode c_Mo_exchange 9 = .ok (.invokevirtual 159, 3) := by decide +kernel
theorem d_Mo_exchange_12 : decode c_Mo_exchange 12 = .ok (.aload_n 0, 1) := by decide +kernel
theorem d_Mo_exchange_13 : decode c_Mo_exchange 13 = .ok (.iconst 2, 1) := by decide +kernel
theorem d_Mo_exchange_14 : decode c_Mo_exchange 14 = .ok (.iconst 1, 1) := by decide +kernel
theorem d_Mo_exchange_15 : decode c_Mo_exchange 15 = .ok (.invokevirtual 159, 3) := by decide +kernel
theorem d_Mo_exchange_18 : decode c_Mo_exchange 18 = .ok (.aload_n 0, 1) := by decide +kernel
theorem d_Mo_exchange_19 : decode c_Mo_exchange 19 = .ok (.invokevirtual 118, 3) := by decide +kernel
theorem d_Mo_exchange_22 : decode c_Mo_exchange 22 = .ok (.aload_n 0, 1) := by decide +kernel
theorem d_Mo_exchange_23 : decode c_Mo_exchange 23 = .ok (.getfield 7, 3) := by decide +kernel
theorem d_Mo_exchange_26 : decode c_Mo_exchange 26 = .ok (.iconst 0, 1) := by decide +kernel
theorem d_Mo_exchange_27 : decode c_Mo_exchange 27 = .ok (.iaload, 1) := by decide +kernel
theorem d_Mo_exchange_28 : decode c_Mo_exchange 28 = .ok (.ireturn, 1) := by decide +kernel
theorem d_Mo_measures_0 : decode c_Mo_measures 0 = .ok (.iconst 0, 1) := by decide +kernel
theorem d_Mo_measures_1 : decode c_Mo_measures 1 = .ok (.istore_n 2, 1) := by decide +kernel
theorem d_Mo_measures_2 : decode c_Mo_measures 2 = .ok (.iload_n 2, 1) := by decide +kernel
theorem d_Mo_measures_3 : decode c_Mo_measures 3 = .ok (.aload_n 0, 1) := by decide +kernel
theorem d_Mo_measures_4 : decode c_Mo_measures 4 = .ok (.getfield 7, 3) := by decide +kernel
theorem d_Mo_measures_7 : decode c_Mo_measures 7 = .ok (.iload_n 1, 1) := by decide +kernel
theorem d_Mo_measures_8 : decode c_Mo_measures 8 = .ok (.iaload, 1) := by decide +kernel
theorem d_Mo_measures_9 : decode c_Mo_measures 9 = .ok (.if_icmp .ge 31, 3) := by decide +kernel
theorem d_Mo_measures_12 : decode c_Mo_measures 12 = .ok (.aload_n 0, 1) := by decide +kernel
theorem d_Mo_measures_13 : decode c_Mo_measures 13 = .ok (.getfield 45, 3) := by decide +kernel
theorem d_Mo_measures_16 : decode c_Mo_measures 16 = .ok (.iload_n 1, 1) := by decide +kernel
theorem d_Mo_measures_17 : decode c_Mo_measures 17 = .ok (.iload_n 2, 1) := by decide +kernel
theorem d_Mo_measures_18 : decode c_Mo_measures 18 = .ok (.invokestatic 114, 3) := by decide +kernel
theorem d_Mo_measures_21 : decode c_Mo_measures 21 = .ok (.iconst 1, 1) := by decide +kernel
theorem d_Mo_measures_22 : decode c_Mo_measures 22 = .ok (.iastore, 1) := by decide +kernel
theorem d_Mo_measures_23 : decode c_Mo_measures 23 = .ok (.aload_n 0, 1) := by decide +kernel
theorem d_Mo_measures_24 : decode c_Mo_measures 24 = .ok (.getfield 48, 3) := by decide +kernel
theorem d_Mo_measures_27 : decode c_Mo_measures 27 = .ok (.iload_n 1, 1) := by decide +kernel
theorem d_Mo_measures_28 : decode c_Mo_measures 28 = .ok (.iload_n 2, 1) := by decide +kernel
theorem d_Mo_measures_29 : decode c_Mo_measures 29 = .ok (.invokestatic 114, 3) := by decide +kernel
theorem d_Mo_measures_32 : decode c_Mo_measures 32 = .ok (.iconst 1, 1) := by decide +kernel
theorem d_Mo_measures_33 : decode c_Mo_measures 33 = .ok (.iastore, 1) := by decide +kernel
theorem d_Mo_measures_34 : decode c_Mo_measures 34 = .ok (.iinc 2 1, 3) := by decide +kernel
theorem d_Mo_measures_37 : decode c_Mo_measures 37 = .ok (.goto (-35), 3) := by decide +kernel
theorem d_Mo_measures_40 : decode c_Mo_measures 40 = .ok (.aload_n 0, 1) := by decide +kernel
theorem d_Mo_measures_41 : decode c_Mo_measures 41 = .ok (.getfield 7, 3) := by decide +kernel
theorem d_Mo_measures_44 : decode c_Mo_measures 44 = .ok (.iload_n 1, 1) := by decide +kernel
theorem d_Mo_measures_45 : decode c_Mo_measures 45 = .ok (.iaload, 1) := by decide +kernel
theorem d_Mo_measures_46 : decode c_Mo_measures 46 = .ok (.iconst 1, 1) := by decide +kernel
theorem d_Mo_measures_47 : decode c_Mo_measures 47 = .ok (.isub, 1) := by decide +kernel
theorem d_Mo_measures_48 : decode c_Mo_measures 48 = .ok (.istore_n 2, 1) := by decide +kernel
theorem d_Mo_measures_49 : decode c_Mo_measures 49 = .ok (.iload_n 2, 1) := by decide +kernel
theorem d_Mo_measures_50 : decode c_Mo_measures 50 = .ok (.ifCond .le 85, 3) := by decide +kernel
theorem d_Mo_measures_53 : decode c_Mo_measures 53 = .ok (.iload_n 1, 1) := by decide +kernel
theorem d_Mo_measures_54 : decode c_Mo_measures 54 = .ok (.aload_n 0, 1) := by decide +kernel
theorem d_Mo_measures_55 : decode c_Mo_measures 55 = .ok (.getfield 19, 3) := by decide +kernel
theorem d_Mo_measures_58 : decode c_Mo_measures 58 = .ok (.iload_n 1, 1) := by decide +kernel
theorem d_Mo_measures_59 : decode c_Mo_measures 59 = .ok (.iload_n 2, 1) := by decide +kernel
theorem d_Mo_measures_60 : decode c_Mo_measures 60 = .ok (.invokestatic 114, 3) := by decide +kernel
theorem d_Mo_measures_63 : decode c_Mo_measures 63 = .ok (.iaload, 1) := by decide +kernel
theorem d_Mo_measures_64 : decode c_Mo_measures 64 = .ok (.invokestatic 114, 3) := by decide +kernel
theorem d_Mo_measures_67 : decode c_Mo_measures 67 = .ok (.istore_n 3, 1) := by decide +kernel
theorem d_Mo_measures_68 : decode c_Mo_measures 68 = .ok (.aload_n 0, 1) := by decide +kernel
theorem d_Mo_measures_69 : decode c_Mo_measures 69 = .ok (.getfield 48, 3) := by decide +kernel
theorem d_Mo_measures_72 : decode c_Mo_measures 72 = .ok (.iload_n 1, 1) := by decide +kernel
theorem d_Mo_measures_73 : decode c_Mo_measures 73 = .ok (.iload_n 2, 1) := by decide +kernel
theorem d_Mo_measures_74 : decode c_Mo_measures 74 = .ok (.invokestatic 114, 3) := by decide +kernel
theorem d_Mo_measures_77 : decode c_Mo_measures 77 = .ok (.iaload, 1) := by decide +kernel
theorem d_Mo_measures_78 : decode c_Mo_measures 78 = .ok (.iconst 1, 1) := by decide +kernel
theorem d_Mo_measures_79 : decode c_Mo_measures 79 = .ok (.iadd, 1) := by decide +kernel
theorem d_Mo_measures_80 : decode c_Mo_measures 80 = .ok (.istore 4, 2) := by decide +kernel
theorem d_Mo_measures_82 : decode c_Mo_measures 82 = .ok (.aload_n 0, 1) := by decide +kernel
theorem d_Mo_measures_83 : decode c_Mo_measures 83 = .ok (.getfield 45, 3) := by decide +kernel
theorem d_Mo_measures_86 : decode c_Mo_measures 86 = .ok (.iload_n 3, 1) := by decide +kernel
theorem d_Mo_measures_87 : decode c_Mo_measures 87 = .ok (.dup2, 1) := by decide +kernel
theorem d_Mo_measures_88 : decode c_Mo_measures 88 = .ok (.iaload, 1) := by decide +kernel
theorem d_Mo_measures_89 : decode c_Mo_measures 89 = .ok (.aload_n 0, 1) := by decide +kernel
theorem d_Mo_measures_90 : decode c_Mo_measures 90 = .ok (.getfield 45, 3) := by decide +kernel
theorem d_Mo_measures_93 : decode c_Mo_measures 93 = .ok (.iload_n 1, 1) := by decide +kernel
theorem d_Mo_measures_94 : decode c_Mo_measures 94 = .ok (.iload_n 2, 1) := by decide +kernel
theorem d_Mo_measures_95 : decode c_Mo_measures 95 = .ok (.invokestatic 114, 3) := by decide +kernel
theorem d_Mo_measures_98 : decode c_Mo_measures 98 = .ok (.iaload, 1) := by decide +kernel
theorem d_Mo_measures_99 : decode c_Mo_measures 99 = .ok (.iadd, 1) := by decide +kernel
theorem d_Mo_measures_100 : decode c_Mo_measures 100 = .ok (.iastore, 1) := by decide +kernel
theorem d_Mo_measures_101 : decode c_Mo_measures 101 = .ok (.aload_n 0, 1) := by decide +kernel
theorem d_Mo_measures_102 : decode c_Mo_measures 102 = .ok (.getfield 48, 3) := by decide +kernel
theorem d_Mo_measures_105 : decode c_Mo_measures 105 = .ok (.iload_n 3, 1) := by decide +kernel
theorem d_Mo_measures_106 : decode c_Mo_measures 106 = .ok (.iload 4, 2) := by decide +kernel
theorem d_Mo_measures_108 : decode c_Mo_measures 108 = .ok (.aload_n 0, 1) := by decide +kernel
theorem d_Mo_measures_109 : decode c_Mo_measures 109 = .ok (.getfield 48, 3) := by decide +kernel
theorem d_Mo_measures_112 : decode c_Mo_measures 112 = .ok (.iload_n 3, 1) := by decide +kernel
theorem d_Mo_measures_113 : decode c_Mo_measures 113 = .ok (.iaload, 1) := by decide +kernel
theorem d_Mo_measures_114 : decode c_Mo_measures 114 = .ok (.if_icmp .le 8, 3) := by decide +kernel
theorem d_Mo_measures_117 : decode c_Mo_measures 117 = .ok (.iload 4, 2) := by decide +kernel
theorem d_Mo_measures_119 : decode c_Mo_measures 119 = .ok (.goto 9, 3) := by decide +kernel
theorem d_Mo_measures_122 : decode c_Mo_measures 122 = .ok (.aload_n 0, 1) := by decide +kernel
theorem d_Mo_measures_123 : decode c_Mo_measures 123 = .ok (.getfield 48, 3) := by decide +kernel
theorem d_Mo_measures_126 : decode c_Mo_measures 126 = .ok (.iload_n 3, 1) := by decide +kernel
theorem d_Mo_measures_127 : decode c_Mo_measures 127 = .ok (.iaload, 1) := by decide +kernel
theorem d_Mo_measures_128 : decode c_Mo_measures 128 = .ok (.iastore, 1) := by decide +kernel
theorem d_Mo_measures_129 : decode c_Mo_measures 129 = .ok (.iinc 2 (-1), 3) := by decide +kernel
theorem d_Mo_measures_132 : decode c_Mo_measures 132 = .ok (.goto (-83), 3) := by decide +kernel
theorem d_Mo_measures_135 : decode c_Mo_measures 135 = .ok (.return_, 1) := by decide +kernel
theorem d_Mo_size_0 : decode c_Mo_size 0 = .ok (.aload_n 0, 1) := by decide +kernel
theorem d_Mo_size_1 : decode c_Mo_size 1 = .ok (.getfield 45, 3) := by decide +kernel
theorem d_Mo_size_4 : decode c_Mo_size 4 = .ok (.iload_n 1, 1) := by decide +kernel
theorem d_Mo_size_5 : decode c_Mo_size 5 = .ok (.iload_n 2, 1) := by decide +kernel
theorem d_Mo_size_6 : decode c_Mo_size 6 = .ok (.invokestatic 114, 3) := by decide +kernel
theorem d_Mo_size_9 : decode c_Mo_size 9 = .ok (.iaload, 1) := by decide +kernel
theorem d_Mo_size_10 : decode c_Mo_size 10 = .ok (.ireturn, 1) := by decide +kernel
theorem d_Mo_isBelow_0 : decode c_Mo_isBelow 0 = .ok (.iload_n 2, 1) := by decide +kernel
theorem d_Mo_isBelow_1 : decode c_Mo_isBelow 1 = .ok (.iload_n 3, 1) := by decide +kernel
theorem d_Mo_isBelow_2 : decode c_Mo_isBelow 2 = .ok (.if_icmp .le 19, 3) := by decide +kernel
theorem d_Mo_isBelow_5 : decode c_Mo_isBelow 5 = .ok (.iload_n 2, 1) := by decide +kernel
theorem d_Mo_isBelow_6 : decode c_Mo_isBelow 6 = .ok (.iload_n 3, 1) := by decide +kernel
theorem d_Mo_isBelow_7 : decode c_Mo_isBelow 7 = .ok (.aload_n 0, 1) := by decide +kernel
theorem d_Mo_isBelow_8 : decode c_Mo_isBelow 8 = .ok (.iload_n 1, 1) := by decide +kernel
theorem d_Mo_isBelow_9 : decode c_Mo_isBelow 9 = .ok (.iload_n 3, 1) := by decide +kernel
theorem d_Mo_isBelow_10 : decode c_Mo_isBelow 10 = .ok (.invokevirtual 163, 3) := by decide +kernel
theorem d_Mo_isBelow_13 : decode c_Mo_isBelow 13 = .ok (.iadd, 1) := by decide +kernel
theorem d_Mo_isBelow_14 : decode c_Mo_isBelow 14 = .ok (.if_icmp .ge 7, 3) := by decide +kernel
theorem d_Mo_isBelow_17 : decode c_Mo_isBelow 17 = .ok (.iconst 1, 1) := by decide +kernel
theorem d_Mo_isBelow_18 : decode c_Mo_isBelow 18 = .ok (.goto 4, 3) := by decide +kernel
theorem d_Mo_isBelow_21 : decode c_Mo_isBelow 21 = .ok (.iconst 0, 1) := by decide +kernel
theorem d_Mo_isBelow_22 : decode c_Mo_isBelow 22 = .ok (.ireturn, 1) := by decide +kernel
theorem d_Mo_height_0 : decode c_Mo_height 0 = .ok (.aload_n 0, 1) := by decide +kernel
theorem d_Mo_height_1 : decode c_Mo_height 1 = .ok (.getfield 48, 3) := by decide +kernel
theorem d_Mo_height_4 : decode c_Mo_height 4 = .ok (.iload_n 1, 1) := by decide +kernel
theorem d_Mo_height_5 : decode c_Mo_height 5 = .ok (.iload_n 2, 1) := by decide +kernel
theorem d_Mo_height_6 : decode c_Mo_height 6 = .ok (.invokestatic 114, 3) := by decide +kernel
theorem d_Mo_height_9 : decode c_Mo_height 9 = .ok (.iaload, 1) := by decide +kernel
theorem d_Mo_height_10 : decode c_Mo_height 10 = .ok (.ireturn, 1) := by decide +kernel
theorem d_Mo_childAt_0 : decode c_Mo_childAt 0 = .ok (.iload_n 3, 1) := by decide +kernel
theorem d_Mo_childAt_1 : decode c_Mo_childAt 1 = .ok (.istore 4, 2) := by decide +kernel
theorem d_Mo_childAt_3 : decode c_Mo_childAt 3 = .ok (.iload_n 2, 1) := by decide +kernel
theorem d_Mo_childAt_4 : decode c_Mo_childAt 4 = .ok (.iconst 1, 1) := by decide +kernel
theorem d_Mo_childAt_5 : decode c_Mo_childAt 5 = .ok (.iadd, 1) := by decide +kernel
theorem d_Mo_childAt_6 : decode c_Mo_childAt 6 = .ok (.istore 5, 2) := by decide +kernel
theorem d_Mo_childAt_8 : decode c_Mo_childAt 8 = .ok (.iload 5, 2) := by decide +kernel
theorem d_Mo_childAt_10 : decode c_Mo_childAt 10 = .ok (.aload_n 0, 1) := by decide +kernel
theorem d_Mo_childAt_11 : decode c_Mo_childAt 11 = .ok (.getfield 7, 3) := by decide +kernel
theorem d_Mo_childAt_14 : decode c_Mo_childAt 14 = .ok (.iload_n 1, 1) := by decide +kernel
theorem d_Mo_childAt_15 : decode c_Mo_childAt 15 = .ok (.iaload, 1) := by decide +kernel
theorem d_Mo_childAt_16 : decode c_Mo_childAt 16 = .ok (.if_icmp .ge 40, 3) := by decide +kernel
theorem d_Mo_childAt_19 : decode c_Mo_childAt 19 = .ok (.iload 4, 2) := by decide +kernel
theorem d_Mo_childAt_21 : decode c_Mo_childAt 21 = .ok (.ifCond .lt 35, 3) := by decide +kernel
theorem d_Mo_childAt_24 : decode c_Mo_childAt 24 = .ok (.aload_n 0, 1) := by decide +kernel
theorem d_Mo_childAt_25 : decode c_Mo_childAt 25 = .ok (.getfield 19, 3) := by decide +kernel
theorem d_Mo_childAt_28 : decode c_Mo_childAt 28 = .ok (.iload_n 1, 1) := by decide +kernel
theorem d_Mo_childAt_29 : decode c_Mo_childAt 29 = .ok (.iload 5, 2) := by decide +kernel
theorem d_Mo_childAt_31 : decode c_Mo_childAt 31 = .ok (.invokestatic 114, 3) := by decide +kernel
theorem d_Mo_childAt_34 : decode c_Mo_childAt 34 = .ok (.iaload, 1) := by decide +kernel
theorem d_Mo_childAt_35 : decode c_Mo_childAt 35 = .ok (.iload_n 2, 1) := by decide +kernel
theorem d_Mo_childAt_36 : decode c_Mo_childAt 36 = .ok (.if_icmp .ne 14, 3) := by decide +kernel
theorem d_Mo_childAt_39 : decode c_Mo_childAt 39 = .ok (.iload 4, 2) := by decide +kernel
theorem d_Mo_childAt_41 : decode c_Mo_childAt 41 = .ok (.ifCond .ne 6, 3) := by decide +kernel
theorem d_Mo_childAt_44 : decode c_Mo_childAt 44 = .ok (.iload 5, 2) := by decide +kernel
theorem d_Mo_childAt_46 : decode c_Mo_childAt 46 = .ok (.ireturn, 1) := by decide +kernel
theorem d_Mo_childAt_47 : decode c_Mo_childAt 47 = .ok (.iinc 4 (-1), 3) := by decide +kernel
theorem d_Mo_childAt_50 : decode c_Mo_childAt 50 = .ok (.iinc 5 1, 3) := by decide +kernel
theorem d_Mo_childAt_53 : decode c_Mo_childAt 53 = .ok (.goto (-45), 3) := by decide +kernel
theorem d_Mo_childAt_56 : decode c_Mo_childAt 56 = .ok (.bipush (-15), 2) := by decide +kernel
theorem d_Mo_childAt_58 : decode c_Mo_childAt 58 = .ok (.ireturn, 1) := by decide +kernel
theorem d_Mo_children_0 : decode c_Mo_children 0 = .ok (.iconst 0, 1) := by decide +kernel
theorem d_Mo_children_1 : decode c_Mo_children 1 = .ok (.istore_n 3, 1) := by decide +kernel
theorem d_Mo_children_2 : decode c_Mo_children 2 = .ok (.iload_n 2, 1) := by decide +kernel
theorem d_Mo_children_3 : decode c_Mo_children 3 = .ok (.iconst 1, 1) := by decide +kernel
theorem d_Mo_children_4 : decode c_Mo_children 4 = .ok (.iadd, 1) := by decide +kernel
theorem d_Mo_children_5 : decode c_Mo_children 5 = .ok (.istore 4, 2) := by decide +kernel
theorem d_Mo_children_7 : decode c_Mo_children 7 = .ok (.iload 4, 2) := by decide +kernel
theorem d_Mo_children_9 : decode c_Mo_children 9 = .ok (.aload_n 0, 1) := by decide +kernel
theorem d_Mo_children_10 : decode c_Mo_children 10 = .ok (.getfield 7, 3) := by decide +kernel
theorem d_Mo_children_13 : decode c_Mo_children 13 = .ok (.iload_n 1, 1) := by decide +kernel
theorem d_Mo_children_14 : decode c_Mo_children 14 = .ok (.iaload, 1) := by decide +kernel
theorem d_Mo_children_15 : decode c_Mo_children 15 = .ok (.if_icmp .ge 32, 3) := by decide +kernel
theorem d_Mo_children_18 : decode c_Mo_children 18 = .ok (.iload_n 3, 1) := by decide +kernel
theorem d_Mo_children_19 : decode c_Mo_children 19 = .ok (.aload_n 0, 1) := by decide +kernel
theorem d_Mo_children_20 : decode c_Mo_children 20 = .ok (.getfield 19, 3) := by decide +kernel
theorem d_Mo_children_23 : decode c_Mo_children 23 = .ok (.iload_n 1, 1) := by decide +kernel
theorem d_Mo_children_24 : decode c_Mo_children 24 = .ok (.iload 4, 2) := by decide +kernel
theorem d_Mo_children_26 : decode c_Mo_children 26 = .ok (.invokestatic 114, 3) := by decide +kernel
theorem d_Mo_children_29 : decode c_Mo_children 29 = .ok (.iaload, 1) := by decide +kernel
theorem d_Mo_children_30 : decode c_Mo_children 30 = .ok (.iload_n 2, 1) := by decide +kernel
theorem d_Mo_children_31 : decode c_Mo_children 31 = .ok (.if_icmp .ne 7, 3) := by decide +kernel
theorem d_Mo_children_34 : decode c_Mo_children 34 = .ok (.iconst 1, 1) := by decide +kernel
theorem d_Mo_children_35 : decode c_Mo_children 35 = .ok (.goto 4, 3) := by decide +kernel
theorem d_Mo_children_38 : decode c_Mo_children 38 = .ok (.iconst 0, 1) := by decide +kernel
theorem d_Mo_children_39 : decode c_Mo_children 39 = .ok (.iadd, 1) := by decide +kernel
theorem d_Mo_children_40 : decode c_Mo_children 40 = .ok (.istore_n 3, 1) := by decide +kernel
theorem d_Mo_children_41 : decode c_Mo_children 41 = .ok (.iinc 4 1, 3) := by decide +kernel
theorem d_Mo_children_44 : decode c_Mo_children 44 = .ok (.goto (-37), 3) := by decide +kernel
theorem d_Mo_children_47 : decode c_Mo_children 47 = .ok (.iload_n 3, 1) := by decide +kernel
theorem d_Mo_children_48 : decode c_Mo_children 48 = .ok (.ireturn, 1) := by decide +kernel
theorem d_Mo_placeOf_0 : decode c_Mo_placeOf 0 = .ok (.iconst 0, 1) := by decide +kernel
theorem d_Mo_placeOf_1 : decode c_Mo_placeOf 1 = .ok (.istore_n 3, 1) := by decide +kernel
theorem d_Mo_placeOf_2 : decode c_Mo_placeOf 2 = .ok (.iconst 1, 1) := by decide +kernel
theorem d_Mo_placeOf_3 : decode c_Mo_placeOf 3 = .ok (.istore 4, 2) := by decide +kernel
theorem d_Mo_placeOf_5 : decode c_Mo_placeOf 5 = .ok (.iload 4, 2) := by decide +kernel
theorem d_Mo_placeOf_7 : decode c_Mo_placeOf 7 = .ok (.iload_n 2, 1) := by decide +kernel
theorem d_Mo_placeOf_8 : decode c_Mo_placeOf 8 = .ok (.if_icmp .ge 41, 3) := by decide +kernel
theorem d_Mo_placeOf_11 : decode c_Mo_placeOf 11 = .ok (.iload_n 3, 1) := by decide +kernel
theorem d_Mo_placeOf_12 : decode c_Mo_placeOf 12 = .ok (.aload_n 0, 1) := by decide +kernel
theorem d_Mo_placeOf_13 : decode c_Mo_placeOf 13 = .ok (.getfield 19, 3) := by decide +kernel
theorem d_Mo_placeOf_16 : decode c_Mo_placeOf 16 = .ok (.iload_n 1, 1) := by decide +kernel
theorem d_Mo_placeOf_17 : decode c_Mo_placeOf 17 = .ok (.iload 4, 2) := by decide +kernel
theorem d_Mo_placeOf_19 : decode c_Mo_placeOf 19 = .ok (.invokestatic 114, 3) := by decide +kernel
theorem d_Mo_placeOf_22 : decode c_Mo_placeOf 22 = .ok (.iaload, 1) := by decide +kernel
theorem d_Mo_placeOf_23 : decode c_Mo_placeOf 23 = .ok (.aload_n 0, 1) := by decide +kernel
theorem d_Mo_placeOf_24 : decode c_Mo_placeOf 24 = .ok (.getfield 19, 3) := by decide +kernel
theorem d_Mo_placeOf_27 : decode c_Mo_placeOf 27 = .ok (.iload_n 1, 1) := by decide +kernel
theorem d_Mo_placeOf_28 : decode c_Mo_placeOf 28 = .ok (.iload_n 2, 1) := by decide +kernel
theorem d_Mo_placeOf_29 : decode c_Mo_placeOf 29 = .ok (.invokestatic 114, 3) := by decide +kernel
theorem d_Mo_placeOf_32 : decode c_Mo_placeOf 32 = .ok (.iaload, 1) := by decide +kernel
theorem d_Mo_placeOf_33 : decode c_Mo_placeOf 33 = .ok (.if_icmp .ne 7, 3) := by decide +kernel
theorem d_Mo_placeOf_36 : decode c_Mo_placeOf 36 = .ok (.iconst 1, 1) := by decide +kernel
theorem d_Mo_placeOf_37 : decode c_Mo_placeOf 37 = .ok (.goto 4, 3) := by decide +kernel
theorem d_Mo_placeOf_40 : decode c_Mo_placeOf 40 = .ok (.iconst 0, 1) := by decide +kernel
theorem d_Mo_placeOf_41 : decode c_Mo_placeOf 41 = .ok (.iadd, 1) := by decide +kernel
theorem d_Mo_placeOf_42 : decode c_Mo_placeOf 42 = .ok (.istore_n 3, 1) := by decide +kernel
theorem d_Mo_placeOf_43 : decode c_Mo_placeOf 43 = .ok (.iinc 4 1, 3) := by decide +kernel
theorem d_Mo_placeOf_46 : decode c_Mo_placeOf 46 = .ok (.goto (-41), 3) := by decide +kernel
theorem d_Mo_placeOf_49 : decode c_Mo_placeOf 49 = .ok (.iload_n 3, 1) := by decide +kernel
theorem d_Mo_placeOf_50 : decode c_Mo_placeOf 50 = .ok (.ireturn, 1) := by decide +kernel
theorem d_Mo_nodes_0 : decode c_Mo_nodes 0 = .ok (.iload_n 1, 1) := by decide +kernel
theorem d_Mo_nodes_1 : decode c_Mo_nodes 1 = .ok (.iconst 0, 1) := by decide +kernel
theorem d_Mo_nodes_2 : decode c_Mo_nodes 2 = .ok (.iconst 1, 1) := by decide +kernel
theorem d_Mo_nodes_3 : decode c_Mo_nodes 3 = .ok (.invokestatic 121, 3) := by decide +kernel
theorem d_Mo_nodes_6 : decode c_Mo_nodes 6 = .ok (.ifCond .eq 12, 3) := by decide +kernel
theorem d_Mo_nodes_9 : decode c_Mo_nodes 9 = .ok (.aload_n 0, 1) := by decide +kernel
theorem d_Mo_nodes_10 : decode c_Mo_nodes 10 = .ok (.getfield 7, 3) := by decide +kernel
theorem d_Mo_nodes_13 : decode c_Mo_nodes 13 = .ok (.iload_n 1, 1) := by decide +kernel
theorem d_Mo_nodes_14 : decode c_Mo_nodes 14 = .ok (.iaload, 1) := by decide +kernel
theorem d_Mo_nodes_15 : decode c_Mo_nodes 15 = .ok (.goto 5, 3) := by decide +kernel
theorem d_Mo_nodes_18 : decode c_Mo_nodes 18 = .ok (.bipush (-11), 2) := by decide +kernel
theorem d_Mo_nodes_20 : decode c_Mo_nodes 20 = .ok (.ireturn, 1) := by decide +kernel
theorem d_Mo_node_0 : decode c_Mo_node 0 = .ok (.aload_n 0, 1) := by decide +kernel
theorem d_Mo_node_1 : decode c_Mo_node 1 = .ok (.iload_n 1, 1) := by decide +kernel
theorem d_Mo_node_2 : decode c_Mo_node 2 = .ok (.iload_n 2, 1) := by decide +kernel
theorem d_Mo_node_3 : decode c_Mo_node 3 = .ok (.invokevirtual 166, 3) := by decide +kernel
theorem d_Mo_node_6 : decode c_Mo_node 6 = .ok (.ifCond .ne 6, 3) := by decide +kernel
theorem d_Mo_node_9 : decode c_Mo_node 9 = .ok (.bipush (-11), 2) := by decide +kernel
theorem d_Mo_node_11 : decode c_Mo_node 11 = .ok (.ireturn, 1) := by decide +kernel
theorem d_Mo_node_12 : decode c_Mo_node 12 = .ok (.iload_n 3, 1) := by decide +kernel
theorem d_Mo_node_13 : decode c_Mo_node 13 = .ok (.tableswitch 95 0 5 #[39, 50, 61, 72, 79, 86], 39) := by decide +kernel
theorem d_Mo_node_52 : decode c_Mo_node 52 = .ok (.aload_n 0, 1) := by decide +kernel
theorem d_Mo_node_53 : decode c_Mo_node 53 = .ok (.getfield 13, 3) := by decide +kernel
theorem d_Mo_node_56 : decode c_Mo_node 56 = .ok (.iload_n 1, 1) := by decide +kernel
theorem d_Mo_node_57 : decode c_Mo_node 57 = .ok (.iload_n 2, 1) := by decide +kernel
theorem d_Mo_node_58 : decode c_Mo_node 58 = .ok (.invokestatic 114, 3) := by decide +kernel
theorem d_Mo_node_61 : decode c_Mo_node 61 = .ok (.iaload, 1) := by decide +kernel
theorem d_Mo_node_62 : decode c_Mo_node 62 = .ok (.ireturn, 1) := by decide +kernel
theorem d_Mo_node_63 : decode c_Mo_node 63 = .ok (.aload_n 0, 1) := by decide +kernel
theorem d_Mo_node_64 : decode c_Mo_node 64 = .ok (.getfield 16, 3) := by decide +kernel
theorem d_Mo_node_67 : decode c_Mo_node 67 = .ok (.iload_n 1, 1) := by decide +kernel
theorem d_Mo_node_68 : decode c_Mo_node 68 = .ok (.iload_n 2, 1) := by decide +kernel
theorem d_Mo_node_69 : decode c_Mo_node 69 = .ok (.invokestatic 114, 3) := by decide +kernel
theorem d_Mo_node_72 : decode c_Mo_node 72 = .ok (.iaload, 1) := by decide +kernel
theorem d_Mo_node_73 : decode c_Mo_node 73 = .ok (.ireturn, 1) := by decide +kernel
theorem d_Mo_node_74 : decode c_Mo_node 74 = .ok (.aload_n 0, 1) := by decide +kernel
theorem d_Mo_node_75 : decode c_Mo_node 75 = .ok (.getfield 19, 3) := by decide +kernel
theorem d_Mo_node_78 : decode c_Mo_node 78 = .ok (.iload_n 1, 1) := by decide +kernel
theorem d_Mo_node_79 : decode c_Mo_node 79 = .ok (.iload_n 2, 1) := by decide +kernel
theorem d_Mo_node_80 : decode c_Mo_node 80 = .ok (.invokestatic 114, 3) := by decide +kernel
theorem d_Mo_node_83 : decode c_Mo_node 83 = .ok (.iaload, 1) := by decide +kernel
theorem d_Mo_node_84 : decode c_Mo_node 84 = .ok (.ireturn, 1) := by decide +kernel
theorem d_Mo_node_85 : decode c_Mo_node 85 = .ok (.aload_n 0, 1) := by decide +kernel
theorem d_Mo_node_86 : decode c_Mo_node 86 = .ok (.iload_n 1, 1) := by decide +kernel
theorem d_Mo_node_87 : decode c_Mo_node 87 = .ok (.iload_n 2, 1) := by decide +kernel
theorem d_Mo_node_88 : decode c_Mo_node 88 = .ok (.invokevirtual 170, 3) := by decide +kernel
theorem d_Mo_node_91 : decode c_Mo_node 91 = .ok (.ireturn, 1) := by decide +kernel
theorem d_Mo_node_92 : decode c_Mo_node 92 = .ok (.aload_n 0, 1) := by decide +kernel
theorem d_Mo_node_93 : decode c_Mo_node 93 = .ok (.iload_n 1, 1) := by decide +kernel
theorem d_Mo_node_94 : decode c_Mo_node 94 = .ok (.iload_n 2, 1) := by decide +kernel
theorem d_Mo_node_95 : decode c_Mo_node 95 = .ok (.invokevirtual 173, 3) := by decide +kernel
theorem d_Mo_node_98 : decode c_Mo_node 98 = .ok (.ireturn, 1) := by decide +kernel
theorem d_Mo_node_99 : decode c_Mo_node 99 = .ok (.aload_n 0, 1) := by decide +kernel
theorem d_Mo_node_100 : decode c_Mo_node 100 = .ok (.iload_n 1, 1) := by decide +kernel
theorem d_Mo_node_101 : decode c_Mo_node 101 = .ok (.iload_n 2, 1) := by decide +kernel
theorem d_Mo_node_102 : decode c_Mo_node 102 = .ok (.invokevirtual 163, 3) := by decide +kernel
theorem d_Mo_node_105 : decode c_Mo_node 105 = .ok (.iconst 1, 1) := by decide +kernel
theorem d_Mo_node_106 : decode c_Mo_node 106 = .ok (.isub, 1) := by decide +kernel
theorem d_Mo_node_107 : decode c_Mo_node 107 = .ok (.ireturn, 1) := by decide +kernel
theorem d_Mo_node_108 : decode c_Mo_node 108 = .ok (.bipush (-12), 2) := by decide +kernel
theorem d_Mo_node_110 : decode c_Mo_node 110 = .ok (.ireturn, 1) := by decide +kernel
theorem d_Mo_child_0 : decode c_Mo_child 0 = .ok (.aload_n 0, 1) := by decide +kernel
theorem d_Mo_child_1 : decode c_Mo_child 1 = .ok (.iload_n 1, 1) := by decide +kernel
theorem d_Mo_child_2 : decode c_Mo_child 2 = .ok (.iload_n 2, 1) := by decide +kernel
theorem d_Mo_child_3 : decode c_Mo_child 3 = .ok (.invokevirtual 166, 3) := by decide +kernel
theorem d_Mo_child_6 : decode c_Mo_child 6 = .ok (.ifCond .eq 13, 3) := by decide +kernel
theorem d_Mo_child_9 : decode c_Mo_child 9 = .ok (.aload_n 0, 1) := by decide +kernel
theorem d_Mo_child_10 : decode c_Mo_child 10 = .ok (.iload_n 1, 1) := by decide +kernel
theorem d_Mo_child_11 : decode c_Mo_child 11 = .ok (.iload_n 2, 1) := by decide +kernel
theorem d_Mo_child_12 : decode c_Mo_child 12 = .ok (.iload_n 3, 1) := by decide +kernel
theorem d_Mo_child_13 : decode c_Mo_child 13 = .ok (.invokevirtual 176, 3) := by decide +kernel
theorem d_Mo_child_16 : decode c_Mo_child 16 = .ok (.goto 5, 3) := by decide +kernel
theorem d_Mo_child_19 : decode c_Mo_child 19 = .ok (.bipush (-11), 2) := by decide +kernel
theorem d_Mo_child_21 : decode c_Mo_child 21 = .ok (.ireturn, 1) := by decide +kernel
theorem d_Mo_areEqual_0 : decode c_Mo_areEqual 0 = .ok (.aload_n 0, 1) := by decide +kernel
theorem d_Mo_areEqual_1 : decode c_Mo_areEqual 1 = .ok (.iconst 0, 1) := by decide +kernel
theorem d_Mo_areEqual_2 : decode c_Mo_areEqual 2 = .ok (.iload_n 1, 1) := by decide +kernel
theorem d_Mo_areEqual_3 : decode c_Mo_areEqual 3 = .ok (.invokevirtual 163, 3) := by decide +kernel
theorem d_Mo_areEqual_6 : decode c_Mo_areEqual 6 = .ok (.istore_n 3, 1) := by decide +kernel
theorem d_Mo_areEqual_7 : decode c_Mo_areEqual 7 = .ok (.iload_n 3, 1) := by decide +kernel
theorem d_Mo_areEqual_8 : decode c_Mo_areEqual 8 = .ok (.aload_n 0, 1) := by decide +kernel
theorem d_Mo_areEqual_9 : decode c_Mo_areEqual 9 = .ok (.iconst 1, 1) := by decide +kernel
theorem d_Mo_areEqual_10 : decode c_Mo_areEqual 10 = .ok (.iload_n 2, 1) := by decide +kernel
theorem d_Mo_areEqual_11 : decode c_Mo_areEqual 11 = .ok (.invokevirtual 163, 3) := by decide +kernel
theorem d_Mo_areEqual_14 : decode c_Mo_areEqual 14 = .ok (.if_icmp .ne 7, 3) := by decide +kernel
theorem d_Mo_areEqual_17 : decode c_Mo_areEqual 17 = .ok (.iconst 1, 1) := by decide +kernel
theorem d_Mo_areEqual_18 : decode c_Mo_areEqual 18 = .ok (.goto 4, 3) := by decide +kernel
theorem d_Mo_areEqual_21 : decode c_Mo_areEqual 21 = .ok (.iconst 0, 1) := by decide +kernel
theorem d_Mo_areEqual_22 : decode c_Mo_areEqual 22 = .ok (.istore 4, 2) := by decide +kernel
theorem d_Mo_areEqual_24 : decode c_Mo_areEqual 24 = .ok (.iconst 0, 1) := by decide +kernel
theorem d_Mo_areEqual_25 : decode c_Mo_areEqual 25 = .ok (.istore 5, 2) := by decide +kernel
theorem d_Mo_areEqual_27 : decode c_Mo_areEqual 27 = .ok (.iload 5, 2) := by decide +kernel
theorem d_Mo_areEqual_29 : decode c_Mo_areEqual 29 = .ok (.iload_n 3, 1) := by decide +kernel
theorem d_Mo_areEqual_30 : decode c_Mo_areEqual 30 = .ok (.if_icmp .ge 101, 3) := by decide +kernel
theorem d_Mo_areEqual_33 : decode c_Mo_areEqual 33 = .ok (.iload 4, 2) := by decide +kernel
theorem d_Mo_areEqual_35 : decode c_Mo_areEqual 35 = .ok (.ifCond .eq 96, 3) := by decide +kernel
theorem d_Mo_areEqual_38 : decode c_Mo_areEqual 38 = .ok (.iconst 0, 1) := by decide +kernel
theorem d_Mo_areEqual_39 : decode c_Mo_areEqual 39 = .ok (.iload_n 1, 1) := by decide +kernel
theorem d_Mo_areEqual_40 : decode c_Mo_areEqual 40 = .ok (.iload 5, 2) := by decide +kernel
theorem d_Mo_areEqual_42 : decode c_Mo_areEqual 42 = .ok (.iadd, 1) := by decide +kernel
theorem d_Mo_areEqual_43 : decode c_Mo_areEqual 43 = .ok (.invokestatic 114, 3) := by decide +kernel
theorem d_Mo_areEqual_46 : decode c_Mo_areEqual 46 = .ok (.istore 6, 2) := by decide +kernel
theorem d_Mo_areEqual_48 : decode c_Mo_areEqual 48 = .ok (.iconst 1, 1) := by decide +kernel
theorem d_Mo_areEqual_49 : decode c_Mo_areEqual 49 = .ok (.iload_n 2, 1) := by decide +kernel
theorem d_Mo_areEqual_50 : decode c_Mo_areEqual 50 = .ok (.iload 5, 2) := by decide +kernel
theorem d_Mo_areEqual_52 : decode c_Mo_areEqual 52 = .ok (.iadd, 1) := by decide +kernel
theorem d_Mo_areEqual_53 : decode c_Mo_areEqual 53 = .ok (.invokestatic 114, 3) := by decide +kernel
theorem d_Mo_areEqual_56 : decode c_Mo_areEqual 56 = .ok (.istore 7, 2) := by decide +kernel
theorem d_Mo_areEqual_58 : decode c_Mo_areEqual 58 = .ok (.aload_n 0, 1) := by decide +kernel
theorem d_Mo_areEqual_59 : decode c_Mo_areEqual 59 = .ok (.getfield 13, 3) := by decide +kernel
theorem d_Mo_areEqual_62 : decode c_Mo_areEqual 62 = .ok (.iload 6, 2) := by decide +kernel
theorem d_Mo_areEqual_64 : decode c_Mo_areEqual 64 = .ok (.iaload, 1) := by decide +kernel
theorem d_Mo_areEqual_65 : decode c_Mo_areEqual 65 = .ok (.aload_n 0, 1) := by decide +kernel
theorem d_Mo_areEqual_66 : decode c_Mo_areEqual 66 = .ok (.getfield 13, 3) := by decide +kernel
theorem d_Mo_areEqual_69 : decode c_Mo_areEqual 69 = .ok (.iload 7, 2) := by decide +kernel
theorem d_Mo_areEqual_71 : decode c_Mo_areEqual 71 = .ok (.iaload, 1) := by decide +kernel
theorem d_Mo_areEqual_72 : decode c_Mo_areEqual 72 = .ok (.if_icmp .ne 50, 3) := by decide +kernel
theorem d_Mo_areEqual_75 : decode c_Mo_areEqual 75 = .ok (.aload_n 0, 1) := by decide +kernel
theorem d_Mo_areEqual_76 : decode c_Mo_areEqual 76 = .ok (.getfield 16, 3) := by decide +kernel
theorem d_Mo_areEqual_79 : decode c_Mo_areEqual 79 = .ok (.iload 6, 2) := by decide +kernel
theorem d_Mo_areEqual_81 : decode c_Mo_areEqual 81 = .ok (.iaload, 1) := by decide +kernel
theorem d_Mo_areEqual_82 : decode c_Mo_areEqual 82 = .ok (.aload_n 0, 1) := by decide +kernel
theorem d_Mo_areEqual_83 : decode c_Mo_areEqual 83 = .ok (.getfield 16, 3) := by decide +kernel
theorem d_Mo_areEqual_86 : decode c_Mo_areEqual 86 = .ok (.iload 7, 2) := by decide +kernel
theorem d_Mo_areEqual_88 : decode c_Mo_areEqual 88 = .ok (.iaload, 1) := by decide +kernel
theorem d_Mo_areEqual_89 : decode c_Mo_areEqual 89 = .ok (.if_icmp .ne 33, 3) := by decide +kernel
theorem d_Mo_areEqual_92 : decode c_Mo_areEqual 92 = .ok (.iload 5, 2) := by decide +kernel
theorem d_Mo_areEqual_94 : decode c_Mo_areEqual 94 = .ok (.ifCond .eq 24, 3) := by decide +kernel
theorem d_Mo_areEqual_97 : decode c_Mo_areEqual 97 = .ok (.aload_n 0, 1) := by decide +kernel
theorem d_Mo_areEqual_98 : decode c_Mo_areEqual 98 = .ok (.getfield 19, 3) := by decide +kernel
theorem d_Mo_areEqual_101 : decode c_Mo_areEqual 101 = .ok (.iload 6, 2) := by decide +kernel
theorem d_Mo_areEqual_103 : decode c_Mo_areEqual 103 = .ok (.iaload, 1) := by decide +kernel
theorem d_Mo_areEqual_104 : decode c_Mo_areEqual 104 = .ok (.iload_n 1, 1) := by decide +kernel
theorem d_Mo_areEqual_105 : decode c_Mo_areEqual 105 = .ok (.isub, 1) := by decide +kernel
theorem d_Mo_areEqual_106 : decode c_Mo_areEqual 106 = .ok (.aload_n 0, 1) := by decide +kernel
theorem d_Mo_areEqual_107 : decode c_Mo_areEqual 107 = .ok (.getfield 19, 3) := by decide +kernel
theorem d_Mo_areEqual_110 : decode c_Mo_areEqual 110 = .ok (.iload 7, 2) := by decide +kernel
theorem d_Mo_areEqual_112 : decode c_Mo_areEqual 112 = .ok (.iaload, 1) := by decide +kernel
theorem d_Mo_areEqual_113 : decode c_Mo_areEqual 113 = .ok (.iload_n 2, 1) := by decide +kernel
theorem d_Mo_areEqual_114 : decode c_Mo_areEqual 114 = .ok (.isub, 1) := by decide +kernel
theorem d_Mo_areEqual_115 : decode c_Mo_areEqual 115 = .ok (.if_icmp .ne 7, 3) := by decide +kernel
theorem d_Mo_areEqual_118 : decode c_Mo_areEqual 118 = .ok (.iconst 1, 1) := by decide +kernel
theorem d_Mo_areEqual_119 : decode c_Mo_areEqual 119 = .ok (.goto 4, 3) := by decide +kernel
theorem d_Mo_areEqual_122 : decode c_Mo_areEqual 122 = .ok (.iconst 0, 1) := by decide +kernel
theorem d_Mo_areEqual_123 : decode c_Mo_areEqual 123 = .ok (.istore 4, 2) := by decide +kernel
theorem d_Mo_areEqual_125 : decode c_Mo_areEqual 125 = .ok (.iinc 5 1, 3) := by decide +kernel
theorem d_Mo_areEqual_128 : decode c_Mo_areEqual 128 = .ok (.goto (-101), 3) := by decide +kernel
theorem d_Mo_areEqual_131 : decode c_Mo_areEqual 131 = .ok (.iload 4, 2) := by decide +kernel
theorem d_Mo_areEqual_133 : decode c_Mo_areEqual 133 = .ok (.ireturn, 1) := by decide +kernel
theorem d_Mo_equal_0 : decode c_Mo_equal 0 = .ok (.aload_n 0, 1) := by decide +kernel
theorem d_Mo_equal_1 : decode c_Mo_equal 1 = .ok (.iconst 0, 1) := by decide +kernel
theorem d_Mo_equal_2 : decode c_Mo_equal 2 = .ok (.iload_n 1, 1) := by decide +kernel
theorem d_Mo_equal_3 : decode c_Mo_equal 3 = .ok (.invokevirtual 166, 3) := by decide +kernel
theorem d_Mo_equal_6 : decode c_Mo_equal 6 = .ok (.ifCond .eq 12, 3) := by decide +kernel
theorem d_Mo_equal_9 : decode c_Mo_equal 9 = .ok (.aload_n 0, 1) := by decide +kernel
theorem d_Mo_equal_10 : decode c_Mo_equal 10 = .ok (.iconst 1, 1) := by decide +kernel
theorem d_Mo_equal_11 : decode c_Mo_equal 11 = .ok (.iload_n 2, 1) := by decide +kernel
theorem d_Mo_equal_12 : decode c_Mo_equal 12 = .ok (.invokevirtual 166, 3) := by decide +kernel
theorem d_Mo_equal_15 : decode c_Mo_equal 15 = .ok (.ifCond .ne 6, 3) := by decide +kernel
theorem d_Mo_equal_18 : decode c_Mo_equal 18 = .ok (.bipush (-11), 2) := by decide +kernel
theorem d_Mo_equal_20 : decode c_Mo_equal 20 = .ok (.ireturn, 1) := by decide +kernel
theorem d_Mo_equal_21 : decode c_Mo_equal 21 = .ok (.aload_n 0, 1) := by decide +kernel
theorem d_Mo_equal_22 : decode c_Mo_equal 22 = .ok (.iload_n 1, 1) := by decide +kernel
theorem d_Mo_equal_23 : decode c_Mo_equal 23 = .ok (.iload_n 2, 1) := by decide +kernel
theorem d_Mo_equal_24 : decode c_Mo_equal 24 = .ok (.invokevirtual 180, 3) := by decide +kernel
theorem d_Mo_equal_27 : decode c_Mo_equal 27 = .ok (.ifCond .eq 7, 3) := by decide +kernel
theorem d_Mo_equal_30 : decode c_Mo_equal 30 = .ok (.iconst 1, 1) := by decide +kernel
theorem d_Mo_equal_31 : decode c_Mo_equal 31 = .ok (.goto 4, 3) := by decide +kernel
theorem d_Mo_equal_34 : decode c_Mo_equal 34 = .ok (.iconst 0, 1) := by decide +kernel
theorem d_Mo_equal_35 : decode c_Mo_equal 35 = .ok (.ireturn, 1) := by decide +kernel
theorem d_Mo_joins_0 : decode c_Mo_joins 0 = .ok (.aload_n 0, 1) := by decide +kernel
theorem d_Mo_joins_1 : decode c_Mo_joins 1 = .ok (.getfield 51, 3) := by decide +kernel
theorem d_Mo_joins_4 : decode c_Mo_joins 4 = .ok (.iload_n 1, 1) := by decide +kernel
theorem d_Mo_joins_5 : decode c_Mo_joins 5 = .ok (.iload_n 2, 1) := by decide +kernel
theorem d_Mo_joins_6 : decode c_Mo_joins 6 = .ok (.iastore, 1) := by decide +kernel
theorem d_Mo_joins_7 : decode c_Mo_joins 7 = .ok (.aload_n 0, 1) := by decide +kernel
theorem d_Mo_joins_8 : decode c_Mo_joins 8 = .ok (.getfield 54, 3) := by decide +kernel
theorem d_Mo_joins_11 : decode c_Mo_joins 11 = .ok (.iload_n 2, 1) := by decide +kernel
theorem d_Mo_joins_12 : decode c_Mo_joins 12 = .ok (.iload_n 1, 1) := by decide +kernel
theorem d_Mo_joins_13 : decode c_Mo_joins 13 = .ok (.iastore, 1) := by decide +kernel
theorem d_Mo_joins_14 : decode c_Mo_joins 14 = .ok (.aload_n 0, 1) := by decide +kernel
theorem d_Mo_joins_15 : decode c_Mo_joins 15 = .ok (.getfield 57, 3) := by decide +kernel
theorem d_Mo_joins_18 : decode c_Mo_joins 18 = .ok (.iload_n 1, 1) := by decide +kernel
theorem d_Mo_joins_19 : decode c_Mo_joins 19 = .ok (.iload_n 3, 1) := by decide +kernel
theorem d_Mo_joins_20 : decode c_Mo_joins 20 = .ok (.iastore, 1) := by decide +kernel
theorem d_Mo_joins_21 : decode c_Mo_joins 21 = .ok (.return_, 1) := by decide +kernel
theorem d_Mo_kinship_0 : decode c_Mo_kinship 0 = .ok (.iconst 0, 1) := by decide +kernel
theorem d_Mo_kinship_1 : decode c_Mo_kinship 1 = .ok (.istore_n 3, 1) := by decide +kernel
theorem d_Mo_kinship_2 : decode c_Mo_kinship 2 = .ok (.aload_n 0, 1) := by decide +kernel
theorem d_Mo_kinship_3 : decode c_Mo_kinship 3 = .ok (.getfield 19, 3) := by decide +kernel
theorem d_Mo_kinship_6 : decode c_Mo_kinship 6 = .ok (.iconst 0, 1) := by decide +kernel
theorem d_Mo_kinship_7 : decode c_Mo_kinship 7 = .ok (.iload_n 1, 1) := by decide +kernel
theorem d_Mo_kinship_8 : decode c_Mo_kinship 8 = .ok (.invokestatic 114, 3) := by decide +kernel
theorem d_Mo_kinship_11 : decode c_Mo_kinship 11 = .ok (.iaload, 1) := by decide +kernel
theorem d_Mo_kinship_12 : decode c_Mo_kinship 12 = .ok (.istore 4, 2) := by decide +kernel
theorem d_Mo_kinship_14 : decode c_Mo_kinship 14 = .ok (.aload_n 0, 1) := by decide +kernel
theorem d_Mo_kinship_15 : decode c_Mo_kinship 15 = .ok (.getfield 19, 3) := by decide +kernel
theorem d_Mo_kinship_18 : decode c_Mo_kinship 18 = .ok (.iconst 1, 1) := by decide +kernel
theorem d_Mo_kinship_19 : decode c_Mo_kinship 19 = .ok (.iload_n 2, 1) := by decide +kernel
theorem d_Mo_kinship_20 : decode c_Mo_kinship 20 = .ok (.invokestatic 114, 3) := by decide +kernel
theorem d_Mo_kinship_23 : decode c_Mo_kinship 23 = .ok (.iaload, 1) := by decide +kernel
theorem d_Mo_kinship_24 : decode c_Mo_kinship 24 = .ok (.istore 5, 2) := by decide +kernel
theorem d_Mo_kinship_26 : decode c_Mo_kinship 26 = .ok (.iload 4, 2) := by decide +kernel
theorem d_Mo_kinship_28 : decode c_Mo_kinship 28 = .ok (.ifCond .lt 65, 3) := by decide +kernel
theorem d_Mo_kinship_31 : decode c_Mo_kinship 31 = .ok (.iload 5, 2) := by decide +kernel
theorem d_Mo_kinship_33 : decode c_Mo_kinship 33 = .ok (.ifCond .lt 60, 3) := by decide +kernel
theorem d_Mo_kinship_36 : decode c_Mo_kinship 36 = .ok (.aload_n 0, 1) := by decide +kernel
theorem d_Mo_kinship_37 : decode c_Mo_kinship 37 = .ok (.getfield 13, 3) := by decide +kernel
theorem d_Mo_kinship_40 : decode c_Mo_kinship 40 = .ok (.iconst 0, 1) := by decide +kernel
theorem d_Mo_kinship_41 : decode c_Mo_kinship 41 = .ok (.iload 4, 2) := by decide +kernel
theorem d_Mo_kinship_43 : decode c_Mo_kinship 43 = .ok (.invokestatic 114, 3) := by decide +kernel
theorem d_Mo_kinship_46 : decode c_Mo_kinship 46 = .ok (.iaload, 1) := by decide +kernel
theorem d_Mo_kinship_47 : decode c_Mo_kinship 47 = .ok (.aload_n 0, 1) := by decide +kernel
theorem d_Mo_kinship_48 : decode c_Mo_kinship 48 = .ok (.getfield 13, 3) := by decide +kernel
theorem d_Mo_kinship_51 : decode c_Mo_kinship 51 = .ok (.iconst 1, 1) := by decide +kernel
theorem d_Mo_kinship_52 : decode c_Mo_kinship 52 = .ok (.iload 5, 2) := by decide +kernel
theorem d_Mo_kinship_54 : decode c_Mo_kinship 54 = .ok (.invokestatic 114, 3) := by decide +kernel
theorem d_Mo_kinship_57 : decode c_Mo_kinship 57 = .ok (.iaload, 1) := by decide +kernel
theorem d_Mo_kinship_58 : decode c_Mo_kinship 58 = .ok (.if_icmp .ne 35, 3) := by decide +kernel
theorem d_Mo_kinship_61 : decode c_Mo_kinship 61 = .ok (.iinc 3 1, 3) := by decide +kernel
theorem d_Mo_kinship_64 : decode c_Mo_kinship 64 = .ok (.aload_n 0, 1) := by decide +kernel
theorem d_Mo_kinship_65 : decode c_Mo_kinship 65 = .ok (.getfield 19, 3) := by decide +kernel
theorem d_Mo_kinship_68 : decode c_Mo_kinship 68 = .ok (.iconst 0, 1) := by decide +kernel
theorem d_Mo_kinship_69 : decode c_Mo_kinship 69 = .ok (.iload 4, 2) := by decide +kernel
theorem d_Mo_kinship_71 : decode c_Mo_kinship 71 = .ok (.invokestatic 114, 3) := by decide +kernel
theorem d_Mo_kinship_74 : decode c_Mo_kinship 74 = .ok (.iaload, 1) := by decide +kernel
theorem d_Mo_kinship_75 : decode c_Mo_kinship 75 = .ok (.istore 4, 2) := by decide +kernel
theorem d_Mo_kinship_77 : decode c_Mo_kinship 77 = .ok (.aload_n 0, 1) := by decide +kernel
theorem d_Mo_kinship_78 : decode c_Mo_kinship 78 = .ok (.getfield 19, 3) := by decide +kernel
theorem d_Mo_kinship_81 : decode c_Mo_kinship 81 = .ok (.iconst 1, 1) := by decide +kernel
theorem d_Mo_kinship_82 : decode c_Mo_kinship 82 = .ok (.iload 5, 2) := by decide +kernel
theorem d_Mo_kinship_84 : decode c_Mo_kinship 84 = .ok (.invokestatic 114, 3) := by decide +kernel
theorem d_Mo_kinship_87 : decode c_Mo_kinship 87 = .ok (.iaload, 1) := by decide +kernel
theorem d_Mo_kinship_88 : decode c_Mo_kinship 88 = .ok (.istore 5, 2) := by decide +kernel
theorem d_Mo_kinship_90 : decode c_Mo_kinship 90 = .ok (.goto (-64), 3) := by decide +kernel
theorem d_Mo_kinship_93 : decode c_Mo_kinship 93 = .ok (.iload_n 3, 1) := by decide +kernel
theorem d_Mo_kinship_94 : decode c_Mo_kinship 94 = .ok (.ireturn, 1) := by decide +kernel
theorem d_Mo_bestPair_0 : decode c_Mo_bestPair 0 = .ok (.iconst (-1), 1) := by decide +kernel
theorem d_Mo_bestPair_1 : decode c_Mo_bestPair 1 = .ok (.istore_n 2, 1) := by decide +kernel
theorem d_Mo_bestPair_2 : decode c_Mo_bestPair 2 = .ok (.iconst 0, 1) := by decide +kernel
theorem d_Mo_bestPair_3 : decode c_Mo_bestPair 3 = .ok (.istore_n 3, 1) := by decide +kernel
theorem d_Mo_bestPair_4 : decode c_Mo_bestPair 4 = .ok (.iconst 0, 1) := by decide +kernel
theorem d_Mo_bestPair_5 : decode c_Mo_bestPair 5 = .ok (.istore 4, 2) := by decide +kernel
theorem d_Mo_bestPair_7 : decode c_Mo_bestPair 7 = .ok (.iconst 0, 1) := by decide +kernel
theorem d_Mo_bestPair_8 : decode c_Mo_bestPair 8 = .ok (.istore 5, 2) := by decide +kernel
theorem d_Mo_bestPair_10 : decode c_Mo_bestPair 10 = .ok (.iload 5, 2) := by decide +kernel
theorem d_Mo_bestPair_12 : decode c_Mo_bestPair 12 = .ok (.aload_n 0, 1) := by decide +kernel
theorem d_Mo_bestPair_13 : decode c_Mo_bestPair 13 = .ok (.getfield 7, 3) := by decide +kernel
theorem d_Mo_bestPair_16 : decode c_Mo_bestPair 16 = .ok (.iconst 0, 1) := by decide +kernel
theorem d_Mo_bestPair_17 : decode c_Mo_bestPair 17 = .ok (.iaload, 1) := by decide +kernel
theorem d_Mo_bestPair_18 : decode c_Mo_bestPair 18 = .ok (.if_icmp .ge 163, 3) := by decide +kernel
theorem d_Mo_bestPair_21 : decode c_Mo_bestPair 21 = .ok (.iconst 0, 1) := by decide +kernel
theorem d_Mo_bestPair_22 : decode c_Mo_bestPair 22 = .ok (.istore 6, 2) := by decide +kernel
theorem d_Mo_bestPair_24 : decode c_Mo_bestPair 24 = .ok (.iload 6, 2) := by decide +kernel
theorem d_Mo_bestPair_26 : decode c_Mo_bestPair 26 = .ok (.aload_n 0, 1) := by decide +kernel
theorem d_Mo_bestPair_27 : decode c_Mo_bestPair 27 = .ok (.getfield 7, 3) := by decide +kernel
theorem d_Mo_bestPair_30 : decode c_Mo_bestPair 30 = .ok (.iconst 1, 1) := by decide +kernel
theorem d_Mo_bestPair_31 : decode c_Mo_bestPair 31 = .ok (.iaload, 1) := by decide +kernel
theorem d_Mo_bestPair_32 : decode c_Mo_bestPair 32 = .ok (.if_icmp .ge 143, 3) := by decide +kernel
theorem d_Mo_bestPair_35 : decode c_Mo_bestPair 35 = .ok (.aload_n 0, 1) := by decide +kernel
theorem d_Mo_bestPair_36 : decode c_Mo_bestPair 36 = .ok (.getfield 51, 3) := by decide +kernel
theorem d_Mo_bestPair_39 : decode c_Mo_bestPair 39 = .ok (.iload 5, 2) := by decide +kernel
theorem d_Mo_bestPair_41 : decode c_Mo_bestPair 41 = .ok (.iaload, 1) := by decide +kernel
theorem d_Mo_bestPair_42 : decode c_Mo_bestPair 42 = .ok (.ifCond .ge 133, 3) := by decide +kernel
theorem d_Mo_bestPair_45 : decode c_Mo_bestPair 45 = .ok (.aload_n 0, 1) := by decide +kernel
theorem d_Mo_bestPair_46 : decode c_Mo_bestPair 46 = .ok (.iconst 0, 1) := by decide +kernel
theorem d_Mo_bestPair_47 : decode c_Mo_bestPair 47 = .ok (.iload 5, 2) := by decide +kernel
theorem d_Mo_bestPair_49 : decode c_Mo_bestPair 49 = .ok (.invokevirtual 173, 3) := by decide +kernel
theorem d_Mo_bestPair_52 : decode c_Mo_bestPair 52 = .ok (.iload_n 1, 1) := by decide +kernel
theorem d_Mo_bestPair_53 : decode c_Mo_bestPair 53 = .ok (.if_icmp .ne 122, 3) := by decide +kernel
theorem d_Mo_bestPair_56 : decode c_Mo_bestPair 56 = .ok (.aload_n 0, 1) := by decide +kernel
theorem d_Mo_bestPair_57 : decode c_Mo_bestPair 57 = .ok (.getfield 54, 3) := by decide +kernel
theorem d_Mo_bestPair_60 : decode c_Mo_bestPair 60 = .ok (.iload 6, 2) := by decide +kernel
theorem d_Mo_bestPair_62 : decode c_Mo_bestPair 62 = .ok (.iaload, 1) := by decide +kernel
theorem d_Mo_bestPair_63 : decode c_Mo_bestPair 63 = .ok (.ifCond .ge 106, 3) := by decide +kernel
theorem d_Mo_bestPair_66 : decode c_Mo_bestPair 66 = .ok (.aload_n 0, 1) := by decide +kernel
theorem d_Mo_bestPair_67 : decode c_Mo_bestPair 67 = .ok (.iconst 1, 1) := by decide +kernel
theorem d_Mo_bestPair_68 : decode c_Mo_bestPair 68 = .ok (.iload 6, 2) := by decide +kernel
theorem d_Mo_bestPair_70 : decode c_Mo_bestPair 70 = .ok (.invokevirtual 173, 3) := by decide +kernel
theorem d_Mo_bestPair_73 : decode c_Mo_bestPair 73 = .ok (.iload_n 1, 1) := by decide +kernel
theorem d_Mo_bestPair_74 : decode c_Mo_bestPair 74 = .ok (.if_icmp .ne 95, 3) := by decide +kernel
theorem d_Mo_bestPair_77 : decode c_Mo_bestPair 77 = .ok (.aload_n 0, 1) := by decide +kernel
theorem d_Mo_bestPair_78 : decode c_Mo_bestPair 78 = .ok (.iload 5, 2) := by decide +kernel
theorem d_Mo_bestPair_80 : decode c_Mo_bestPair 80 = .ok (.iload 6, 2) := by decide +kernel
theorem d_Mo_bestPair_82 : decode c_Mo_bestPair 82 = .ok (.invokevirtual 180, 3) := by decide +kernel
theorem d_Mo_bestPair_85 : decode c_Mo_bestPair 85 = .ok (.ifCond .eq 84, 3) := by decide +kernel
theorem d_Mo_bestPair_88 : decode c_Mo_bestPair 88 = .ok (.aload_n 0, 1) := by decide +kernel
theorem d_Mo_bestPair_89 : decode c_Mo_bestPair 89 = .ok (.iload 5, 2) := by decide +kernel
theorem d_Mo_bestPair_91 : decode c_Mo_bestPair 91 = .ok (.iload 6, 2) := by decide +kernel
theorem d_Mo_bestPair_93 : decode c_Mo_bestPair 93 = .ok (.invokevirtual 183, 3) := by decide +kernel
theorem d_Mo_bestPair_96 : decode c_Mo_bestPair 96 = .ok (.istore 7, 2) := by decide +kernel
theorem d_Mo_bestPair_98 : decode c_Mo_bestPair 98 = .ok (.aload_n 0, 1) := by decide +kernel
theorem d_Mo_bestPair_99 : decode c_Mo_bestPair 99 = .ok (.iconst 0, 1) := by decide +kernel
theorem d_Mo_bestPair_100 : decode c_Mo_bestPair 100 = .ok (.iload 5, 2) := by decide +kernel
theorem d_Mo_bestPair_102 : decode c_Mo_bestPair 102 = .ok (.invokevirtual 186, 3) := by decide +kernel
theorem d_Mo_bestPair_105 : decode c_Mo_bestPair 105 = .ok (.aload_n 0, 1) := by decide +kernel
theorem d_Mo_bestPair_106 : decode c_Mo_bestPair 106 = .ok (.iconst 1, 1) := by decide +kernel
theorem d_Mo_bestPair_107 : decode c_Mo_bestPair 107 = .ok (.iload 6, 2) := by decide +kernel
theorem d_Mo_bestPair_109 : decode c_Mo_bestPair 109 = .ok (.invokevirtual 186, 3) := by decide +kernel
theorem d_Mo_bestPair_112 : decode c_Mo_bestPair 112 = .ok (.isub, 1) := by decide +kernel
theorem d_Mo_bestPair_113 : decode c_Mo_bestPair 113 = .ok (.istore 8, 2) := by decide +kernel
theorem d_Mo_bestPair_115 : decode c_Mo_bestPair 115 = .ok (.iload 8, 2) := by decide +kernel
theorem d_Mo_bestPair_117 : decode c_Mo_bestPair 117 = .ok (.ifCond .ge 9, 3) := by decide +kernel
theorem d_Mo_bestPair_120 : decode c_Mo_bestPair 120 = .ok (.iload 8, 2) := by decide +kernel
theorem d_Mo_bestPair_122 : decode c_Mo_bestPair 122 = .ok (.ineg, 1) := by decide +kernel
theorem d_Mo_bestPair_123 : decode c_Mo_bestPair 123 = .ok (.goto 5, 3) := by decide +kernel
theorem d_Mo_bestPair_126 : decode c_Mo_bestPair 126 = .ok (.iload 8, 2) := by decide +kernel
theorem d_Mo_bestPair_128 : decode c_Mo_bestPair 128 = .ok (.istore 8, 2) := by decide +kernel
theorem d_Mo_bestPair_130 : decode c_Mo_bestPair 130 = .ok (.iload_n 2, 1) := by decide +kernel
theorem d_Mo_bestPair_131 : decode c_Mo_bestPair 131 = .ok (.ifCond .lt 22, 3) := by decide +kernel
theorem d_Mo_bestPair_134 : decode c_Mo_bestPair 134 = .ok (.iload 7, 2) := by decide +kernel
theorem d_Mo_bestPair_136 : decode c_Mo_bestPair 136 = .ok (.iload_n 3, 1) := by decide +kernel
theorem d_Mo_bestPair_137 : decode c_Mo_bestPair 137 = .ok (.if_icmp .gt 16, 3) := by decide +kernel
theorem d_Mo_bestPair_140 : decode c_Mo_bestPair 140 = .ok (.iload 7, 2) := by decide +kernel
theorem d_Mo_bestPair_142 : decode c_Mo_bestPair 142 = .ok (.iload_n 3, 1) := by decide +kernel
theorem d_Mo_bestPair_143 : decode c_Mo_bestPair 143 = .ok (.if_icmp .ne 26, 3) := by decide +kernel
theorem d_Mo_bestPair_146 : decode c_Mo_bestPair 146 = .ok (.iload 8, 2) := by decide +kernel
theorem d_Mo_bestPair_148 : decode c_Mo_bestPair 148 = .ok (.iload 4, 2) := by decide +kernel
theorem d_Mo_bestPair_150 : decode c_Mo_bestPair 150 = .ok (.if_icmp .ge 19, 3) := by decide +kernel
theorem d_Mo_bestPair_153 : decode c_Mo_bestPair 153 = .ok (.bipush 24, 2) := by decide +kernel
theorem d_Mo_bestPair_155 : decode c_Mo_bestPair 155 = .ok (.iload 5, 2) := by decide +kernel
theorem d_Mo_bestPair_157 : decode c_Mo_bestPair 157 = .ok (.imul, 1) := by decide +kernel
theorem d_Mo_bestPair_158 : decode c_Mo_bestPair 158 = .ok (.iload 6, 2) := by decide +kernel
theorem d_Mo_bestPair_160 : decode c_Mo_bestPair 160 = .ok (.iadd, 1) := by decide +kernel
theorem d_Mo_bestPair_161 : decode c_Mo_bestPair 161 = .ok (.istore_n 2, 1) := by decide +kernel
theorem d_Mo_bestPair_162 : decode c_Mo_bestPair 162 = .ok (.iload 7, 2) := by decide +kernel
theorem d_Mo_bestPair_164 : decode c_Mo_bestPair 164 = .ok (.istore_n 3, 1) := by decide +kernel
theorem d_Mo_bestPair_165 : decode c_Mo_bestPair 165 = .ok (.iload 8, 2) := by decide +kernel
theorem d_Mo_bestPair_167 : decode c_Mo_bestPair 167 = .ok (.istore 4, 2) := by decide +kernel
theorem d_Mo_bestPair_169 : decode c_Mo_bestPair 169 = .ok (.iinc 6 1, 3) := by decide +kernel
theorem d_Mo_bestPair_172 : decode c_Mo_bestPair 172 = .ok (.goto (-148), 3) := by decide +kernel
theorem d_Mo_bestPair_175 : decode c_Mo_bestPair 175 = .ok (.iinc 5 1, 3) := by decide +kernel
theorem d_Mo_bestPair_178 : decode c_Mo_bestPair 178 = .ok (.goto (-168), 3) := by decide +kernel
theorem d_Mo_bestPair_181 : decode c_Mo_bestPair 181 = .ok (.iload_n 2, 1) := by decide +kernel
theorem d_Mo_bestPair_182 : decode c_Mo_bestPair 182 = .ok (.ireturn, 1) := by decide +kernel
theorem d_Mo_matchesDown_0 : decode c_Mo_matchesDown 0 = .ok (.bipush 24, 2) := by decide +kernel
theorem d_Mo_matchesDown_2 : decode c_Mo_matchesDown 2 = .ok (.istore_n 1, 1) := by decide +kernel
theorem d_Mo_matchesDown_3 : decode c_Mo_matchesDown 3 = .ok (.iload_n 1, 1) := by decide +kernel
theorem d_Mo_matchesDown_4 : decode c_Mo_matchesDown 4 = .ok (.aload_n 0, 1) := by decide +kernel
theorem d_Mo_matchesDown_5 : decode c_Mo_matchesDown 5 = .ok (.getfield 22, 3) := by decide +kernel
theorem d_Mo_matchesDown_8 : decode c_Mo_matchesDown 8 = .ok (.if_icmp .lt 72, 3) := by decide +kernel
theorem d_Mo_matchesDown_11 : decode c_Mo_matchesDown 11 = .ok (.aload_n 0, 1) := by decide +kernel
theorem d_Mo_matchesDown_12 : decode c_Mo_matchesDown 12 = .ok (.iload_n 1, 1) := by decide +kernel
theorem d_Mo_matchesDown_13 : decode c_Mo_matchesDown 13 = .ok (.invokevirtual 189, 3) := by decide +kernel
theorem d_Mo_matchesDown_16 : decode c_Mo_matchesDown 16 = .ok (.istore_n 2, 1) := by decide +kernel
theorem d_Mo_matchesDown_17 : decode c_Mo_matchesDown 17 = .ok (.iload_n 2, 1) := by decide +kernel
theorem d_Mo_matchesDown_18 : decode c_Mo_matchesDown 18 = .ok (.ifCond .lt 56, 3) := by decide +kernel
theorem d_Mo_matchesDown_21 : decode c_Mo_matchesDown 21 = .ok (.aload_n 0, 1) := by decide +kernel
theorem d_Mo_matchesDown_22 : decode c_Mo_matchesDown 22 = .ok (.iconst 0, 1) := by decide +kernel
theorem d_Mo_matchesDown_23 : decode c_Mo_matchesDown 23 = .ok (.iload_n 2, 1) := by decide +kernel
theorem d_Mo_matchesDown_24 : decode c_Mo_matchesDown 24 = .ok (.bipush 24, 2) := by decide +kernel
theorem d_Mo_matchesDown_26 : decode c_Mo_matchesDown 26 = .ok (.idiv, 1) := by decide +kernel
theorem d_Mo_matchesDown_27 : decode c_Mo_matchesDown 27 = .ok (.invokevirtual 163, 3) := by decide +kernel
theorem d_Mo_matchesDown_30 : decode c_Mo_matchesDown 30 = .ok (.istore_n 3, 1) := by decide +kernel
theorem d_Mo_matchesDown_31 : decode c_Mo_matchesDown 31 = .ok (.iconst 0, 1) := by decide +kernel
theorem d_Mo_matchesDown_32 : decode c_Mo_matchesDown 32 = .ok (.istore 4, 2) := by decide +kernel
theorem d_Mo_matchesDown_34 : decode c_Mo_matchesDown 34 = .ok (.iload 4, 2) := by decide +kernel
theorem d_Mo_matchesDown_36 : decode c_Mo_matchesDown 36 = .ok (.iload_n 3, 1) := by decide +kernel
theorem d_Mo_matchesDown_37 : decode c_Mo_matchesDown 37 = .ok (.if_icmp .ge 28, 3) := by decide +kernel
theorem d_Mo_matchesDown_40 : decode c_Mo_matchesDown 40 = .ok (.aload_n 0, 1) := by decide +kernel
theorem d_Mo_matchesDown_41 : decode c_Mo_matchesDown 41 = .ok (.iload_n 2, 1) := by decide +kernel
theorem d_Mo_matchesDown_42 : decode c_Mo_matchesDown 42 = .ok (.bipush 24, 2) := by decide +kernel
theorem d_Mo_matchesDown_44 : decode c_Mo_matchesDown 44 = .ok (.idiv, 1) := by decide +kernel
theorem d_Mo_matchesDown_45 : decode c_Mo_matchesDown 45 = .ok (.iload 4, 2) := by decide +kernel
theorem d_Mo_matchesDown_47 : decode c_Mo_matchesDown 47 = .ok (.iadd, 1) := by decide +kernel
theorem d_Mo_matchesDown_48 : decode c_Mo_matchesDown 48 = .ok (.iload_n 2, 1) := by decide +kernel
theorem d_Mo_matchesDown_49 : decode c_Mo_matchesDown 49 = .ok (.bipush 24, 2) := by decide +kernel
theorem d_Mo_matchesDown_51 : decode c_Mo_matchesDown 51 = .ok (.irem, 1) := by decide +kernel
theorem d_Mo_matchesDown_52 : decode c_Mo_matchesDown 52 = .ok (.iload 4, 2) := by decide +kernel
theorem d_Mo_matchesDown_54 : decode c_Mo_matchesDown 54 = .ok (.iadd, 1) := by decide +kernel
theorem d_Mo_matchesDown_55 : decode c_Mo_matchesDown 55 = .ok (.iconst 1, 1) := by decide +kernel
theorem d_Mo_matchesDown_56 : decode c_Mo_matchesDown 56 = .ok (.invokevirtual 193, 3) := by decide +kernel
theorem d_Mo_matchesDown_59 : decode c_Mo_matchesDown 59 = .ok (.iinc 4 1, 3) := by decide +kernel
theorem d_Mo_matchesDown_62 : decode c_Mo_matchesDown 62 = .ok (.goto (-28), 3) := by decide +kernel
theorem d_Mo_matchesDown_65 : decode c_Mo_matchesDown 65 = .ok (.aload_n 0, 1) := by decide +kernel
theorem d_Mo_matchesDown_66 : decode c_Mo_matchesDown 66 = .ok (.iload_n 1, 1) := by decide +kernel
theorem d_Mo_matchesDown_67 : decode c_Mo_matchesDown 67 = .ok (.invokevirtual 189, 3) := by decide +kernel
theorem d_Mo_matchesDown_70 : decode c_Mo_matchesDown 70 = .ok (.istore_n 2, 1) := by decide +kernel
theorem d_Mo_matchesDown_71 : decode c_Mo_matchesDown 71 = .ok (.goto (-54), 3) := by decide +kernel
theorem d_Mo_matchesDown_74 : decode c_Mo_matchesDown 74 = .ok (.iinc 1 (-1), 3) := by decide +kernel
theorem d_Mo_matchesDown_77 : decode c_Mo_matchesDown 77 = .ok (.goto (-74), 3) := by decide +kernel
theorem d_Mo_matchesDown_80 : decode c_Mo_matchesDown 80 = .ok (.return_, 1) := by decide +kernel
theorem d_Mo_common_0 : decode c_Mo_common 0 = .ok (.iconst 0, 1) := by decide +kernel
theorem d_Mo_common_1 : decode c_Mo_common 1 = .ok (.istore_n 3, 1) := by decide +kernel
theorem d_Mo_common_2 : decode c_Mo_common 2 = .ok (.iload_n 1, 1) := by decide +kernel
theorem d_Mo_common_3 : decode c_Mo_common 3 = .ok (.iconst 1, 1) := by decide +kernel
theorem d_Mo_common_4 : decode c_Mo_common 4 = .ok (.iadd, 1) := by decide +kernel
theorem d_Mo_common_5 : decode c_Mo_common 5 = .ok (.istore 4, 2) := by decide +kernel
theorem d_Mo_common_7 : decode c_Mo_common 7 = .ok (.iload 4, 2) := by decide +kernel
theorem d_Mo_common_9 : decode c_Mo_common 9 = .ok (.iload_n 1, 1) := by decide +kernel
theorem d_Mo_common_10 : decode c_Mo_common 10 = .ok (.aload_n 0, 1) := by decide +kernel
theorem d_Mo_common_11 : decode c_Mo_common 11 = .ok (.iconst 0, 1) := by decide +kernel
theorem d_Mo_common_12 : decode c_Mo_common 12 = .ok (.iload_n 1, 1) := by decide +kernel
theorem d_Mo_common_13 : decode c_Mo_common 13 = .ok (.invokevirtual 163, 3) := by decide +kernel
theorem d_Mo_common_16 : decode c_Mo_common 16 = .ok (.iadd, 1) := by decide +kernel
theorem d_Mo_common_17 : decode c_Mo_common 17 = .ok (.if_icmp .ge 43, 3) := by decide +kernel
theorem d_Mo_common_20 : decode c_Mo_common 20 = .ok (.iload_n 3, 1) := by decide +kernel
theorem d_Mo_common_21 : decode c_Mo_common 21 = .ok (.aload_n 0, 1) := by decide +kernel
theorem d_Mo_common_22 : decode c_Mo_common 22 = .ok (.getfield 51, 3) := by decide +kernel
theorem d_Mo_common_25 : decode c_Mo_common 25 = .ok (.iload 4, 2) := by decide +kernel
theorem d_Mo_common_27 : decode c_Mo_common 27 = .ok (.iaload, 1) := by decide +kernel
theorem d_Mo_common_28 : decode c_Mo_common 28 = .ok (.ifCond .lt 23, 3) := by decide +kernel
theorem d_Mo_common_31 : decode c_Mo_common 31 = .ok (.aload_n 0, 1) := by decide +kernel
theorem d_Mo_common_32 : decode c_Mo_common 32 = .ok (.iconst 1, 1) := by decide +kernel
theorem d_Mo_common_33 : decode c_Mo_common 33 = .ok (.aload_n 0, 1) := by decide +kernel
theorem d_Mo_common_34 : decode c_Mo_common 34 = .ok (.getfield 51, 3) := by decide +kernel
theorem d_Mo_common_37 : decode c_Mo_common 37 = .ok (.iload 4, 2) := by decide +kernel
theorem d_Mo_common_39 : decode c_Mo_common 39 = .ok (.iaload, 1) := by decide +kernel
theorem d_Mo_common_40 : decode c_Mo_common 40 = .ok (.iload_n 2, 1) := by decide +kernel
theorem d_Mo_common_41 : decode c_Mo_common 41 = .ok (.invokevirtual 197, 3) := by decide +kernel
theorem d_Mo_common_44 : decode c_Mo_common 44 = .ok (.ifCond .eq 7, 3) := by decide +kernel
theorem d_Mo_common_47 : decode c_Mo_common 47 = .ok (.iconst 1, 1) := by decide +kernel
theorem d_Mo_common_48 : decode c_Mo_common 48 = .ok (.goto 4, 3) := by decide +kernel
theorem d_Mo_common_51 : decode c_Mo_common 51 = .ok (.iconst 0, 1) := by decide +kernel
theorem d_Mo_common_52 : decode c_Mo_common 52 = .ok (.iadd, 1) := by decide +kernel
theorem d_Mo_common_53 : decode c_Mo_common 53 = .ok (.istore_n 3, 1) := by decide +kernel
theorem d_Mo_common_54 : decode c_Mo_common 54 = .ok (.iinc 4 1, 3) := by decide +kernel
theorem d_Mo_common_57 : decode c_Mo_common 57 = .ok (.goto (-50), 3) := by decide +kernel
theorem d_Mo_common_60 : decode c_Mo_common 60 = .ok (.iload_n 3, 1) := by decide +kernel
theorem d_Mo_common_61 : decode c_Mo_common 61 = .ok (.ireturn, 1) := by decide +kernel
theorem d_Mo_both_0 : decode c_Mo_both 0 = .ok (.aload_n 0, 1) := by decide +kernel
theorem d_Mo_both_1 : decode c_Mo_both 1 = .ok (.iconst 0, 1) := by decide +kernel
theorem d_Mo_both_2 : decode c_Mo_both 2 = .ok (.iload_n 1, 1) := by decide +kernel
theorem d_Mo_both_3 : decode c_Mo_both 3 = .ok (.invokevirtual 163, 3) := by decide +kernel
theorem d_Mo_both_6 : decode c_Mo_both 6 = .ok (.aload_n 0, 1) := by decide +kernel
theorem d_Mo_both_7 : decode c_Mo_both 7 = .ok (.iconst 1, 1) := by decide +kernel
theorem d_Mo_both_8 : decode c_Mo_both 8 = .ok (.iload_n 2, 1) := by decide +kernel
theorem d_Mo_both_9 : decode c_Mo_both 9 = .ok (.invokevirtual 163, 3) := by decide +kernel
theorem d_Mo_both_12 : decode c_Mo_both 12 = .ok (.iadd, 1) := by decide +kernel
theorem d_Mo_both_13 : decode c_Mo_both 13 = .ok (.iconst 2, 1) := by decide +kernel
theorem d_Mo_both_14 : decode c_Mo_both 14 = .ok (.isub, 1) := by decide +kernel
theorem d_Mo_both_15 : decode c_Mo_both 15 = .ok (.ireturn, 1) := by decide +kernel
theorem d_Mo_matchesUp_0 : decode c_Mo_matchesUp 0 = .ok (.iconst (-1), 1) := by decide +kernel
theorem d_Mo_matchesUp_1 : decode c_Mo_matchesUp 1 = .ok (.istore_n 2, 1) := by decide +kernel
theorem d_Mo_matchesUp_2 : decode c_Mo_matchesUp 2 = .ok (.iconst 0, 1) := by decide +kernel
theorem d_Mo_matchesUp_3 : decode c_Mo_matchesUp 3 = .ok (.istore_n 3, 1) := by decide +kernel
theorem d_Mo_matchesUp_4 : decode c_Mo_matchesUp 4 = .ok (.iload_n 3, 1) := by decide +kernel
theorem d_Mo_matchesUp_5 : decode c_Mo_matchesUp 5 = .ok (.aload_n 0, 1) := by decide +kernel
theorem d_Mo_matchesUp_6 : decode c_Mo_matchesUp 6 = .ok (.getfield 7, 3) := by decide +kernel
theorem d_Mo_matchesUp_9 : decode c_Mo_matchesUp 9 = .ok (.iconst 1, 1) := by decide +kernel
theorem d_Mo_matchesUp_10 : decode c_Mo_matchesUp 10 = .ok (.iaload, 1) := by decide +kernel
theorem d_Mo_matchesUp_11 : decode c_Mo_matchesUp 11 = .ok (.if_icmp .ge 107, 3) := by decide +kernel
theorem d_Mo_matchesUp_14 : decode c_Mo_matchesUp 14 = .ok (.aload_n 0, 1) := by decide +kernel
theorem d_Mo_matchesUp_15 : decode c_Mo_matchesUp 15 = .ok (.getfield 54, 3) := by decide +kernel
theorem d_Mo_matchesUp_18 : decode c_Mo_matchesUp 18 = .ok (.iload_n 3, 1) := by decide +kernel
theorem d_Mo_matchesUp_19 : decode c_Mo_matchesUp 19 = .ok (.iaload, 1) := by decide +kernel
theorem d_Mo_matchesUp_20 : decode c_Mo_matchesUp 20 = .ok (.ifCond .ge 49, 3) := by decide +kernel
theorem d_Mo_matchesUp_23 : decode c_Mo_matchesUp 23 = .ok (.aload_n 0, 1) := by decide +kernel
theorem d_Mo_matchesUp_24 : decode c_Mo_matchesUp 24 = .ok (.iconst 1, 1) := by decide +kernel
theorem d_Mo_matchesUp_25 : decode c_Mo_matchesUp 25 = .ok (.iload_n 3, 1) := by decide +kernel
theorem d_Mo_matchesUp_26 : decode c_Mo_matchesUp 26 = .ok (.invokevirtual 163, 3) := by decide +kernel
theorem d_Mo_matchesUp_29 : decode c_Mo_matchesUp 29 = .ok (.iconst 1, 1) := by decide +kernel
theorem d_Mo_matchesUp_30 : decode c_Mo_matchesUp 30 = .ok (.if_icmp .le 39, 3) := by decide +kernel
theorem d_Mo_matchesUp_33 : decode c_Mo_matchesUp 33 = .ok (.aload_n 0, 1) := by decide +kernel
theorem d_Mo_matchesUp_34 : decode c_Mo_matchesUp 34 = .ok (.getfield 13, 3) := by decide +kernel
theorem d_Mo_matchesUp_37 : decode c_Mo_matchesUp 37 = .ok (.iconst 1, 1) := by decide +kernel
theorem d_Mo_matchesUp_38 : decode c_Mo_matchesUp 38 = .ok (.iload_n 3, 1) := by decide +kernel
theorem d_Mo_matchesUp_39 : decode c_Mo_matchesUp 39 = .ok (.invokestatic 114, 3) := by decide +kernel
theorem d_Mo_matchesUp_42 : decode c_Mo_matchesUp 42 = .ok (.iaload, 1) := by decide +kernel
theorem d_Mo_matchesUp_43 : decode c_Mo_matchesUp 43 = .ok (.aload_n 0, 1) := by decide +kernel
theorem d_Mo_matchesUp_44 : decode c_Mo_matchesUp 44 = .ok (.getfield 13, 3) := by decide +kernel
theorem d_Mo_matchesUp_47 : decode c_Mo_matchesUp 47 = .ok (.iconst 0, 1) := by decide +kernel
