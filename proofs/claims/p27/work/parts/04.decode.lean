/-! The decode rows, written by a program. -/
theorem d_Acc_init_0 : decode b_Acc_init 0 = .ok (.aload_n 0, 1) := by decide +kernel
theorem d_Acc_init_1 : decode b_Acc_init 1 = .ok (.invokespecial 1, 3) := by decide +kernel
theorem d_Acc_init_4 : decode b_Acc_init 4 = .ok (.return_, 1) := by decide +kernel
theorem d_Acc_copyFrom_0 : decode b_Acc_copyFrom 0 = .ok (.aload_n 0, 1) := by decide +kernel
theorem d_Acc_copyFrom_1 : decode b_Acc_copyFrom 1 = .ok (.aload_n 1, 1) := by decide +kernel
theorem d_Acc_copyFrom_2 : decode b_Acc_copyFrom 2 = .ok (.getfield 7, 3) := by decide +kernel
theorem d_Acc_copyFrom_5 : decode b_Acc_copyFrom 5 = .ok (.putfield 7, 3) := by decide +kernel
theorem d_Acc_copyFrom_8 : decode b_Acc_copyFrom 8 = .ok (.aload_n 0, 1) := by decide +kernel
theorem d_Acc_copyFrom_9 : decode b_Acc_copyFrom 9 = .ok (.aload_n 1, 1) := by decide +kernel
theorem d_Acc_copyFrom_10 : decode b_Acc_copyFrom 10 = .ok (.getfield 13, 3) := by decide +kernel
theorem d_Acc_copyFrom_13 : decode b_Acc_copyFrom 13 = .ok (.putfield 13, 3) := by decide +kernel
theorem d_Acc_copyFrom_16 : decode b_Acc_copyFrom 16 = .ok (.aload_n 0, 1) := by decide +kernel
theorem d_Acc_copyFrom_17 : decode b_Acc_copyFrom 17 = .ok (.aload_n 1, 1) := by decide +kernel
theorem d_Acc_copyFrom_18 : decode b_Acc_copyFrom 18 = .ok (.getfield 16, 3) := by decide +kernel
theorem d_Acc_copyFrom_21 : decode b_Acc_copyFrom 21 = .ok (.putfield 16, 3) := by decide +kernel
theorem d_Acc_copyFrom_24 : decode b_Acc_copyFrom 24 = .ok (.aload_n 0, 1) := by decide +kernel
theorem d_Acc_copyFrom_25 : decode b_Acc_copyFrom 25 = .ok (.aload_n 1, 1) := by decide +kernel
theorem d_Acc_copyFrom_26 : decode b_Acc_copyFrom 26 = .ok (.getfield 19, 3) := by decide +kernel
theorem d_Acc_copyFrom_29 : decode b_Acc_copyFrom 29 = .ok (.putfield 19, 3) := by decide +kernel
theorem d_Acc_copyFrom_32 : decode b_Acc_copyFrom 32 = .ok (.aload_n 0, 1) := by decide +kernel
theorem d_Acc_copyFrom_33 : decode b_Acc_copyFrom 33 = .ok (.aload_n 1, 1) := by decide +kernel
theorem d_Acc_copyFrom_34 : decode b_Acc_copyFrom 34 = .ok (.getfield 22, 3) := by decide +kernel
theorem d_Acc_copyFrom_37 : decode b_Acc_copyFrom 37 = .ok (.putfield 22, 3) := by decide +kernel
theorem d_Acc_copyFrom_40 : decode b_Acc_copyFrom 40 = .ok (.return_, 1) := by decide +kernel
theorem d_Acc_takeIn_0 : decode b_Acc_takeIn 0 = .ok (.aload_n 0, 1) := by decide +kernel
theorem d_Acc_takeIn_1 : decode b_Acc_takeIn 1 = .ok (.dup, 1) := by decide +kernel
theorem d_Acc_takeIn_2 : decode b_Acc_takeIn 2 = .ok (.getfield 7, 3) := by decide +kernel
theorem d_Acc_takeIn_5 : decode b_Acc_takeIn 5 = .ok (.iload_n 1, 1) := by decide +kernel
theorem d_Acc_takeIn_6 : decode b_Acc_takeIn 6 = .ok (.iadd, 1) := by decide +kernel
theorem d_Acc_takeIn_7 : decode b_Acc_takeIn 7 = .ok (.putfield 7, 3) := by decide +kernel
theorem d_Acc_takeIn_10 : decode b_Acc_takeIn 10 = .ok (.aload_n 0, 1) := by decide +kernel
theorem d_Acc_takeIn_11 : decode b_Acc_takeIn 11 = .ok (.dup, 1) := by decide +kernel
theorem d_Acc_takeIn_12 : decode b_Acc_takeIn 12 = .ok (.getfield 16, 3) := by decide +kernel
theorem d_Acc_takeIn_15 : decode b_Acc_takeIn 15 = .ok (.iload_n 1, 1) := by decide +kernel
theorem d_Acc_takeIn_16 : decode b_Acc_takeIn 16 = .ok (.iadd, 1) := by decide +kernel
theorem d_Acc_takeIn_17 : decode b_Acc_takeIn 17 = .ok (.putfield 16, 3) := by decide +kernel
theorem d_Acc_takeIn_20 : decode b_Acc_takeIn 20 = .ok (.return_, 1) := by decide +kernel
theorem d_Acc_payOut_0 : decode b_Acc_payOut 0 = .ok (.aload_n 0, 1) := by decide +kernel
theorem d_Acc_payOut_1 : decode b_Acc_payOut 1 = .ok (.dup, 1) := by decide +kernel
theorem d_Acc_payOut_2 : decode b_Acc_payOut 2 = .ok (.getfield 7, 3) := by decide +kernel
theorem d_Acc_payOut_5 : decode b_Acc_payOut 5 = .ok (.iload_n 1, 1) := by decide +kernel
theorem d_Acc_payOut_6 : decode b_Acc_payOut 6 = .ok (.isub, 1) := by decide +kernel
theorem d_Acc_payOut_7 : decode b_Acc_payOut 7 = .ok (.putfield 7, 3) := by decide +kernel
theorem d_Acc_payOut_10 : decode b_Acc_payOut 10 = .ok (.aload_n 0, 1) := by decide +kernel
theorem d_Acc_payOut_11 : decode b_Acc_payOut 11 = .ok (.dup, 1) := by decide +kernel
theorem d_Acc_payOut_12 : decode b_Acc_payOut 12 = .ok (.getfield 19, 3) := by decide +kernel
theorem d_Acc_payOut_15 : decode b_Acc_payOut 15 = .ok (.iload_n 1, 1) := by decide +kernel
theorem d_Acc_payOut_16 : decode b_Acc_payOut 16 = .ok (.iadd, 1) := by decide +kernel
theorem d_Acc_payOut_17 : decode b_Acc_payOut 17 = .ok (.putfield 19, 3) := by decide +kernel
theorem d_Acc_payOut_20 : decode b_Acc_payOut 20 = .ok (.return_, 1) := by decide +kernel
theorem d_Acc_payShop_0 : decode b_Acc_payShop 0 = .ok (.aload_n 0, 1) := by decide +kernel
theorem d_Acc_payShop_1 : decode b_Acc_payShop 1 = .ok (.dup, 1) := by decide +kernel
theorem d_Acc_payShop_2 : decode b_Acc_payShop 2 = .ok (.getfield 7, 3) := by decide +kernel
theorem d_Acc_payShop_5 : decode b_Acc_payShop 5 = .ok (.iload_n 1, 1) := by decide +kernel
theorem d_Acc_payShop_6 : decode b_Acc_payShop 6 = .ok (.isub, 1) := by decide +kernel
theorem d_Acc_payShop_7 : decode b_Acc_payShop 7 = .ok (.putfield 7, 3) := by decide +kernel
theorem d_Acc_payShop_10 : decode b_Acc_payShop 10 = .ok (.aload_n 0, 1) := by decide +kernel
theorem d_Acc_payShop_11 : decode b_Acc_payShop 11 = .ok (.dup, 1) := by decide +kernel
theorem d_Acc_payShop_12 : decode b_Acc_payShop 12 = .ok (.getfield 22, 3) := by decide +kernel
theorem d_Acc_payShop_15 : decode b_Acc_payShop 15 = .ok (.iload_n 1, 1) := by decide +kernel
theorem d_Acc_payShop_16 : decode b_Acc_payShop 16 = .ok (.iadd, 1) := by decide +kernel
theorem d_Acc_payShop_17 : decode b_Acc_payShop 17 = .ok (.putfield 22, 3) := by decide +kernel
theorem d_Acc_payShop_20 : decode b_Acc_payShop 20 = .ok (.return_, 1) := by decide +kernel
theorem d_Crd_init_0 : decode b_Crd_init 0 = .ok (.aload_n 0, 1) := by decide +kernel
theorem d_Crd_init_1 : decode b_Crd_init 1 = .ok (.invokespecial 3, 3) := by decide +kernel
theorem d_Crd_init_4 : decode b_Crd_init 4 = .ok (.aload_n 0, 1) := by decide +kernel
theorem d_Crd_init_5 : decode b_Crd_init 5 = .ok (.bipush 12, 2) := by decide +kernel
theorem d_Crd_init_7 : decode b_Crd_init 7 = .ok (.newarray .int, 2) := by decide +kernel
theorem d_Crd_init_9 : decode b_Crd_init 9 = .ok (.putfield 9, 3) := by decide +kernel
theorem d_Crd_init_12 : decode b_Crd_init 12 = .ok (.aload_n 0, 1) := by decide +kernel
theorem d_Crd_init_13 : decode b_Crd_init 13 = .ok (.bipush 12, 2) := by decide +kernel
theorem d_Crd_init_15 : decode b_Crd_init 15 = .ok (.newarray .int, 2) := by decide +kernel
theorem d_Crd_init_17 : decode b_Crd_init 17 = .ok (.putfield 15, 3) := by decide +kernel
theorem d_Crd_init_20 : decode b_Crd_init 20 = .ok (.aload_n 0, 1) := by decide +kernel
theorem d_Crd_init_21 : decode b_Crd_init 21 = .ok (.bipush 12, 2) := by decide +kernel
theorem d_Crd_init_23 : decode b_Crd_init 23 = .ok (.newarray .int, 2) := by decide +kernel
theorem d_Crd_init_25 : decode b_Crd_init 25 = .ok (.putfield 18, 3) := by decide +kernel
theorem d_Crd_init_28 : decode b_Crd_init 28 = .ok (.aload_n 0, 1) := by decide +kernel
theorem d_Crd_init_29 : decode b_Crd_init 29 = .ok (.bipush 12, 2) := by decide +kernel
theorem d_Crd_init_31 : decode b_Crd_init 31 = .ok (.newarray .int, 2) := by decide +kernel
theorem d_Crd_init_33 : decode b_Crd_init 33 = .ok (.putfield 21, 3) := by decide +kernel
theorem d_Crd_init_36 : decode b_Crd_init 36 = .ok (.aload_n 0, 1) := by decide +kernel
theorem d_Crd_init_37 : decode b_Crd_init 37 = .ok (.bipush 12, 2) := by decide +kernel
theorem d_Crd_init_39 : decode b_Crd_init 39 = .ok (.newarray .int, 2) := by decide +kernel
theorem d_Crd_init_41 : decode b_Crd_init 41 = .ok (.putfield 24, 3) := by decide +kernel
theorem d_Crd_init_44 : decode b_Crd_init 44 = .ok (.aload_n 0, 1) := by decide +kernel
theorem d_Crd_init_45 : decode b_Crd_init 45 = .ok (.bipush 12, 2) := by decide +kernel
theorem d_Crd_init_47 : decode b_Crd_init 47 = .ok (.newarray .int, 2) := by decide +kernel
theorem d_Crd_init_49 : decode b_Crd_init 49 = .ok (.putfield 27, 3) := by decide +kernel
theorem d_Crd_init_52 : decode b_Crd_init 52 = .ok (.aload_n 0, 1) := by decide +kernel
theorem d_Crd_init_53 : decode b_Crd_init 53 = .ok (.bipush 12, 2) := by decide +kernel
theorem d_Crd_init_55 : decode b_Crd_init 55 = .ok (.newarray .long, 2) := by decide +kernel
theorem d_Crd_init_57 : decode b_Crd_init 57 = .ok (.putfield 30, 3) := by decide +kernel
theorem d_Crd_init_60 : decode b_Crd_init 60 = .ok (.aload_n 0, 1) := by decide +kernel
theorem d_Crd_init_61 : decode b_Crd_init 61 = .ok (.bipush 12, 2) := by decide +kernel
theorem d_Crd_init_63 : decode b_Crd_init 63 = .ok (.newarray .int, 2) := by decide +kernel
theorem d_Crd_init_65 : decode b_Crd_init 65 = .ok (.putfield 34, 3) := by decide +kernel
theorem d_Crd_init_68 : decode b_Crd_init 68 = .ok (.aload_n 0, 1) := by decide +kernel
theorem d_Crd_init_69 : decode b_Crd_init 69 = .ok (.getfield 34, 3) := by decide +kernel
theorem d_Crd_init_72 : decode b_Crd_init 72 = .ok (.bipush (-9), 2) := by decide +kernel
theorem d_Crd_init_74 : decode b_Crd_init 74 = .ok (.invokestatic 37, 3) := by decide +kernel
theorem d_Crd_init_77 : decode b_Crd_init 77 = .ok (.return_, 1) := by decide +kernel
theorem d_Crd_copyFrom_0 : decode b_Crd_copyFrom 0 = .ok (.aload_n 0, 1) := by decide +kernel
theorem d_Crd_copyFrom_1 : decode b_Crd_copyFrom 1 = .ok (.aload_n 1, 1) := by decide +kernel
theorem d_Crd_copyFrom_2 : decode b_Crd_copyFrom 2 = .ok (.getfield 43, 3) := by decide +kernel
theorem d_Crd_copyFrom_5 : decode b_Crd_copyFrom 5 = .ok (.putfield 43, 3) := by decide +kernel
theorem d_Crd_copyFrom_8 : decode b_Crd_copyFrom 8 = .ok (.aload_n 1, 1) := by decide +kernel
theorem d_Crd_copyFrom_9 : decode b_Crd_copyFrom 9 = .ok (.getfield 9, 3) := by decide +kernel
theorem d_Crd_copyFrom_12 : decode b_Crd_copyFrom 12 = .ok (.iconst 0, 1) := by decide +kernel
theorem d_Crd_copyFrom_13 : decode b_Crd_copyFrom 13 = .ok (.aload_n 0, 1) := by decide +kernel
theorem d_Crd_copyFrom_14 : decode b_Crd_copyFrom 14 = .ok (.getfield 9, 3) := by decide +kernel
theorem d_Crd_copyFrom_17 : decode b_Crd_copyFrom 17 = .ok (.iconst 0, 1) := by decide +kernel
theorem d_Crd_copyFrom_18 : decode b_Crd_copyFrom 18 = .ok (.bipush 12, 2) := by decide +kernel
theorem d_Crd_copyFrom_20 : decode b_Crd_copyFrom 20 = .ok (.invokestatic 47, 3) := by decide +kernel
theorem d_Crd_copyFrom_23 : decode b_Crd_copyFrom 23 = .ok (.aload_n 1, 1) := by decide +kernel
theorem d_Crd_copyFrom_24 : decode b_Crd_copyFrom 24 = .ok (.getfield 15, 3) := by decide +kernel
theorem d_Crd_copyFrom_27 : decode b_Crd_copyFrom 27 = .ok (.iconst 0, 1) := by decide +kernel
theorem d_Crd_copyFrom_28 : decode b_Crd_copyFrom 28 = .ok (.aload_n 0, 1) := by decide +kernel
theorem d_Crd_copyFrom_29 : decode b_Crd_copyFrom 29 = .ok (.getfield 15, 3) := by decide +kernel
theorem d_Crd_copyFrom_32 : decode b_Crd_copyFrom 32 = .ok (.iconst 0, 1) := by decide +kernel
theorem d_Crd_copyFrom_33 : decode b_Crd_copyFrom 33 = .ok (.bipush 12, 2) := by decide +kernel
theorem d_Crd_copyFrom_35 : decode b_Crd_copyFrom 35 = .ok (.invokestatic 47, 3) := by decide +kernel
theorem d_Crd_copyFrom_38 : decode b_Crd_copyFrom 38 = .ok (.aload_n 1, 1) := by decide +kernel
theorem d_Crd_copyFrom_39 : decode b_Crd_copyFrom 39 = .ok (.getfield 18, 3) := by decide +kernel
theorem d_Crd_copyFrom_42 : decode b_Crd_copyFrom 42 = .ok (.iconst 0, 1) := by decide +kernel
theorem d_Crd_copyFrom_43 : decode b_Crd_copyFrom 43 = .ok (.aload_n 0, 1) := by decide +kernel
theorem d_Crd_copyFrom_44 : decode b_Crd_copyFrom 44 = .ok (.getfield 18, 3) := by decide +kernel
theorem d_Crd_copyFrom_47 : decode b_Crd_copyFrom 47 = .ok (.iconst 0, 1) := by decide +kernel
theorem d_Crd_copyFrom_48 : decode b_Crd_copyFrom 48 = .ok (.bipush 12, 2) := by decide +kernel
theorem d_Crd_copyFrom_50 : decode b_Crd_copyFrom 50 = .ok (.invokestatic 47, 3) := by decide +kernel
theorem d_Crd_copyFrom_53 : decode b_Crd_copyFrom 53 = .ok (.aload_n 1, 1) := by decide +kernel
theorem d_Crd_copyFrom_54 : decode b_Crd_copyFrom 54 = .ok (.getfield 21, 3) := by decide +kernel
theorem d_Crd_copyFrom_57 : decode b_Crd_copyFrom 57 = .ok (.iconst 0, 1) := by decide +kernel
theorem d_Crd_copyFrom_58 : decode b_Crd_copyFrom 58 = .ok (.aload_n 0, 1) := by decide +kernel
theorem d_Crd_copyFrom_59 : decode b_Crd_copyFrom 59 = .ok (.getfield 21, 3) := by decide +kernel
theorem d_Crd_copyFrom_62 : decode b_Crd_copyFrom 62 = .ok (.iconst 0, 1) := by decide +kernel
theorem d_Crd_copyFrom_63 : decode b_Crd_copyFrom 63 = .ok (.bipush 12, 2) := by decide +kernel
theorem d_Crd_copyFrom_65 : decode b_Crd_copyFrom 65 = .ok (.invokestatic 47, 3) := by decide +kernel
theorem d_Crd_copyFrom_68 : decode b_Crd_copyFrom 68 = .ok (.aload_n 1, 1) := by decide +kernel
theorem d_Crd_copyFrom_69 : decode b_Crd_copyFrom 69 = .ok (.getfield 24, 3) := by decide +kernel
theorem d_Crd_copyFrom_72 : decode b_Crd_copyFrom 72 = .ok (.iconst 0, 1) := by decide +kernel
theorem d_Crd_copyFrom_73 : decode b_Crd_copyFrom 73 = .ok (.aload_n 0, 1) := by decide +kernel
theorem d_Crd_copyFrom_74 : decode b_Crd_copyFrom 74 = .ok (.getfield 24, 3) := by decide +kernel
theorem d_Crd_copyFrom_77 : decode b_Crd_copyFrom 77 = .ok (.iconst 0, 1) := by decide +kernel
theorem d_Crd_copyFrom_78 : decode b_Crd_copyFrom 78 = .ok (.bipush 12, 2) := by decide +kernel
theorem d_Crd_copyFrom_80 : decode b_Crd_copyFrom 80 = .ok (.invokestatic 47, 3) := by decide +kernel
theorem d_Crd_copyFrom_83 : decode b_Crd_copyFrom 83 = .ok (.aload_n 1, 1) := by decide +kernel
theorem d_Crd_copyFrom_84 : decode b_Crd_copyFrom 84 = .ok (.getfield 27, 3) := by decide +kernel
theorem d_Crd_copyFrom_87 : decode b_Crd_copyFrom 87 = .ok (.iconst 0, 1) := by decide +kernel
theorem d_Crd_copyFrom_88 : decode b_Crd_copyFrom 88 = .ok (.aload_n 0, 1) := by decide +kernel
theorem d_Crd_copyFrom_89 : decode b_Crd_copyFrom 89 = .ok (.getfield 27, 3) := by decide +kernel
theorem d_Crd_copyFrom_92 : decode b_Crd_copyFrom 92 = .ok (.iconst 0, 1) := by decide +kernel
theorem d_Crd_copyFrom_93 : decode b_Crd_copyFrom 93 = .ok (.bipush 12, 2) := by decide +kernel
theorem d_Crd_copyFrom_95 : decode b_Crd_copyFrom 95 = .ok (.invokestatic 47, 3) := by decide +kernel
theorem d_Crd_copyFrom_98 : decode b_Crd_copyFrom 98 = .ok (.aload_n 1, 1) := by decide +kernel
theorem d_Crd_copyFrom_99 : decode b_Crd_copyFrom 99 = .ok (.getfield 30, 3) := by decide +kernel
theorem d_Crd_copyFrom_102 : decode b_Crd_copyFrom 102 = .ok (.iconst 0, 1) := by decide +kernel
theorem d_Crd_copyFrom_103 : decode b_Crd_copyFrom 103 = .ok (.aload_n 0, 1) := by decide +kernel
theorem d_Crd_copyFrom_104 : decode b_Crd_copyFrom 104 = .ok (.getfield 30, 3) := by decide +kernel
theorem d_Crd_copyFrom_107 : decode b_Crd_copyFrom 107 = .ok (.iconst 0, 1) := by decide +kernel
theorem d_Crd_copyFrom_108 : decode b_Crd_copyFrom 108 = .ok (.bipush 12, 2) := by decide +kernel
theorem d_Crd_copyFrom_110 : decode b_Crd_copyFrom 110 = .ok (.invokestatic 47, 3) := by decide +kernel
theorem d_Crd_copyFrom_113 : decode b_Crd_copyFrom 113 = .ok (.aload_n 1, 1) := by decide +kernel
theorem d_Crd_copyFrom_114 : decode b_Crd_copyFrom 114 = .ok (.getfield 34, 3) := by decide +kernel
theorem d_Crd_copyFrom_117 : decode b_Crd_copyFrom 117 = .ok (.iconst 0, 1) := by decide +kernel
theorem d_Crd_copyFrom_118 : decode b_Crd_copyFrom 118 = .ok (.aload_n 0, 1) := by decide +kernel
theorem d_Crd_copyFrom_119 : decode b_Crd_copyFrom 119 = .ok (.getfield 34, 3) := by decide +kernel
theorem d_Crd_copyFrom_122 : decode b_Crd_copyFrom 122 = .ok (.iconst 0, 1) := by decide +kernel
theorem d_Crd_copyFrom_123 : decode b_Crd_copyFrom 123 = .ok (.bipush 12, 2) := by decide +kernel
theorem d_Crd_copyFrom_125 : decode b_Crd_copyFrom 125 = .ok (.invokestatic 47, 3) := by decide +kernel
theorem d_Crd_copyFrom_128 : decode b_Crd_copyFrom 128 = .ok (.return_, 1) := by decide +kernel
theorem d_Crd_exists_0 : decode b_Crd_exists 0 = .ok (.iload_n 1, 1) := by decide +kernel
theorem d_Crd_exists_1 : decode b_Crd_exists 1 = .ok (.ifCond .lt 15, 3) := by decide +kernel
theorem d_Crd_exists_4 : decode b_Crd_exists 4 = .ok (.iload_n 1, 1) := by decide +kernel
theorem d_Crd_exists_5 : decode b_Crd_exists 5 = .ok (.aload_n 0, 1) := by decide +kernel
theorem d_Crd_exists_6 : decode b_Crd_exists 6 = .ok (.getfield 43, 3) := by decide +kernel
theorem d_Crd_exists_9 : decode b_Crd_exists 9 = .ok (.if_icmp .ge 7, 3) := by decide +kernel
theorem d_Crd_exists_12 : decode b_Crd_exists 12 = .ok (.iconst 1, 1) := by decide +kernel
theorem d_Crd_exists_13 : decode b_Crd_exists 13 = .ok (.goto 4, 3) := by decide +kernel
theorem d_Crd_exists_16 : decode b_Crd_exists 16 = .ok (.iconst 0, 1) := by decide +kernel
theorem d_Crd_exists_17 : decode b_Crd_exists 17 = .ok (.ireturn, 1) := by decide +kernel
theorem d_Crd_isInHand_0 : decode b_Crd_isInHand 0 = .ok (.aload_n 0, 1) := by decide +kernel
theorem d_Crd_isInHand_1 : decode b_Crd_isInHand 1 = .ok (.getfield 15, 3) := by decide +kernel
theorem d_Crd_isInHand_4 : decode b_Crd_isInHand 4 = .ok (.iload_n 1, 1) := by decide +kernel
theorem d_Crd_isInHand_5 : decode b_Crd_isInHand 5 = .ok (.iaload, 1) := by decide +kernel
theorem d_Crd_isInHand_6 : decode b_Crd_isInHand 6 = .ok (.ifCond .ne 7, 3) := by decide +kernel
theorem d_Crd_isInHand_9 : decode b_Crd_isInHand 9 = .ok (.iconst 1, 1) := by decide +kernel
theorem d_Crd_isInHand_10 : decode b_Crd_isInHand 10 = .ok (.goto 4, 3) := by decide +kernel
theorem d_Crd_isInHand_13 : decode b_Crd_isInHand 13 = .ok (.iconst 0, 1) := by decide +kernel
theorem d_Crd_isInHand_14 : decode b_Crd_isInHand 14 = .ok (.ireturn, 1) := by decide +kernel
theorem d_Crd_isGoodIn_0 : decode b_Crd_isGoodIn 0 = .ok (.aload_n 0, 1) := by decide +kernel
theorem d_Crd_isGoodIn_1 : decode b_Crd_isGoodIn 1 = .ok (.getfield 30, 3) := by decide +kernel
theorem d_Crd_isGoodIn_4 : decode b_Crd_isGoodIn 4 = .ok (.iload_n 1, 1) := by decide +kernel
theorem d_Crd_isGoodIn_5 : decode b_Crd_isGoodIn 5 = .ok (.laload, 1) := by decide +kernel
theorem d_Crd_isGoodIn_6 : decode b_Crd_isGoodIn 6 = .ok (.iload_n 2, 1) := by decide +kernel
theorem d_Crd_isGoodIn_7 : decode b_Crd_isGoodIn 7 = .ok (.lshr, 1) := by decide +kernel
theorem d_Crd_isGoodIn_8 : decode b_Crd_isGoodIn 8 = .ok (.lconst 1, 1) := by decide +kernel
theorem d_Crd_isGoodIn_9 : decode b_Crd_isGoodIn 9 = .ok (.land, 1) := by decide +kernel
theorem d_Crd_isGoodIn_10 : decode b_Crd_isGoodIn 10 = .ok (.lconst 1, 1) := by decide +kernel
theorem d_Crd_isGoodIn_11 : decode b_Crd_isGoodIn 11 = .ok (.lcmp, 1) := by decide +kernel
theorem d_Crd_isGoodIn_12 : decode b_Crd_isGoodIn 12 = .ok (.ifCond .ne 7, 3) := by decide +kernel
theorem d_Crd_isGoodIn_15 : decode b_Crd_isGoodIn 15 = .ok (.iconst 1, 1) := by decide +kernel
theorem d_Crd_isGoodIn_16 : decode b_Crd_isGoodIn 16 = .ok (.goto 4, 3) := by decide +kernel
theorem d_Crd_isGoodIn_19 : decode b_Crd_isGoodIn 19 = .ok (.iconst 0, 1) := by decide +kernel
theorem d_Crd_isGoodIn_20 : decode b_Crd_isGoodIn 20 = .ok (.ireturn, 1) := by decide +kernel
theorem d_Crd_shares_0 : decode b_Crd_shares 0 = .ok (.aload_n 0, 1) := by decide +kernel
theorem d_Crd_shares_1 : decode b_Crd_shares 1 = .ok (.getfield 27, 3) := by decide +kernel
theorem d_Crd_shares_4 : decode b_Crd_shares 4 = .ok (.iload_n 1, 1) := by decide +kernel
theorem d_Crd_shares_5 : decode b_Crd_shares 5 = .ok (.iaload, 1) := by decide +kernel
theorem d_Crd_shares_6 : decode b_Crd_shares 6 = .ok (.ifCond .ne 17, 3) := by decide +kernel
theorem d_Crd_shares_9 : decode b_Crd_shares 9 = .ok (.aload_n 0, 1) := by decide +kernel
theorem d_Crd_shares_10 : decode b_Crd_shares 10 = .ok (.getfield 9, 3) := by decide +kernel
theorem d_Crd_shares_13 : decode b_Crd_shares 13 = .ok (.iload_n 1, 1) := by decide +kernel
theorem d_Crd_shares_14 : decode b_Crd_shares 14 = .ok (.iaload, 1) := by decide +kernel
theorem d_Crd_shares_15 : decode b_Crd_shares 15 = .ok (.iconst 1, 1) := by decide +kernel
theorem d_Crd_shares_16 : decode b_Crd_shares 16 = .ok (.if_icmp .lt 7, 3) := by decide +kernel
theorem d_Crd_shares_19 : decode b_Crd_shares 19 = .ok (.iconst 1, 1) := by decide +kernel
theorem d_Crd_shares_20 : decode b_Crd_shares 20 = .ok (.goto 4, 3) := by decide +kernel
theorem d_Crd_shares_23 : decode b_Crd_shares 23 = .ok (.iconst 0, 1) := by decide +kernel
theorem d_Crd_shares_24 : decode b_Crd_shares 24 = .ok (.ireturn, 1) := by decide +kernel
theorem d_Crd_sharedStamps_0 : decode b_Crd_sharedStamps 0 = .ok (.iconst 0, 1) := by decide +kernel
theorem d_Crd_sharedStamps_1 : decode b_Crd_sharedStamps 1 = .ok (.istore_n 1, 1) := by decide +kernel
theorem d_Crd_sharedStamps_2 : decode b_Crd_sharedStamps 2 = .ok (.iconst 0, 1) := by decide +kernel
theorem d_Crd_sharedStamps_3 : decode b_Crd_sharedStamps 3 = .ok (.istore_n 2, 1) := by decide +kernel
theorem d_Crd_sharedStamps_4 : decode b_Crd_sharedStamps 4 = .ok (.iload_n 2, 1) := by decide +kernel
theorem d_Crd_sharedStamps_5 : decode b_Crd_sharedStamps 5 = .ok (.aload_n 0, 1) := by decide +kernel
theorem d_Crd_sharedStamps_6 : decode b_Crd_sharedStamps 6 = .ok (.getfield 43, 3) := by decide +kernel
theorem d_Crd_sharedStamps_9 : decode b_Crd_sharedStamps 9 = .ok (.if_icmp .ge 30, 3) := by decide +kernel
theorem d_Crd_sharedStamps_12 : decode b_Crd_sharedStamps 12 = .ok (.iload_n 1, 1) := by decide +kernel
theorem d_Crd_sharedStamps_13 : decode b_Crd_sharedStamps 13 = .ok (.aload_n 0, 1) := by decide +kernel
theorem d_Crd_sharedStamps_14 : decode b_Crd_sharedStamps 14 = .ok (.iload_n 2, 1) := by decide +kernel
theorem d_Crd_sharedStamps_15 : decode b_Crd_sharedStamps 15 = .ok (.invokevirtual 53, 3) := by decide +kernel
theorem d_Crd_sharedStamps_18 : decode b_Crd_sharedStamps 18 = .ok (.ifCond .eq 12, 3) := by decide +kernel
theorem d_Crd_sharedStamps_21 : decode b_Crd_sharedStamps 21 = .ok (.aload_n 0, 1) := by decide +kernel
theorem d_Crd_sharedStamps_22 : decode b_Crd_sharedStamps 22 = .ok (.getfield 9, 3) := by decide +kernel
theorem d_Crd_sharedStamps_25 : decode b_Crd_sharedStamps 25 = .ok (.iload_n 2, 1) := by decide +kernel
theorem d_Crd_sharedStamps_26 : decode b_Crd_sharedStamps 26 = .ok (.iaload, 1) := by decide +kernel
theorem d_Crd_sharedStamps_27 : decode b_Crd_sharedStamps 27 = .ok (.goto 4, 3) := by decide +kernel
theorem d_Crd_sharedStamps_30 : decode b_Crd_sharedStamps 30 = .ok (.iconst 0, 1) := by decide +kernel
theorem d_Crd_sharedStamps_31 : decode b_Crd_sharedStamps 31 = .ok (.iadd, 1) := by decide +kernel
theorem d_Crd_sharedStamps_32 : decode b_Crd_sharedStamps 32 = .ok (.istore_n 1, 1) := by decide +kernel
theorem d_Crd_sharedStamps_33 : decode b_Crd_sharedStamps 33 = .ok (.iinc 2 1, 3) := by decide +kernel
theorem d_Crd_sharedStamps_36 : decode b_Crd_sharedStamps 36 = .ok (.goto (-32), 3) := by decide +kernel
theorem d_Crd_sharedStamps_39 : decode b_Crd_sharedStamps 39 = .ok (.iload_n 1, 1) := by decide +kernel
theorem d_Crd_sharedStamps_40 : decode b_Crd_sharedStamps 40 = .ok (.ireturn, 1) := by decide +kernel
theorem d_Crd_allStamps_0 : decode b_Crd_allStamps 0 = .ok (.iconst 0, 1) := by decide +kernel
theorem d_Crd_allStamps_1 : decode b_Crd_allStamps 1 = .ok (.istore_n 1, 1) := by decide +kernel
theorem d_Crd_allStamps_2 : decode b_Crd_allStamps 2 = .ok (.iconst 0, 1) := by decide +kernel
theorem d_Crd_allStamps_3 : decode b_Crd_allStamps 3 = .ok (.istore_n 2, 1) := by decide +kernel
theorem d_Crd_allStamps_4 : decode b_Crd_allStamps 4 = .ok (.iload_n 2, 1) := by decide +kernel
theorem d_Crd_allStamps_5 : decode b_Crd_allStamps 5 = .ok (.aload_n 0, 1) := by decide +kernel
theorem d_Crd_allStamps_6 : decode b_Crd_allStamps 6 = .ok (.getfield 43, 3) := by decide +kernel
theorem d_Crd_allStamps_9 : decode b_Crd_allStamps 9 = .ok (.if_icmp .ge 18, 3) := by decide +kernel
theorem d_Crd_allStamps_12 : decode b_Crd_allStamps 12 = .ok (.iload_n 1, 1) := by decide +kernel
theorem d_Crd_allStamps_13 : decode b_Crd_allStamps 13 = .ok (.aload_n 0, 1) := by decide +kernel
theorem d_Crd_allStamps_14 : decode b_Crd_allStamps 14 = .ok (.getfield 9, 3) := by decide +kernel
theorem d_Crd_allStamps_17 : decode b_Crd_allStamps 17 = .ok (.iload_n 2, 1) := by decide +kernel
theorem d_Crd_allStamps_18 : decode b_Crd_allStamps 18 = .ok (.iaload, 1) := by decide +kernel
theorem d_Crd_allStamps_19 : decode b_Crd_allStamps 19 = .ok (.iadd, 1) := by decide +kernel
theorem d_Crd_allStamps_20 : decode b_Crd_allStamps 20 = .ok (.istore_n 1, 1) := by decide +kernel
theorem d_Crd_allStamps_21 : decode b_Crd_allStamps 21 = .ok (.iinc 2 1, 3) := by decide +kernel
theorem d_Crd_allStamps_24 : decode b_Crd_allStamps 24 = .ok (.goto (-20), 3) := by decide +kernel
theorem d_Crd_allStamps_27 : decode b_Crd_allStamps 27 = .ok (.iload_n 1, 1) := by decide +kernel
theorem d_Crd_allStamps_28 : decode b_Crd_allStamps 28 = .ok (.ireturn, 1) := by decide +kernel
theorem d_Crd_mislaidCards_0 : decode b_Crd_mislaidCards 0 = .ok (.iconst 0, 1) := by decide +kernel
theorem d_Crd_mislaidCards_1 : decode b_Crd_mislaidCards 1 = .ok (.istore_n 1, 1) := by decide +kernel
theorem d_Crd_mislaidCards_2 : decode b_Crd_mislaidCards 2 = .ok (.iconst 0, 1) := by decide +kernel
theorem d_Crd_mislaidCards_3 : decode b_Crd_mislaidCards 3 = .ok (.istore_n 2, 1) := by decide +kernel
theorem d_Crd_mislaidCards_4 : decode b_Crd_mislaidCards 4 = .ok (.iload_n 2, 1) := by decide +kernel
theorem d_Crd_mislaidCards_5 : decode b_Crd_mislaidCards 5 = .ok (.aload_n 0, 1) := by decide +kernel
theorem d_Crd_mislaidCards_6 : decode b_Crd_mislaidCards 6 = .ok (.getfield 43, 3) := by decide +kernel
theorem d_Crd_mislaidCards_9 : decode b_Crd_mislaidCards 9 = .ok (.if_icmp .ge 27, 3) := by decide +kernel
theorem d_Crd_mislaidCards_12 : decode b_Crd_mislaidCards 12 = .ok (.iload_n 1, 1) := by decide +kernel
theorem d_Crd_mislaidCards_13 : decode b_Crd_mislaidCards 13 = .ok (.aload_n 0, 1) := by decide +kernel
theorem d_Crd_mislaidCards_14 : decode b_Crd_mislaidCards 14 = .ok (.getfield 15, 3) := by decide +kernel
theorem d_Crd_mislaidCards_17 : decode b_Crd_mislaidCards 17 = .ok (.iload_n 2, 1) := by decide +kernel
theorem d_Crd_mislaidCards_18 : decode b_Crd_mislaidCards 18 = .ok (.iaload, 1) := by decide +kernel
theorem d_Crd_mislaidCards_19 : decode b_Crd_mislaidCards 19 = .ok (.iconst 1, 1) := by decide +kernel
theorem d_Crd_mislaidCards_20 : decode b_Crd_mislaidCards 20 = .ok (.if_icmp .ne 7, 3) := by decide +kernel
theorem d_Crd_mislaidCards_23 : decode b_Crd_mislaidCards 23 = .ok (.iconst 1, 1) := by decide +kernel
theorem d_Crd_mislaidCards_24 : decode b_Crd_mislaidCards 24 = .ok (.goto 4, 3) := by decide +kernel
theorem d_Crd_mislaidCards_27 : decode b_Crd_mislaidCards 27 = .ok (.iconst 0, 1) := by decide +kernel
theorem d_Crd_mislaidCards_28 : decode b_Crd_mislaidCards 28 = .ok (.iadd, 1) := by decide +kernel
theorem d_Crd_mislaidCards_29 : decode b_Crd_mislaidCards 29 = .ok (.istore_n 1, 1) := by decide +kernel
theorem d_Crd_mislaidCards_30 : decode b_Crd_mislaidCards 30 = .ok (.iinc 2 1, 3) := by decide +kernel
theorem d_Crd_mislaidCards_33 : decode b_Crd_mislaidCards 33 = .ok (.goto (-29), 3) := by decide +kernel
theorem d_Crd_mislaidCards_36 : decode b_Crd_mislaidCards 36 = .ok (.iload_n 1, 1) := by decide +kernel
theorem d_Crd_mislaidCards_37 : decode b_Crd_mislaidCards 37 = .ok (.ireturn, 1) := by decide +kernel
theorem d_Crd_drawnMembers_0 : decode b_Crd_drawnMembers 0 = .ok (.iconst 0, 1) := by decide +kernel
theorem d_Crd_drawnMembers_1 : decode b_Crd_drawnMembers 1 = .ok (.istore_n 1, 1) := by decide +kernel
theorem d_Crd_drawnMembers_2 : decode b_Crd_drawnMembers 2 = .ok (.iconst 0, 1) := by decide +kernel
theorem d_Crd_drawnMembers_3 : decode b_Crd_drawnMembers 3 = .ok (.istore_n 2, 1) := by decide +kernel
theorem d_Crd_drawnMembers_4 : decode b_Crd_drawnMembers 4 = .ok (.iload_n 2, 1) := by decide +kernel
theorem d_Crd_drawnMembers_5 : decode b_Crd_drawnMembers 5 = .ok (.aload_n 0, 1) := by decide +kernel
theorem d_Crd_drawnMembers_6 : decode b_Crd_drawnMembers 6 = .ok (.getfield 43, 3) := by decide +kernel
theorem d_Crd_drawnMembers_9 : decode b_Crd_drawnMembers 9 = .ok (.if_icmp .ge 18, 3) := by decide +kernel
theorem d_Crd_drawnMembers_12 : decode b_Crd_drawnMembers 12 = .ok (.iload_n 1, 1) := by decide +kernel
theorem d_Crd_drawnMembers_13 : decode b_Crd_drawnMembers 13 = .ok (.aload_n 0, 1) := by decide +kernel
theorem d_Crd_drawnMembers_14 : decode b_Crd_drawnMembers 14 = .ok (.getfield 27, 3) := by decide +kernel
theorem d_Crd_drawnMembers_17 : decode b_Crd_drawnMembers 17 = .ok (.iload_n 2, 1) := by decide +kernel
theorem d_Crd_drawnMembers_18 : decode b_Crd_drawnMembers 18 = .ok (.iaload, 1) := by decide +kernel
theorem d_Crd_drawnMembers_19 : decode b_Crd_drawnMembers 19 = .ok (.iadd, 1) := by decide +kernel
theorem d_Crd_drawnMembers_20 : decode b_Crd_drawnMembers 20 = .ok (.istore_n 1, 1) := by decide +kernel
theorem d_Crd_drawnMembers_21 : decode b_Crd_drawnMembers 21 = .ok (.iinc 2 1, 3) := by decide +kernel
theorem d_Crd_drawnMembers_24 : decode b_Crd_drawnMembers 24 = .ok (.goto (-20), 3) := by decide +kernel
theorem d_Crd_drawnMembers_27 : decode b_Crd_drawnMembers 27 = .ok (.iload_n 1, 1) := by decide +kernel
theorem d_Crd_drawnMembers_28 : decode b_Crd_drawnMembers 28 = .ok (.ireturn, 1) := by decide +kernel
theorem d_Crd_makeGood_0 : decode b_Crd_makeGood 0 = .ok (.aload_n 0, 1) := by decide +kernel
theorem d_Crd_makeGood_1 : decode b_Crd_makeGood 1 = .ok (.getfield 30, 3) := by decide +kernel
theorem d_Crd_makeGood_4 : decode b_Crd_makeGood 4 = .ok (.iload_n 1, 1) := by decide +kernel
theorem d_Crd_makeGood_5 : decode b_Crd_makeGood 5 = .ok (.dup2, 1) := by decide +kernel
theorem d_Crd_makeGood_6 : decode b_Crd_makeGood 6 = .ok (.laload, 1) := by decide +kernel
theorem d_Crd_makeGood_7 : decode b_Crd_makeGood 7 = .ok (.lconst 1, 1) := by decide +kernel
theorem d_Crd_makeGood_8 : decode b_Crd_makeGood 8 = .ok (.iload_n 2, 1) := by decide +kernel
theorem d_Crd_makeGood_9 : decode b_Crd_makeGood 9 = .ok (.lshl, 1) := by decide +kernel
theorem d_Crd_makeGood_10 : decode b_Crd_makeGood 10 = .ok (.lor, 1) := by decide +kernel
theorem d_Crd_makeGood_11 : decode b_Crd_makeGood 11 = .ok (.lastore, 1) := by decide +kernel
theorem d_Crd_makeGood_12 : decode b_Crd_makeGood 12 = .ok (.aload_n 0, 1) := by decide +kernel
theorem d_Crd_makeGood_13 : decode b_Crd_makeGood 13 = .ok (.getfield 34, 3) := by decide +kernel
theorem d_Crd_makeGood_16 : decode b_Crd_makeGood 16 = .ok (.iload_n 1, 1) := by decide +kernel
theorem d_Crd_makeGood_17 : decode b_Crd_makeGood 17 = .ok (.iload_n 2, 1) := by decide +kernel
theorem d_Crd_makeGood_18 : decode b_Crd_makeGood 18 = .ok (.iastore, 1) := by decide +kernel
theorem d_Crd_makeGood_19 : decode b_Crd_makeGood 19 = .ok (.return_, 1) := by decide +kernel
theorem d_Crd_rowOfGoodWeeks_0 : decode b_Crd_rowOfGoodWeeks 0 = .ok (.aload_n 0, 1) := by decide +kernel
theorem d_Crd_rowOfGoodWeeks_1 : decode b_Crd_rowOfGoodWeeks 1 = .ok (.iload_n 1, 1) := by decide +kernel
theorem d_Crd_rowOfGoodWeeks_2 : decode b_Crd_rowOfGoodWeeks 2 = .ok (.iload_n 2, 1) := by decide +kernel
theorem d_Crd_rowOfGoodWeeks_3 : decode b_Crd_rowOfGoodWeeks 3 = .ok (.invokevirtual 57, 3) := by decide +kernel
theorem d_Crd_rowOfGoodWeeks_6 : decode b_Crd_rowOfGoodWeeks 6 = .ok (.ifCond .eq 7, 3) := by decide +kernel
theorem d_Crd_rowOfGoodWeeks_9 : decode b_Crd_rowOfGoodWeeks 9 = .ok (.iload_n 2, 1) := by decide +kernel
theorem d_Crd_rowOfGoodWeeks_10 : decode b_Crd_rowOfGoodWeeks 10 = .ok (.goto 6, 3) := by decide +kernel
theorem d_Crd_rowOfGoodWeeks_13 : decode b_Crd_rowOfGoodWeeks 13 = .ok (.iload_n 2, 1) := by decide +kernel
theorem d_Crd_rowOfGoodWeeks_14 : decode b_Crd_rowOfGoodWeeks 14 = .ok (.iconst 1, 1) := by decide +kernel
theorem d_Crd_rowOfGoodWeeks_15 : decode b_Crd_rowOfGoodWeeks 15 = .ok (.isub, 1) := by decide +kernel
theorem d_Crd_rowOfGoodWeeks_16 : decode b_Crd_rowOfGoodWeeks 16 = .ok (.istore_n 3, 1) := by decide +kernel
theorem d_Crd_rowOfGoodWeeks_17 : decode b_Crd_rowOfGoodWeeks 17 = .ok (.iconst 0, 1) := by decide +kernel
theorem d_Crd_rowOfGoodWeeks_18 : decode b_Crd_rowOfGoodWeeks 18 = .ok (.istore 4, 2) := by decide +kernel
theorem d_Crd_rowOfGoodWeeks_20 : decode b_Crd_rowOfGoodWeeks 20 = .ok (.iload_n 3, 1) := by decide +kernel
theorem d_Crd_rowOfGoodWeeks_21 : decode b_Crd_rowOfGoodWeeks 21 = .ok (.istore 5, 2) := by decide +kernel
theorem d_Crd_rowOfGoodWeeks_23 : decode b_Crd_rowOfGoodWeeks 23 = .ok (.iload 5, 2) := by decide +kernel
theorem d_Crd_rowOfGoodWeeks_25 : decode b_Crd_rowOfGoodWeeks 25 = .ok (.ifCond .lt 22, 3) := by decide +kernel
theorem d_Crd_rowOfGoodWeeks_28 : decode b_Crd_rowOfGoodWeeks 28 = .ok (.aload_n 0, 1) := by decide +kernel
theorem d_Crd_rowOfGoodWeeks_29 : decode b_Crd_rowOfGoodWeeks 29 = .ok (.iload_n 1, 1) := by decide +kernel
theorem d_Crd_rowOfGoodWeeks_30 : decode b_Crd_rowOfGoodWeeks 30 = .ok (.iload 5, 2) := by decide +kernel
theorem d_Crd_rowOfGoodWeeks_32 : decode b_Crd_rowOfGoodWeeks 32 = .ok (.invokevirtual 57, 3) := by decide +kernel
theorem d_Crd_rowOfGoodWeeks_35 : decode b_Crd_rowOfGoodWeeks 35 = .ok (.ifCond .eq 12, 3) := by decide +kernel
theorem d_Crd_rowOfGoodWeeks_38 : decode b_Crd_rowOfGoodWeeks 38 = .ok (.iinc 4 1, 3) := by decide +kernel
theorem d_Crd_rowOfGoodWeeks_41 : decode b_Crd_rowOfGoodWeeks 41 = .ok (.iinc 5 (-1), 3) := by decide +kernel
theorem d_Crd_rowOfGoodWeeks_44 : decode b_Crd_rowOfGoodWeeks 44 = .ok (.goto (-21), 3) := by decide +kernel
theorem d_Crd_rowOfGoodWeeks_47 : decode b_Crd_rowOfGoodWeeks 47 = .ok (.iload 4, 2) := by decide +kernel
theorem d_Crd_rowOfGoodWeeks_49 : decode b_Crd_rowOfGoodWeeks 49 = .ok (.ireturn, 1) := by decide +kernel
theorem d_Crd_hasLapsed_0 : decode b_Crd_hasLapsed 0 = .ok (.aload_n 0, 1) := by decide +kernel
theorem d_Crd_hasLapsed_1 : decode b_Crd_hasLapsed 1 = .ok (.getfield 34, 3) := by decide +kernel
theorem d_Crd_hasLapsed_4 : decode b_Crd_hasLapsed 4 = .ok (.iload_n 1, 1) := by decide +kernel
theorem d_Crd_hasLapsed_5 : decode b_Crd_hasLapsed 5 = .ok (.iaload, 1) := by decide +kernel
theorem d_Crd_hasLapsed_6 : decode b_Crd_hasLapsed 6 = .ok (.bipush (-9), 2) := by decide +kernel
theorem d_Crd_hasLapsed_8 : decode b_Crd_hasLapsed 8 = .ok (.if_icmp .ne 12, 3) := by decide +kernel
theorem d_Crd_hasLapsed_11 : decode b_Crd_hasLapsed 11 = .ok (.aload_n 0, 1) := by decide +kernel
theorem d_Crd_hasLapsed_12 : decode b_Crd_hasLapsed 12 = .ok (.getfield 21, 3) := by decide +kernel
theorem d_Crd_hasLapsed_15 : decode b_Crd_hasLapsed 15 = .ok (.iload_n 1, 1) := by decide +kernel
theorem d_Crd_hasLapsed_16 : decode b_Crd_hasLapsed 16 = .ok (.iaload, 1) := by decide +kernel
theorem d_Crd_hasLapsed_17 : decode b_Crd_hasLapsed 17 = .ok (.goto 9, 3) := by decide +kernel
theorem d_Crd_hasLapsed_20 : decode b_Crd_hasLapsed 20 = .ok (.aload_n 0, 1) := by decide +kernel
theorem d_Crd_hasLapsed_21 : decode b_Crd_hasLapsed 21 = .ok (.getfield 34, 3) := by decide +kernel
theorem d_Crd_hasLapsed_24 : decode b_Crd_hasLapsed 24 = .ok (.iload_n 1, 1) := by decide +kernel
theorem d_Crd_hasLapsed_25 : decode b_Crd_hasLapsed 25 = .ok (.iaload, 1) := by decide +kernel
theorem d_Crd_hasLapsed_26 : decode b_Crd_hasLapsed 26 = .ok (.istore_n 3, 1) := by decide +kernel
theorem d_Crd_hasLapsed_27 : decode b_Crd_hasLapsed 27 = .ok (.iload_n 2, 1) := by decide +kernel
theorem d_Crd_hasLapsed_28 : decode b_Crd_hasLapsed 28 = .ok (.iload_n 3, 1) := by decide +kernel
theorem d_Crd_hasLapsed_29 : decode b_Crd_hasLapsed 29 = .ok (.isub, 1) := by decide +kernel
theorem d_Crd_hasLapsed_30 : decode b_Crd_hasLapsed 30 = .ok (.iconst 4, 1) := by decide +kernel
theorem d_Crd_hasLapsed_31 : decode b_Crd_hasLapsed 31 = .ok (.if_icmp .le 7, 3) := by decide +kernel
theorem d_Crd_hasLapsed_34 : decode b_Crd_hasLapsed 34 = .ok (.iconst 1, 1) := by decide +kernel
theorem d_Crd_hasLapsed_35 : decode b_Crd_hasLapsed 35 = .ok (.goto 4, 3) := by decide +kernel
theorem d_Crd_hasLapsed_38 : decode b_Crd_hasLapsed 38 = .ok (.iconst 0, 1) := by decide +kernel
theorem d_Crd_hasLapsed_39 : decode b_Crd_hasLapsed 39 = .ok (.ireturn, 1) := by decide +kernel
theorem d_Clb_init_0 : decode b_Clb_init 0 = .ok (.aload_n 0, 1) := by decide +kernel
theorem d_Clb_init_1 : decode b_Clb_init 1 = .ok (.invokespecial 3, 3) := by decide +kernel
theorem d_Clb_init_4 : decode b_Clb_init 4 = .ok (.aload_n 0, 1) := by decide +kernel
theorem d_Clb_init_5 : decode b_Clb_init 5 = .ok (.new 9, 3) := by decide +kernel
theorem d_Clb_init_8 : decode b_Clb_init 8 = .ok (.dup, 1) := by decide +kernel
theorem d_Clb_init_9 : decode b_Clb_init 9 = .ok (.invokespecial 11, 3) := by decide +kernel
theorem d_Clb_init_12 : decode b_Clb_init 12 = .ok (.putfield 12, 3) := by decide +kernel
theorem d_Clb_init_15 : decode b_Clb_init 15 = .ok (.aload_n 0, 1) := by decide +kernel
theorem d_Clb_init_16 : decode b_Clb_init 16 = .ok (.new 18, 3) := by decide +kernel
theorem d_Clb_init_19 : decode b_Clb_init 19 = .ok (.dup, 1) := by decide +kernel
theorem d_Clb_init_20 : decode b_Clb_init 20 = .ok (.invokespecial 20, 3) := by decide +kernel
theorem d_Clb_init_23 : decode b_Clb_init 23 = .ok (.putfield 21, 3) := by decide +kernel
theorem d_Clb_init_26 : decode b_Clb_init 26 = .ok (.aload_n 0, 1) := by decide +kernel
theorem d_Clb_init_27 : decode b_Clb_init 27 = .ok (.new 25, 3) := by decide +kernel
theorem d_Clb_init_30 : decode b_Clb_init 30 = .ok (.dup, 1) := by decide +kernel
theorem d_Clb_init_31 : decode b_Clb_init 31 = .ok (.invokespecial 27, 3) := by decide +kernel
theorem d_Clb_init_34 : decode b_Clb_init 34 = .ok (.putfield 28, 3) := by decide +kernel
theorem d_Clb_init_37 : decode b_Clb_init 37 = .ok (.return_, 1) := by decide +kernel
theorem d_Clb_copyFrom_0 : decode b_Clb_copyFrom 0 = .ok (.aload_n 0, 1) := by decide +kernel
theorem d_Clb_copyFrom_1 : decode b_Clb_copyFrom 1 = .ok (.aload_n 1, 1) := by decide +kernel
theorem d_Clb_copyFrom_2 : decode b_Clb_copyFrom 2 = .ok (.getfield 32, 3) := by decide +kernel
theorem d_Clb_copyFrom_5 : decode b_Clb_copyFrom 5 = .ok (.putfield 32, 3) := by decide +kernel
theorem d_Clb_copyFrom_8 : decode b_Clb_copyFrom 8 = .ok (.aload_n 0, 1) := by decide +kernel
theorem d_Clb_copyFrom_9 : decode b_Clb_copyFrom 9 = .ok (.aload_n 1, 1) := by decide +kernel
theorem d_Clb_copyFrom_10 : decode b_Clb_copyFrom 10 = .ok (.getfield 36, 3) := by decide +kernel
theorem d_Clb_copyFrom_13 : decode b_Clb_copyFrom 13 = .ok (.putfield 36, 3) := by decide +kernel
theorem d_Clb_copyFrom_16 : decode b_Clb_copyFrom 16 = .ok (.aload_n 0, 1) := by decide +kernel
theorem d_Clb_copyFrom_17 : decode b_Clb_copyFrom 17 = .ok (.aload_n 1, 1) := by decide +kernel
theorem d_Clb_copyFrom_18 : decode b_Clb_copyFrom 18 = .ok (.getfield 40, 3) := by decide +kernel
theorem d_Clb_copyFrom_21 : decode b_Clb_copyFrom 21 = .ok (.putfield 40, 3) := by decide +kernel
theorem d_Clb_copyFrom_24 : decode b_Clb_copyFrom 24 = .ok (.aload_n 0, 1) := by decide +kernel
theorem d_Clb_copyFrom_25 : decode b_Clb_copyFrom 25 = .ok (.aload_n 1, 1) := by decide +kernel
theorem d_Clb_copyFrom_26 : decode b_Clb_copyFrom 26 = .ok (.getfield 43, 3) := by decide +kernel
theorem d_Clb_copyFrom_29 : decode b_Clb_copyFrom 29 = .ok (.putfield 43, 3) := by decide +kernel
theorem d_Clb_copyFrom_32 : decode b_Clb_copyFrom 32 = .ok (.aload_n 0, 1) := by decide +kernel
theorem d_Clb_copyFrom_33 : decode b_Clb_copyFrom 33 = .ok (.getfield 12, 3) := by decide +kernel
theorem d_Clb_copyFrom_36 : decode b_Clb_copyFrom 36 = .ok (.aload_n 1, 1) := by decide +kernel
theorem d_Clb_copyFrom_37 : decode b_Clb_copyFrom 37 = .ok (.getfield 12, 3) := by decide +kernel
theorem d_Clb_copyFrom_40 : decode b_Clb_copyFrom 40 = .ok (.invokevirtual 46, 3) := by decide +kernel
theorem d_Clb_copyFrom_43 : decode b_Clb_copyFrom 43 = .ok (.aload_n 0, 1) := by decide +kernel
theorem d_Clb_copyFrom_44 : decode b_Clb_copyFrom 44 = .ok (.getfield 21, 3) := by decide +kernel
theorem d_Clb_copyFrom_47 : decode b_Clb_copyFrom 47 = .ok (.aload_n 1, 1) := by decide +kernel
theorem d_Clb_copyFrom_48 : decode b_Clb_copyFrom 48 = .ok (.getfield 21, 3) := by decide +kernel
theorem d_Clb_copyFrom_51 : decode b_Clb_copyFrom 51 = .ok (.invokevirtual 50, 3) := by decide +kernel
theorem d_Clb_copyFrom_54 : decode b_Clb_copyFrom 54 = .ok (.aload_n 0, 1) := by decide +kernel
theorem d_Clb_copyFrom_55 : decode b_Clb_copyFrom 55 = .ok (.getfield 28, 3) := by decide +kernel
theorem d_Clb_copyFrom_58 : decode b_Clb_copyFrom 58 = .ok (.aload_n 1, 1) := by decide +kernel
theorem d_Clb_copyFrom_59 : decode b_Clb_copyFrom 59 = .ok (.getfield 28, 3) := by decide +kernel
theorem d_Clb_copyFrom_62 : decode b_Clb_copyFrom 62 = .ok (.invokevirtual 53, 3) := by decide +kernel
theorem d_Clb_copyFrom_65 : decode b_Clb_copyFrom 65 = .ok (.return_, 1) := by decide +kernel
theorem d_Clb_addMember_0 : decode b_Clb_addMember 0 = .ok (.aload_n 0, 1) := by decide +kernel
theorem d_Clb_addMember_1 : decode b_Clb_addMember 1 = .ok (.getfield 36, 3) := by decide +kernel
theorem d_Clb_addMember_4 : decode b_Clb_addMember 4 = .ok (.ifCond .eq 6, 3) := by decide +kernel
theorem d_Clb_addMember_7 : decode b_Clb_addMember 7 = .ok (.bipush (-2), 2) := by decide +kernel
theorem d_Clb_addMember_9 : decode b_Clb_addMember 9 = .ok (.ireturn, 1) := by decide +kernel
theorem d_Clb_addMember_10 : decode b_Clb_addMember 10 = .ok (.aload_n 0, 1) := by decide +kernel
theorem d_Clb_addMember_11 : decode b_Clb_addMember 11 = .ok (.getfield 12, 3) := by decide +kernel
theorem d_Clb_addMember_14 : decode b_Clb_addMember 14 = .ok (.getfield 56, 3) := by decide +kernel
theorem d_Clb_addMember_17 : decode b_Clb_addMember 17 = .ok (.bipush 12, 2) := by decide +kernel
theorem d_Clb_addMember_19 : decode b_Clb_addMember 19 = .ok (.if_icmp .lt 6, 3) := by decide +kernel
theorem d_Clb_addMember_22 : decode b_Clb_addMember 22 = .ok (.bipush (-3), 2) := by decide +kernel
theorem d_Clb_addMember_24 : decode b_Clb_addMember 24 = .ok (.ireturn, 1) := by decide +kernel
theorem d_Clb_addMember_25 : decode b_Clb_addMember 25 = .ok (.aload_n 0, 1) := by decide +kernel
theorem d_Clb_addMember_26 : decode b_Clb_addMember 26 = .ok (.getfield 12, 3) := by decide +kernel
theorem d_Clb_addMember_29 : decode b_Clb_addMember 29 = .ok (.getfield 56, 3) := by decide +kernel
theorem d_Clb_addMember_32 : decode b_Clb_addMember 32 = .ok (.istore_n 1, 1) := by decide +kernel
theorem d_Clb_addMember_33 : decode b_Clb_addMember 33 = .ok (.aload_n 0, 1) := by decide +kernel
theorem d_Clb_addMember_34 : decode b_Clb_addMember 34 = .ok (.getfield 12, 3) := by decide +kernel
theorem d_Clb_addMember_37 : decode b_Clb_addMember 37 = .ok (.getfield 59, 3) := by decide +kernel
theorem d_Clb_addMember_40 : decode b_Clb_addMember 40 = .ok (.iload_n 1, 1) := by decide +kernel
theorem d_Clb_addMember_41 : decode b_Clb_addMember 41 = .ok (.aload_n 0, 1) := by decide +kernel
theorem d_Clb_addMember_42 : decode b_Clb_addMember 42 = .ok (.getfield 32, 3) := by decide +kernel
theorem d_Clb_addMember_45 : decode b_Clb_addMember 45 = .ok (.iastore, 1) := by decide +kernel
theorem d_Clb_addMember_46 : decode b_Clb_addMember 46 = .ok (.aload_n 0, 1) := by decide +kernel
theorem d_Clb_addMember_47 : decode b_Clb_addMember 47 = .ok (.getfield 12, 3) := by decide +kernel
theorem d_Clb_addMember_50 : decode b_Clb_addMember 50 = .ok (.dup, 1) := by decide +kernel
theorem d_Clb_addMember_51 : decode b_Clb_addMember 51 = .ok (.getfield 56, 3) := by decide +kernel
theorem d_Clb_addMember_54 : decode b_Clb_addMember 54 = .ok (.iconst 1, 1) := by decide +kernel
theorem d_Clb_addMember_55 : decode b_Clb_addMember 55 = .ok (.iadd, 1) := by decide +kernel
theorem d_Clb_addMember_56 : decode b_Clb_addMember 56 = .ok (.putfield 56, 3) := by decide +kernel
theorem d_Clb_addMember_59 : decode b_Clb_addMember 59 = .ok (.iload_n 1, 1) := by decide +kernel
theorem d_Clb_addMember_60 : decode b_Clb_addMember 60 = .ok (.ireturn, 1) := by decide +kernel
theorem d_Clb_stickStamps_0 : decode b_Clb_stickStamps 0 = .ok (.aload_n 0, 1) := by decide +kernel
theorem d_Clb_stickStamps_1 : decode b_Clb_stickStamps 1 = .ok (.getfield 12, 3) := by decide +kernel
theorem d_Clb_stickStamps_4 : decode b_Clb_stickStamps 4 = .ok (.iload_n 1, 1) := by decide +kernel
theorem d_Clb_stickStamps_5 : decode b_Clb_stickStamps 5 = .ok (.invokevirtual 63, 3) := by decide +kernel
theorem d_Clb_stickStamps_8 : decode b_Clb_stickStamps 8 = .ok (.ifCond .eq 13, 3) := by decide +kernel
theorem d_Clb_stickStamps_11 : decode b_Clb_stickStamps 11 = .ok (.iload_n 2, 1) := by decide +kernel
theorem d_Clb_stickStamps_12 : decode b_Clb_stickStamps 12 = .ok (.iconst 1, 1) := by decide +kernel
theorem d_Clb_stickStamps_13 : decode b_Clb_stickStamps 13 = .ok (.if_icmp .lt 8, 3) := by decide +kernel
theorem d_Clb_stickStamps_16 : decode b_Clb_stickStamps 16 = .ok (.iload_n 2, 1) := by decide +kernel
theorem d_Clb_stickStamps_17 : decode b_Clb_stickStamps 17 = .ok (.iconst 5, 1) := by decide +kernel
theorem d_Clb_stickStamps_18 : decode b_Clb_stickStamps 18 = .ok (.if_icmp .le 5, 3) := by decide +kernel
theorem d_Clb_stickStamps_21 : decode b_Clb_stickStamps 21 = .ok (.iconst (-1), 1) := by decide +kernel
theorem d_Clb_stickStamps_22 : decode b_Clb_stickStamps 22 = .ok (.ireturn, 1) := by decide +kernel
theorem d_Clb_stickStamps_23 : decode b_Clb_stickStamps 23 = .ok (.aload_n 0, 1) := by decide +kernel
theorem d_Clb_stickStamps_24 : decode b_Clb_stickStamps 24 = .ok (.getfield 12, 3) := by decide +kernel
theorem d_Clb_stickStamps_27 : decode b_Clb_stickStamps 27 = .ok (.iload_n 1, 1) := by decide +kernel
theorem d_Clb_stickStamps_28 : decode b_Clb_stickStamps 28 = .ok (.invokevirtual 67, 3) := by decide +kernel
theorem d_Clb_stickStamps_31 : decode b_Clb_stickStamps 31 = .ok (.ifCond .eq 18, 3) := by decide +kernel
theorem d_Clb_stickStamps_34 : decode b_Clb_stickStamps 34 = .ok (.aload_n 0, 1) := by decide +kernel
theorem d_Clb_stickStamps_35 : decode b_Clb_stickStamps 35 = .ok (.getfield 12, 3) := by decide +kernel
theorem d_Clb_stickStamps_38 : decode b_Clb_stickStamps 38 = .ok (.iload_n 1, 1) := by decide +kernel
theorem d_Clb_stickStamps_39 : decode b_Clb_stickStamps 39 = .ok (.aload_n 0, 1) := by decide +kernel
theorem d_Clb_stickStamps_40 : decode b_Clb_stickStamps 40 = .ok (.getfield 32, 3) := by decide +kernel
theorem d_Clb_stickStamps_43 : decode b_Clb_stickStamps 43 = .ok (.invokevirtual 70, 3) := by decide +kernel
theorem d_Clb_stickStamps_46 : decode b_Clb_stickStamps 46 = .ok (.ifCond .eq 6, 3) := by decide +kernel
theorem d_Clb_stickStamps_49 : decode b_Clb_stickStamps 49 = .ok (.bipush (-2), 2) := by decide +kernel
theorem d_Clb_stickStamps_51 : decode b_Clb_stickStamps 51 = .ok (.ireturn, 1) := by decide +kernel
theorem d_Clb_stickStamps_52 : decode b_Clb_stickStamps 52 = .ok (.aload_n 0, 1) := by decide +kernel
theorem d_Clb_stickStamps_53 : decode b_Clb_stickStamps 53 = .ok (.getfield 12, 3) := by decide +kernel
theorem d_Clb_stickStamps_56 : decode b_Clb_stickStamps 56 = .ok (.iload_n 1, 1) := by decide +kernel
theorem d_Clb_stickStamps_57 : decode b_Clb_stickStamps 57 = .ok (.aload_n 0, 1) := by decide +kernel
theorem d_Clb_stickStamps_58 : decode b_Clb_stickStamps 58 = .ok (.getfield 32, 3) := by decide +kernel
theorem d_Clb_stickStamps_61 : decode b_Clb_stickStamps 61 = .ok (.invokevirtual 74, 3) := by decide +kernel
theorem d_Clb_stickStamps_64 : decode b_Clb_stickStamps 64 = .ok (.aload_n 0, 1) := by decide +kernel
theorem d_Clb_stickStamps_65 : decode b_Clb_stickStamps 65 = .ok (.getfield 12, 3) := by decide +kernel
theorem d_Clb_stickStamps_68 : decode b_Clb_stickStamps 68 = .ok (.getfield 78, 3) := by decide +kernel
theorem d_Clb_stickStamps_71 : decode b_Clb_stickStamps 71 = .ok (.iload_n 1, 1) := by decide +kernel
theorem d_Clb_stickStamps_72 : decode b_Clb_stickStamps 72 = .ok (.dup2, 1) := by decide +kernel
theorem d_Clb_stickStamps_73 : decode b_Clb_stickStamps 73 = .ok (.iaload, 1) := by decide +kernel
theorem d_Clb_stickStamps_74 : decode b_Clb_stickStamps 74 = .ok (.iload_n 2, 1) := by decide +kernel
theorem d_Clb_stickStamps_75 : decode b_Clb_stickStamps 75 = .ok (.iadd, 1) := by decide +kernel
theorem d_Clb_stickStamps_76 : decode b_Clb_stickStamps 76 = .ok (.iastore, 1) := by decide +kernel
theorem d_Clb_stickStamps_77 : decode b_Clb_stickStamps 77 = .ok (.aload_n 0, 1) := by decide +kernel
theorem d_Clb_stickStamps_78 : decode b_Clb_stickStamps 78 = .ok (.getfield 28, 3) := by decide +kernel
theorem d_Clb_stickStamps_81 : decode b_Clb_stickStamps 81 = .ok (.iload_n 2, 1) := by decide +kernel
theorem d_Clb_stickStamps_82 : decode b_Clb_stickStamps 82 = .ok (.bipush 10, 2) := by decide +kernel
theorem d_Clb_stickStamps_84 : decode b_Clb_stickStamps 84 = .ok (.imul, 1) := by decide +kernel
theorem d_Clb_stickStamps_85 : decode b_Clb_stickStamps 85 = .ok (.invokevirtual 81, 3) := by decide +kernel
theorem d_Clb_stickStamps_88 : decode b_Clb_stickStamps 88 = .ok (.aload_n 0, 1) := by decide +kernel
theorem d_Clb_stickStamps_89 : decode b_Clb_stickStamps 89 = .ok (.getfield 12, 3) := by decide +kernel
theorem d_Clb_stickStamps_92 : decode b_Clb_stickStamps 92 = .ok (.getfield 78, 3) := by decide +kernel
theorem d_Clb_stickStamps_95 : decode b_Clb_stickStamps 95 = .ok (.iload_n 1, 1) := by decide +kernel
theorem d_Clb_stickStamps_96 : decode b_Clb_stickStamps 96 = .ok (.iaload, 1) := by decide +kernel
theorem d_Clb_stickStamps_97 : decode b_Clb_stickStamps 97 = .ok (.ireturn, 1) := by decide +kernel
theorem d_Clb_withdrawStamps_0 : decode b_Clb_withdrawStamps 0 = .ok (.aload_n 0, 1) := by decide +kernel
theorem d_Clb_withdrawStamps_1 : decode b_Clb_withdrawStamps 1 = .ok (.getfield 12, 3) := by decide +kernel
theorem d_Clb_withdrawStamps_4 : decode b_Clb_withdrawStamps 4 = .ok (.iload_n 1, 1) := by decide +kernel
theorem d_Clb_withdrawStamps_5 : decode b_Clb_withdrawStamps 5 = .ok (.invokevirtual 63, 3) := by decide +kernel
theorem d_Clb_withdrawStamps_8 : decode b_Clb_withdrawStamps 8 = .ok (.ifCond .eq 15, 3) := by decide +kernel
theorem d_Clb_withdrawStamps_11 : decode b_Clb_withdrawStamps 11 = .ok (.iload_n 2, 1) := by decide +kernel
theorem d_Clb_withdrawStamps_12 : decode b_Clb_withdrawStamps 12 = .ok (.iconst 1, 1) := by decide +kernel
theorem d_Clb_withdrawStamps_13 : decode b_Clb_withdrawStamps 13 = .ok (.if_icmp .lt 10, 3) := by decide +kernel
theorem d_Clb_withdrawStamps_16 : decode b_Clb_withdrawStamps 16 = .ok (.iload_n 2, 1) := by decide +kernel
theorem d_Clb_withdrawStamps_17 : decode b_Clb_withdrawStamps 17 = .ok (.sipush 999, 3) := by decide +kernel
theorem d_Clb_withdrawStamps_20 : decode b_Clb_withdrawStamps 20 = .ok (.if_icmp .le 5, 3) := by decide +kernel
theorem d_Clb_withdrawStamps_23 : decode b_Clb_withdrawStamps 23 = .ok (.iconst (-1), 1) := by decide +kernel
theorem d_Clb_withdrawStamps_24 : decode b_Clb_withdrawStamps 24 = .ok (.ireturn, 1) := by decide +kernel
theorem d_Clb_withdrawStamps_25 : decode b_Clb_withdrawStamps 25 = .ok (.aload_n 0, 1) := by decide +kernel
theorem d_Clb_withdrawStamps_26 : decode b_Clb_withdrawStamps 26 = .ok (.getfield 12, 3) := by decide +kernel
theorem d_Clb_withdrawStamps_29 : decode b_Clb_withdrawStamps 29 = .ok (.iload_n 1, 1) := by decide +kernel
theorem d_Clb_withdrawStamps_30 : decode b_Clb_withdrawStamps 30 = .ok (.invokevirtual 67, 3) := by decide +kernel
theorem d_Clb_withdrawStamps_33 : decode b_Clb_withdrawStamps 33 = .ok (.ifCond .eq 16, 3) := by decide +kernel
theorem d_Clb_withdrawStamps_36 : decode b_Clb_withdrawStamps 36 = .ok (.aload_n 0, 1) := by decide +kernel
theorem d_Clb_withdrawStamps_37 : decode b_Clb_withdrawStamps 37 = .ok (.getfield 12, 3) := by decide +kernel
theorem d_Clb_withdrawStamps_40 : decode b_Clb_withdrawStamps 40 = .ok (.getfield 78, 3) := by decide +kernel
theorem d_Clb_withdrawStamps_43 : decode b_Clb_withdrawStamps 43 = .ok (.iload_n 1, 1) := by decide +kernel
theorem d_Clb_withdrawStamps_44 : decode b_Clb_withdrawStamps 44 = .ok (.iaload, 1) := by decide +kernel
theorem d_Clb_withdrawStamps_45 : decode b_Clb_withdrawStamps 45 = .ok (.iload_n 2, 1) := by decide +kernel
theorem d_Clb_withdrawStamps_46 : decode b_Clb_withdrawStamps 46 = .ok (.if_icmp .ge 6, 3) := by decide +kernel
theorem d_Clb_withdrawStamps_49 : decode b_Clb_withdrawStamps 49 = .ok (.bipush (-2), 2) := by decide +kernel
theorem d_Clb_withdrawStamps_51 : decode b_Clb_withdrawStamps 51 = .ok (.ireturn, 1) := by decide +kernel
theorem d_Clb_withdrawStamps_52 : decode b_Clb_withdrawStamps 52 = .ok (.iload_n 2, 1) := by decide +kernel
theorem d_Clb_withdrawStamps_53 : decode b_Clb_withdrawStamps 53 = .ok (.bipush 10, 2) := by decide +kernel
theorem d_Clb_withdrawStamps_55 : decode b_Clb_withdrawStamps 55 = .ok (.imul, 1) := by decide +kernel
theorem d_Clb_withdrawStamps_56 : decode b_Clb_withdrawStamps 56 = .ok (.istore_n 3, 1) := by decide +kernel
theorem d_Clb_withdrawStamps_57 : decode b_Clb_withdrawStamps 57 = .ok (.iload_n 2, 1) := by decide +kernel
theorem d_Clb_withdrawStamps_58 : decode b_Clb_withdrawStamps 58 = .ok (.iconst 5, 1) := by decide +kernel
theorem d_Clb_withdrawStamps_59 : decode b_Clb_withdrawStamps 59 = .ok (.iadd, 1) := by decide +kernel
theorem d_Clb_withdrawStamps_60 : decode b_Clb_withdrawStamps 60 = .ok (.iload_n 3, 1) := by decide +kernel
theorem d_Clb_withdrawStamps_61 : decode b_Clb_withdrawStamps 61 = .ok (.invokestatic 85, 3) := by decide +kernel
theorem d_Clb_withdrawStamps_64 : decode b_Clb_withdrawStamps 64 = .ok (.istore 4, 2) := by decide +kernel
theorem d_Clb_withdrawStamps_66 : decode b_Clb_withdrawStamps 66 = .ok (.aload_n 0, 1) := by decide +kernel
theorem d_Clb_withdrawStamps_67 : decode b_Clb_withdrawStamps 67 = .ok (.getfield 12, 3) := by decide +kernel
theorem d_Clb_withdrawStamps_70 : decode b_Clb_withdrawStamps 70 = .ok (.getfield 78, 3) := by decide +kernel
theorem d_Clb_withdrawStamps_73 : decode b_Clb_withdrawStamps 73 = .ok (.iload_n 1, 1) := by decide +kernel
theorem d_Clb_withdrawStamps_74 : decode b_Clb_withdrawStamps 74 = .ok (.dup2, 1) := by decide +kernel
theorem d_Clb_withdrawStamps_75 : decode b_Clb_withdrawStamps 75 = .ok (.iaload, 1) := by decide +kernel
theorem d_Clb_withdrawStamps_76 : decode b_Clb_withdrawStamps 76 = .ok (.iload_n 2, 1) := by decide +kernel
theorem d_Clb_withdrawStamps_77 : decode b_Clb_withdrawStamps 77 = .ok (.isub, 1) := by decide +kernel
theorem d_Clb_withdrawStamps_78 : decode b_Clb_withdrawStamps 78 = .ok (.iastore, 1) := by decide +kernel
theorem d_Clb_withdrawStamps_79 : decode b_Clb_withdrawStamps 79 = .ok (.aload_n 0, 1) := by decide +kernel
theorem d_Clb_withdrawStamps_80 : decode b_Clb_withdrawStamps 80 = .ok (.getfield 12, 3) := by decide +kernel
theorem d_Clb_withdrawStamps_83 : decode b_Clb_withdrawStamps 83 = .ok (.getfield 91, 3) := by decide +kernel
theorem d_Clb_withdrawStamps_86 : decode b_Clb_withdrawStamps 86 = .ok (.iload_n 1, 1) := by decide +kernel
theorem d_Clb_withdrawStamps_87 : decode b_Clb_withdrawStamps 87 = .ok (.iconst 1, 1) := by decide +kernel
theorem d_Clb_withdrawStamps_88 : decode b_Clb_withdrawStamps 88 = .ok (.iastore, 1) := by decide +kernel
theorem d_Clb_withdrawStamps_89 : decode b_Clb_withdrawStamps 89 = .ok (.aload_n 0, 1) := by decide +kernel
theorem d_Clb_withdrawStamps_90 : decode b_Clb_withdrawStamps 90 = .ok (.getfield 28, 3) := by decide +kernel
theorem d_Clb_withdrawStamps_93 : decode b_Clb_withdrawStamps 93 = .ok (.dup, 1) := by decide +kernel
theorem d_Clb_withdrawStamps_94 : decode b_Clb_withdrawStamps 94 = .ok (.getfield 94, 3) := by decide +kernel
theorem d_Clb_withdrawStamps_97 : decode b_Clb_withdrawStamps 97 = .ok (.iload 4, 2) := by decide +kernel
theorem d_Clb_withdrawStamps_99 : decode b_Clb_withdrawStamps 99 = .ok (.iadd, 1) := by decide +kernel
theorem d_Clb_withdrawStamps_100 : decode b_Clb_withdrawStamps 100 = .ok (.putfield 94, 3) := by decide +kernel
theorem d_Clb_withdrawStamps_103 : decode b_Clb_withdrawStamps 103 = .ok (.aload_n 0, 1) := by decide +kernel
theorem d_Clb_withdrawStamps_104 : decode b_Clb_withdrawStamps 104 = .ok (.iload_n 1, 1) := by decide +kernel
theorem d_Clb_withdrawStamps_105 : decode b_Clb_withdrawStamps 105 = .ok (.iload_n 3, 1) := by decide +kernel
theorem d_Clb_withdrawStamps_106 : decode b_Clb_withdrawStamps 106 = .ok (.iload 4, 2) := by decide +kernel
theorem d_Clb_withdrawStamps_108 : decode b_Clb_withdrawStamps 108 = .ok (.isub, 1) := by decide +kernel
theorem d_Clb_withdrawStamps_109 : decode b_Clb_withdrawStamps 109 = .ok (.invokevirtual 97, 3) := by decide +kernel
theorem d_Clb_withdrawStamps_112 : decode b_Clb_withdrawStamps 112 = .ok (.iload_n 3, 1) := by decide +kernel
theorem d_Clb_withdrawStamps_113 : decode b_Clb_withdrawStamps 113 = .ok (.iload 4, 2) := by decide +kernel
theorem d_Clb_withdrawStamps_115 : decode b_Clb_withdrawStamps 115 = .ok (.isub, 1) := by decide +kernel
theorem d_Clb_withdrawStamps_116 : decode b_Clb_withdrawStamps 116 = .ok (.ireturn, 1) := by decide +kernel
theorem d_Clb_mislayCard_0 : decode b_Clb_mislayCard 0 = .ok (.aload_n 0, 1) := by decide +kernel
theorem d_Clb_mislayCard_1 : decode b_Clb_mislayCard 1 = .ok (.getfield 12, 3) := by decide +kernel
theorem d_Clb_mislayCard_4 : decode b_Clb_mislayCard 4 = .ok (.iload_n 1, 1) := by decide +kernel
theorem d_Clb_mislayCard_5 : decode b_Clb_mislayCard 5 = .ok (.invokevirtual 63, 3) := by decide +kernel
theorem d_Clb_mislayCard_8 : decode b_Clb_mislayCard 8 = .ok (.ifCond .ne 5, 3) := by decide +kernel
theorem d_Clb_mislayCard_11 : decode b_Clb_mislayCard 11 = .ok (.iconst (-1), 1) := by decide +kernel
theorem d_Clb_mislayCard_12 : decode b_Clb_mislayCard 12 = .ok (.ireturn, 1) := by decide +kernel
theorem d_Clb_mislayCard_13 : decode b_Clb_mislayCard 13 = .ok (.aload_n 0, 1) := by decide +kernel
theorem d_Clb_mislayCard_14 : decode b_Clb_mislayCard 14 = .ok (.getfield 12, 3) := by decide +kernel
theorem d_Clb_mislayCard_17 : decode b_Clb_mislayCard 17 = .ok (.iload_n 1, 1) := by decide +kernel
theorem d_Clb_mislayCard_18 : decode b_Clb_mislayCard 18 = .ok (.invokevirtual 67, 3) := by decide +kernel
theorem d_Clb_mislayCard_21 : decode b_Clb_mislayCard 21 = .ok (.ifCond .ne 6, 3) := by decide +kernel
theorem d_Clb_mislayCard_24 : decode b_Clb_mislayCard 24 = .ok (.bipush (-2), 2) := by decide +kernel
theorem d_Clb_mislayCard_26 : decode b_Clb_mislayCard 26 = .ok (.ireturn, 1) := by decide +kernel
theorem d_Clb_mislayCard_27 : decode b_Clb_mislayCard 27 = .ok (.aload_n 0, 1) := by decide +kernel
theorem d_Clb_mislayCard_28 : decode b_Clb_mislayCard 28 = .ok (.getfield 12, 3) := by decide +kernel
theorem d_Clb_mislayCard_31 : decode b_Clb_mislayCard 31 = .ok (.getfield 100, 3) := by decide +kernel
theorem d_Clb_mislayCard_34 : decode b_Clb_mislayCard 34 = .ok (.iload_n 1, 1) := by decide +kernel
theorem d_Clb_mislayCard_35 : decode b_Clb_mislayCard 35 = .ok (.iconst 1, 1) := by decide +kernel
theorem d_Clb_mislayCard_36 : decode b_Clb_mislayCard 36 = .ok (.iastore, 1) := by decide +kernel
theorem d_Clb_mislayCard_37 : decode b_Clb_mislayCard 37 = .ok (.aload_n 0, 1) := by decide +kernel
theorem d_Clb_mislayCard_38 : decode b_Clb_mislayCard 38 = .ok (.getfield 12, 3) := by decide +kernel
theorem d_Clb_mislayCard_41 : decode b_Clb_mislayCard 41 = .ok (.getfield 103, 3) := by decide +kernel
theorem d_Clb_mislayCard_44 : decode b_Clb_mislayCard 44 = .ok (.iload_n 1, 1) := by decide +kernel
theorem d_Clb_mislayCard_45 : decode b_Clb_mislayCard 45 = .ok (.aload_n 0, 1) := by decide +kernel
theorem d_Clb_mislayCard_46 : decode b_Clb_mislayCard 46 = .ok (.getfield 32, 3) := by decide +kernel
theorem d_Clb_mislayCard_49 : decode b_Clb_mislayCard 49 = .ok (.iastore, 1) := by decide +kernel
theorem d_Clb_mislayCard_50 : decode b_Clb_mislayCard 50 = .ok (.aload_n 0, 1) := by decide +kernel
theorem d_Clb_mislayCard_51 : decode b_Clb_mislayCard 51 = .ok (.getfield 32, 3) := by decide +kernel
theorem d_Clb_mislayCard_54 : decode b_Clb_mislayCard 54 = .ok (.iconst 3, 1) := by decide +kernel
theorem d_Clb_mislayCard_55 : decode b_Clb_mislayCard 55 = .ok (.iadd, 1) := by decide +kernel
theorem d_Clb_mislayCard_56 : decode b_Clb_mislayCard 56 = .ok (.ireturn, 1) := by decide +kernel
theorem d_Clb_findCard_0 : decode b_Clb_findCard 0 = .ok (.aload_n 0, 1) := by decide +kernel
theorem d_Clb_findCard_1 : decode b_Clb_findCard 1 = .ok (.getfield 12, 3) := by decide +kernel
theorem d_Clb_findCard_4 : decode b_Clb_findCard 4 = .ok (.iload_n 1, 1) := by decide +kernel
theorem d_Clb_findCard_5 : decode b_Clb_findCard 5 = .ok (.invokevirtual 63, 3) := by decide +kernel
theorem d_Clb_findCard_8 : decode b_Clb_findCard 8 = .ok (.ifCond .ne 5, 3) := by decide +kernel
theorem d_Clb_findCard_11 : decode b_Clb_findCard 11 = .ok (.iconst (-1), 1) := by decide +kernel
theorem d_Clb_findCard_12 : decode b_Clb_findCard 12 = .ok (.ireturn, 1) := by decide +kernel
theorem d_Clb_findCard_13 : decode b_Clb_findCard 13 = .ok (.aload_n 0, 1) := by decide +kernel
theorem d_Clb_findCard_14 : decode b_Clb_findCard 14 = .ok (.getfield 12, 3) := by decide +kernel
theorem d_Clb_findCard_17 : decode b_Clb_findCard 17 = .ok (.getfield 100, 3) := by decide +kernel
theorem d_Clb_findCard_20 : decode b_Clb_findCard 20 = .ok (.iload_n 1, 1) := by decide +kernel
theorem d_Clb_findCard_21 : decode b_Clb_findCard 21 = .ok (.iaload, 1) := by decide +kernel
theorem d_Clb_findCard_22 : decode b_Clb_findCard 22 = .ok (.iconst 1, 1) := by decide +kernel
theorem d_Clb_findCard_23 : decode b_Clb_findCard 23 = .ok (.if_icmp .eq 6, 3) := by decide +kernel
theorem d_Clb_findCard_26 : decode b_Clb_findCard 26 = .ok (.bipush (-2), 2) := by decide +kernel
theorem d_Clb_findCard_28 : decode b_Clb_findCard 28 = .ok (.ireturn, 1) := by decide +kernel
theorem d_Clb_findCard_29 : decode b_Clb_findCard 29 = .ok (.aload_n 0, 1) := by decide +kernel
theorem d_Clb_findCard_30 : decode b_Clb_findCard 30 = .ok (.getfield 12, 3) := by decide +kernel
theorem d_Clb_findCard_33 : decode b_Clb_findCard 33 = .ok (.getfield 100, 3) := by decide +kernel
theorem d_Clb_findCard_36 : decode b_Clb_findCard 36 = .ok (.iload_n 1, 1) := by decide +kernel
theorem d_Clb_findCard_37 : decode b_Clb_findCard 37 = .ok (.iconst 0, 1) := by decide +kernel
theorem d_Clb_findCard_38 : decode b_Clb_findCard 38 = .ok (.iastore, 1) := by decide +kernel
theorem d_Clb_findCard_39 : decode b_Clb_findCard 39 = .ok (.aload_n 0, 1) := by decide +kernel
theorem d_Clb_findCard_40 : decode b_Clb_findCard 40 = .ok (.getfield 32, 3) := by decide +kernel
theorem d_Clb_findCard_43 : decode b_Clb_findCard 43 = .ok (.aload_n 0, 1) := by decide +kernel
theorem d_Clb_findCard_44 : decode b_Clb_findCard 44 = .ok (.getfield 12, 3) := by decide +kernel
theorem d_Clb_findCard_47 : decode b_Clb_findCard 47 = .ok (.getfield 103, 3) := by decide +kernel
theorem d_Clb_findCard_50 : decode b_Clb_findCard 50 = .ok (.iload_n 1, 1) := by decide +kernel
theorem d_Clb_findCard_51 : decode b_Clb_findCard 51 = .ok (.iaload, 1) := by decide +kernel
theorem d_Clb_findCard_52 : decode b_Clb_findCard 52 = .ok (.isub, 1) := by decide +kernel
theorem d_Clb_findCard_53 : decode b_Clb_findCard 53 = .ok (.ireturn, 1) := by decide +kernel
theorem d_Clb_changeKind_0 : decode b_Clb_changeKind 0 = .ok (.iload_n 2, 1) := by decide +kernel
theorem d_Clb_changeKind_1 : decode b_Clb_changeKind 1 = .ok (.iconst 1, 1) := by decide +kernel
theorem d_Clb_changeKind_2 : decode b_Clb_changeKind 2 = .ok (.if_icmp .lt 14, 3) := by decide +kernel
theorem d_Clb_changeKind_5 : decode b_Clb_changeKind 5 = .ok (.iload_n 2, 1) := by decide +kernel
theorem d_Clb_changeKind_6 : decode b_Clb_changeKind 6 = .ok (.sipush 200, 3) := by decide +kernel
theorem d_Clb_changeKind_9 : decode b_Clb_changeKind 9 = .ok (.if_icmp .gt 7, 3) := by decide +kernel
theorem d_Clb_changeKind_12 : decode b_Clb_changeKind 12 = .ok (.iconst 1, 1) := by decide +kernel
theorem d_Clb_changeKind_13 : decode b_Clb_changeKind 13 = .ok (.goto 4, 3) := by decide +kernel
theorem d_Clb_changeKind_16 : decode b_Clb_changeKind 16 = .ok (.iconst 0, 1) := by decide +kernel
theorem d_Clb_changeKind_17 : decode b_Clb_changeKind 17 = .ok (.istore 4, 2) := by decide +kernel
theorem d_Clb_changeKind_19 : decode b_Clb_changeKind 19 = .ok (.iload_n 3, 1) := by decide +kernel
theorem d_Clb_changeKind_20 : decode b_Clb_changeKind 20 = .ok (.ifCond .lt 13, 3) := by decide +kernel
theorem d_Clb_changeKind_23 : decode b_Clb_changeKind 23 = .ok (.iload_n 3, 1) := by decide +kernel
theorem d_Clb_changeKind_24 : decode b_Clb_changeKind 24 = .ok (.bipush 9, 2) := by decide +kernel
theorem d_Clb_changeKind_26 : decode b_Clb_changeKind 26 = .ok (.if_icmp .gt 7, 3) := by decide +kernel
theorem d_Clb_changeKind_29 : decode b_Clb_changeKind 29 = .ok (.iconst 1, 1) := by decide +kernel
theorem d_Clb_changeKind_30 : decode b_Clb_changeKind 30 = .ok (.goto 4, 3) := by decide +kernel
theorem d_Clb_changeKind_33 : decode b_Clb_changeKind 33 = .ok (.iconst 0, 1) := by decide +kernel
theorem d_Clb_changeKind_34 : decode b_Clb_changeKind 34 = .ok (.istore 5, 2) := by decide +kernel
theorem d_Clb_changeKind_36 : decode b_Clb_changeKind 36 = .ok (.iload_n 1, 1) := by decide +kernel
theorem d_Clb_changeKind_37 : decode b_Clb_changeKind 37 = .ok (.invokestatic 106, 3) := by decide +kernel
theorem d_Clb_changeKind_40 : decode b_Clb_changeKind 40 = .ok (.ifCond .eq 13, 3) := by decide +kernel
theorem d_Clb_changeKind_43 : decode b_Clb_changeKind 43 = .ok (.iload 4, 2) := by decide +kernel
theorem d_Clb_changeKind_45 : decode b_Clb_changeKind 45 = .ok (.ifCond .eq 8, 3) := by decide +kernel
theorem d_Clb_changeKind_48 : decode b_Clb_changeKind 48 = .ok (.iload 5, 2) := by decide +kernel
theorem d_Clb_changeKind_50 : decode b_Clb_changeKind 50 = .ok (.ifCond .ne 5, 3) := by decide +kernel
theorem d_Clb_changeKind_53 : decode b_Clb_changeKind 53 = .ok (.iconst (-1), 1) := by decide +kernel
theorem d_Clb_changeKind_54 : decode b_Clb_changeKind 54 = .ok (.ireturn, 1) := by decide +kernel
theorem d_Clb_changeKind_55 : decode b_Clb_changeKind 55 = .ok (.aload_n 0, 1) := by decide +kernel
theorem d_Clb_changeKind_56 : decode b_Clb_changeKind 56 = .ok (.getfield 36, 3) := by decide +kernel
theorem d_Clb_changeKind_59 : decode b_Clb_changeKind 59 = .ok (.ifCond .eq 6, 3) := by decide +kernel
theorem d_Clb_changeKind_62 : decode b_Clb_changeKind 62 = .ok (.bipush (-2), 2) := by decide +kernel
theorem d_Clb_changeKind_64 : decode b_Clb_changeKind 64 = .ok (.ireturn, 1) := by decide +kernel
theorem d_Clb_changeKind_65 : decode b_Clb_changeKind 65 = .ok (.aload_n 0, 1) := by decide +kernel
theorem d_Clb_changeKind_66 : decode b_Clb_changeKind 66 = .ok (.getfield 21, 3) := by decide +kernel
theorem d_Clb_changeKind_69 : decode b_Clb_changeKind 69 = .ok (.getfield 109, 3) := by decide +kernel
theorem d_Clb_changeKind_72 : decode b_Clb_changeKind 72 = .ok (.iload_n 1, 1) := by decide +kernel
theorem d_Clb_changeKind_73 : decode b_Clb_changeKind 73 = .ok (.iaload, 1) := by decide +kernel
theorem d_Clb_changeKind_74 : decode b_Clb_changeKind 74 = .ok (.istore 6, 2) := by decide +kernel
theorem d_Clb_changeKind_76 : decode b_Clb_changeKind 76 = .ok (.aload_n 0, 1) := by decide +kernel
theorem d_Clb_changeKind_77 : decode b_Clb_changeKind 77 = .ok (.getfield 21, 3) := by decide +kernel
theorem d_Clb_changeKind_80 : decode b_Clb_changeKind 80 = .ok (.getfield 109, 3) := by decide +kernel
theorem d_Clb_changeKind_83 : decode b_Clb_changeKind 83 = .ok (.iload_n 1, 1) := by decide +kernel
theorem d_Clb_changeKind_84 : decode b_Clb_changeKind 84 = .ok (.iload_n 2, 1) := by decide +kernel
theorem d_Clb_changeKind_85 : decode b_Clb_changeKind 85 = .ok (.iastore, 1) := by decide +kernel
theorem d_Clb_changeKind_86 : decode b_Clb_changeKind 86 = .ok (.aload_n 0, 1) := by decide +kernel
theorem d_Clb_changeKind_87 : decode b_Clb_changeKind 87 = .ok (.getfield 21, 3) := by decide +kernel
theorem d_Clb_changeKind_90 : decode b_Clb_changeKind 90 = .ok (.getfield 112, 3) := by decide +kernel
theorem d_Clb_changeKind_93 : decode b_Clb_changeKind 93 = .ok (.iload_n 1, 1) := by decide +kernel
theorem d_Clb_changeKind_94 : decode b_Clb_changeKind 94 = .ok (.iload_n 3, 1) := by decide +kernel
theorem d_Clb_changeKind_95 : decode b_Clb_changeKind 95 = .ok (.iastore, 1) := by decide +kernel
theorem d_Clb_changeKind_96 : decode b_Clb_changeKind 96 = .ok (.iload 6, 2) := by decide +kernel
theorem d_Clb_changeKind_98 : decode b_Clb_changeKind 98 = .ok (.ireturn, 1) := by decide +kernel
theorem d_Clb_chooseKind_0 : decode b_Clb_chooseKind 0 = .ok (.aload_n 0, 1) := by decide +kernel
theorem d_Clb_chooseKind_1 : decode b_Clb_chooseKind 1 = .ok (.getfield 12, 3) := by decide +kernel
theorem d_Clb_chooseKind_4 : decode b_Clb_chooseKind 4 = .ok (.iload_n 1, 1) := by decide +kernel
theorem d_Clb_chooseKind_5 : decode b_Clb_chooseKind 5 = .ok (.invokevirtual 63, 3) := by decide +kernel
theorem d_Clb_chooseKind_8 : decode b_Clb_chooseKind 8 = .ok (.ifCond .eq 10, 3) := by decide +kernel
theorem d_Clb_chooseKind_11 : decode b_Clb_chooseKind 11 = .ok (.iload_n 2, 1) := by decide +kernel
theorem d_Clb_chooseKind_12 : decode b_Clb_chooseKind 12 = .ok (.invokestatic 106, 3) := by decide +kernel
theorem d_Clb_chooseKind_15 : decode b_Clb_chooseKind 15 = .ok (.ifCond .ne 5, 3) := by decide +kernel
theorem d_Clb_chooseKind_18 : decode b_Clb_chooseKind 18 = .ok (.iconst (-1), 1) := by decide +kernel
theorem d_Clb_chooseKind_19 : decode b_Clb_chooseKind 19 = .ok (.ireturn, 1) := by decide +kernel
theorem d_Clb_chooseKind_20 : decode b_Clb_chooseKind 20 = .ok (.aload_n 0, 1) := by decide +kernel
theorem d_Clb_chooseKind_21 : decode b_Clb_chooseKind 21 = .ok (.getfield 21, 3) := by decide +kernel
theorem d_Clb_chooseKind_24 : decode b_Clb_chooseKind 24 = .ok (.getfield 115, 3) := by decide +kernel
theorem d_Clb_chooseKind_27 : decode b_Clb_chooseKind 27 = .ok (.iload_n 1, 1) := by decide +kernel
theorem d_Clb_chooseKind_28 : decode b_Clb_chooseKind 28 = .ok (.iaload, 1) := by decide +kernel
theorem d_Clb_chooseKind_29 : decode b_Clb_chooseKind 29 = .ok (.istore_n 3, 1) := by decide +kernel
theorem d_Clb_chooseKind_30 : decode b_Clb_chooseKind 30 = .ok (.aload_n 0, 1) := by decide +kernel
theorem d_Clb_chooseKind_31 : decode b_Clb_chooseKind 31 = .ok (.getfield 36, 3) := by decide +kernel
theorem d_Clb_chooseKind_34 : decode b_Clb_chooseKind 34 = .ok (.ifCond .ne 8, 3) := by decide +kernel
theorem d_Clb_chooseKind_37 : decode b_Clb_chooseKind 37 = .ok (.iload_n 3, 1) := by decide +kernel
theorem d_Clb_chooseKind_38 : decode b_Clb_chooseKind 38 = .ok (.iload_n 2, 1) := by decide +kernel
theorem d_Clb_chooseKind_39 : decode b_Clb_chooseKind 39 = .ok (.if_icmp .ne 6, 3) := by decide +kernel
theorem d_Clb_chooseKind_42 : decode b_Clb_chooseKind 42 = .ok (.bipush (-2), 2) := by decide +kernel
theorem d_Clb_chooseKind_44 : decode b_Clb_chooseKind 44 = .ok (.ireturn, 1) := by decide +kernel
theorem d_Clb_chooseKind_45 : decode b_Clb_chooseKind 45 = .ok (.iload_n 3, 1) := by decide +kernel
theorem d_Clb_chooseKind_46 : decode b_Clb_chooseKind 46 = .ok (.invokestatic 106, 3) := by decide +kernel
theorem d_Clb_chooseKind_49 : decode b_Clb_chooseKind 49 = .ok (.ifCond .eq 13, 3) := by decide +kernel
theorem d_Clb_chooseKind_52 : decode b_Clb_chooseKind 52 = .ok (.aload_n 0, 1) := by decide +kernel
theorem d_Clb_chooseKind_53 : decode b_Clb_chooseKind 53 = .ok (.getfield 21, 3) := by decide +kernel
theorem d_Clb_chooseKind_56 : decode b_Clb_chooseKind 56 = .ok (.iload_n 1, 1) := by decide +kernel
theorem d_Clb_chooseKind_57 : decode b_Clb_chooseKind 57 = .ok (.iload_n 3, 1) := by decide +kernel
theorem d_Clb_chooseKind_58 : decode b_Clb_chooseKind 58 = .ok (.invokevirtual 118, 3) := by decide +kernel
theorem d_Clb_chooseKind_61 : decode b_Clb_chooseKind 61 = .ok (.pop, 1) := by decide +kernel
theorem d_Clb_chooseKind_62 : decode b_Clb_chooseKind 62 = .ok (.aload_n 0, 1) := by decide +kernel
theorem d_Clb_chooseKind_63 : decode b_Clb_chooseKind 63 = .ok (.getfield 21, 3) := by decide +kernel
theorem d_Clb_chooseKind_66 : decode b_Clb_chooseKind 66 = .ok (.iload_n 1, 1) := by decide +kernel
theorem d_Clb_chooseKind_67 : decode b_Clb_chooseKind 67 = .ok (.iload_n 2, 1) := by decide +kernel
theorem d_Clb_chooseKind_68 : decode b_Clb_chooseKind 68 = .ok (.invokevirtual 121, 3) := by decide +kernel
theorem d_Clb_chooseKind_71 : decode b_Clb_chooseKind 71 = .ok (.ireturn, 1) := by decide +kernel
theorem d_Clb_giveUpChoice_0 : decode b_Clb_giveUpChoice 0 = .ok (.aload_n 0, 1) := by decide +kernel
theorem d_Clb_giveUpChoice_1 : decode b_Clb_giveUpChoice 1 = .ok (.getfield 12, 3) := by decide +kernel
theorem d_Clb_giveUpChoice_4 : decode b_Clb_giveUpChoice 4 = .ok (.iload_n 1, 1) := by decide +kernel
theorem d_Clb_giveUpChoice_5 : decode b_Clb_giveUpChoice 5 = .ok (.invokevirtual 63, 3) := by decide +kernel
theorem d_Clb_giveUpChoice_8 : decode b_Clb_giveUpChoice 8 = .ok (.ifCond .ne 5, 3) := by decide +kernel
theorem d_Clb_giveUpChoice_11 : decode b_Clb_giveUpChoice 11 = .ok (.iconst (-1), 1) := by decide +kernel
theorem d_Clb_giveUpChoice_12 : decode b_Clb_giveUpChoice 12 = .ok (.ireturn, 1) := by decide +kernel
theorem d_Clb_giveUpChoice_13 : decode b_Clb_giveUpChoice 13 = .ok (.aload_n 0, 1) := by decide +kernel
theorem d_Clb_giveUpChoice_14 : decode b_Clb_giveUpChoice 14 = .ok (.getfield 21, 3) := by decide +kernel
theorem d_Clb_giveUpChoice_17 : decode b_Clb_giveUpChoice 17 = .ok (.getfield 115, 3) := by decide +kernel
theorem d_Clb_giveUpChoice_20 : decode b_Clb_giveUpChoice 20 = .ok (.iload_n 1, 1) := by decide +kernel
theorem d_Clb_giveUpChoice_21 : decode b_Clb_giveUpChoice 21 = .ok (.iaload, 1) := by decide +kernel
theorem d_Clb_giveUpChoice_22 : decode b_Clb_giveUpChoice 22 = .ok (.istore_n 2, 1) := by decide +kernel
theorem d_Clb_giveUpChoice_23 : decode b_Clb_giveUpChoice 23 = .ok (.iload_n 2, 1) := by decide +kernel
theorem d_Clb_giveUpChoice_24 : decode b_Clb_giveUpChoice 24 = .ok (.invokestatic 106, 3) := by decide +kernel
theorem d_Clb_giveUpChoice_27 : decode b_Clb_giveUpChoice 27 = .ok (.ifCond .ne 6, 3) := by decide +kernel
theorem d_Clb_giveUpChoice_30 : decode b_Clb_giveUpChoice 30 = .ok (.bipush (-2), 2) := by decide +kernel
theorem d_Clb_giveUpChoice_32 : decode b_Clb_giveUpChoice 32 = .ok (.ireturn, 1) := by decide +kernel
theorem d_Clb_giveUpChoice_33 : decode b_Clb_giveUpChoice 33 = .ok (.aload_n 0, 1) := by decide +kernel
theorem d_Clb_giveUpChoice_34 : decode b_Clb_giveUpChoice 34 = .ok (.getfield 21, 3) := by decide +kernel
theorem d_Clb_giveUpChoice_37 : decode b_Clb_giveUpChoice 37 = .ok (.iload_n 1, 1) := by decide +kernel
theorem d_Clb_giveUpChoice_38 : decode b_Clb_giveUpChoice 38 = .ok (.iload_n 2, 1) := by decide +kernel
theorem d_Clb_giveUpChoice_39 : decode b_Clb_giveUpChoice 39 = .ok (.invokevirtual 118, 3) := by decide +kernel
theorem d_Clb_giveUpChoice_42 : decode b_Clb_giveUpChoice 42 = .ok (.pop, 1) := by decide +kernel
theorem d_Clb_giveUpChoice_43 : decode b_Clb_giveUpChoice 43 = .ok (.iload_n 2, 1) := by decide +kernel
theorem d_Clb_giveUpChoice_44 : decode b_Clb_giveUpChoice 44 = .ok (.ireturn, 1) := by decide +kernel
theorem d_Clb_passWeek_0 : decode b_Clb_passWeek 0 = .ok (.aload_n 0, 1) := by decide +kernel
theorem d_Clb_passWeek_1 : decode b_Clb_passWeek 1 = .ok (.getfield 36, 3) := by decide +kernel
theorem d_Clb_passWeek_4 : decode b_Clb_passWeek 4 = .ok (.ifCond .eq 6, 3) := by decide +kernel
theorem d_Clb_passWeek_7 : decode b_Clb_passWeek 7 = .ok (.bipush (-2), 2) := by decide +kernel
theorem d_Clb_passWeek_9 : decode b_Clb_passWeek 9 = .ok (.ireturn, 1) := by decide +kernel
theorem d_Clb_passWeek_10 : decode b_Clb_passWeek 10 = .ok (.aload_n 0, 1) := by decide +kernel
theorem d_Clb_passWeek_11 : decode b_Clb_passWeek 11 = .ok (.getfield 32, 3) := by decide +kernel
theorem d_Clb_passWeek_14 : decode b_Clb_passWeek 14 = .ok (.bipush 60, 2) := by decide +kernel
theorem d_Clb_passWeek_16 : decode b_Clb_passWeek 16 = .ok (.if_icmp .lt 6, 3) := by decide +kernel
theorem d_Clb_passWeek_19 : decode b_Clb_passWeek 19 = .ok (.bipush (-3), 2) := by decide +kernel
theorem d_Clb_passWeek_21 : decode b_Clb_passWeek 21 = .ok (.ireturn, 1) := by decide +kernel
theorem d_Clb_passWeek_22 : decode b_Clb_passWeek 22 = .ok (.aload_n 0, 1) := by decide +kernel
theorem d_Clb_passWeek_23 : decode b_Clb_passWeek 23 = .ok (.dup, 1) := by decide +kernel
theorem d_Clb_passWeek_24 : decode b_Clb_passWeek 24 = .ok (.getfield 32, 3) := by decide +kernel
theorem d_Clb_passWeek_27 : decode b_Clb_passWeek 27 = .ok (.iconst 1, 1) := by decide +kernel
theorem d_Clb_passWeek_28 : decode b_Clb_passWeek 28 = .ok (.iadd, 1) := by decide +kernel
theorem d_Clb_passWeek_29 : decode b_Clb_passWeek 29 = .ok (.putfield 32, 3) := by decide +kernel
theorem d_Clb_passWeek_32 : decode b_Clb_passWeek 32 = .ok (.aload_n 0, 1) := by decide +kernel
theorem d_Clb_passWeek_33 : decode b_Clb_passWeek 33 = .ok (.invokevirtual 124, 3) := by decide +kernel
theorem d_Clb_passWeek_36 : decode b_Clb_passWeek 36 = .ok (.aload_n 0, 1) := by decide +kernel
theorem d_Clb_passWeek_37 : decode b_Clb_passWeek 37 = .ok (.invokevirtual 127, 3) := by decide +kernel
theorem d_Clb_passWeek_40 : decode b_Clb_passWeek 40 = .ok (.istore_n 1, 1) := by decide +kernel
theorem d_Clb_passWeek_41 : decode b_Clb_passWeek 41 = .ok (.aload_n 0, 1) := by decide +kernel
theorem d_Clb_passWeek_42 : decode b_Clb_passWeek 42 = .ok (.dup, 1) := by decide +kernel
theorem d_Clb_passWeek_43 : decode b_Clb_passWeek 43 = .ok (.getfield 43, 3) := by decide +kernel
theorem d_Clb_passWeek_46 : decode b_Clb_passWeek 46 = .ok (.iload_n 1, 1) := by decide +kernel
theorem d_Clb_passWeek_47 : decode b_Clb_passWeek 47 = .ok (.iadd, 1) := by decide +kernel
theorem d_Clb_passWeek_48 : decode b_Clb_passWeek 48 = .ok (.putfield 43, 3) := by decide +kernel
theorem d_Clb_passWeek_51 : decode b_Clb_passWeek 51 = .ok (.iload_n 1, 1) := by decide +kernel
theorem d_Clb_passWeek_52 : decode b_Clb_passWeek 52 = .ok (.ireturn, 1) := by decide +kernel
theorem d_Clb_replaceCards_0 : decode b_Clb_replaceCards 0 = .ok (.iconst 0, 1) := by decide +kernel
theorem d_Clb_replaceCards_1 : decode b_Clb_replaceCards 1 = .ok (.istore_n 1, 1) := by decide +kernel
theorem d_Clb_replaceCards_2 : decode b_Clb_replaceCards 2 = .ok (.iload_n 1, 1) := by decide +kernel
theorem d_Clb_replaceCards_3 : decode b_Clb_replaceCards 3 = .ok (.aload_n 0, 1) := by decide +kernel
theorem d_Clb_replaceCards_4 : decode b_Clb_replaceCards 4 = .ok (.getfield 12, 3) := by decide +kernel
theorem d_Clb_replaceCards_7 : decode b_Clb_replaceCards 7 = .ok (.getfield 56, 3) := by decide +kernel
theorem d_Clb_replaceCards_10 : decode b_Clb_replaceCards 10 = .ok (.if_icmp .ge 102, 3) := by decide +kernel
theorem d_Clb_replaceCards_13 : decode b_Clb_replaceCards 13 = .ok (.aload_n 0, 1) := by decide +kernel
theorem d_Clb_replaceCards_14 : decode b_Clb_replaceCards 14 = .ok (.getfield 12, 3) := by decide +kernel
theorem d_Clb_replaceCards_17 : decode b_Clb_replaceCards 17 = .ok (.getfield 100, 3) := by decide +kernel
theorem d_Clb_replaceCards_20 : decode b_Clb_replaceCards 20 = .ok (.iload_n 1, 1) := by decide +kernel
theorem d_Clb_replaceCards_21 : decode b_Clb_replaceCards 21 = .ok (.iaload, 1) := by decide +kernel
theorem d_Clb_replaceCards_22 : decode b_Clb_replaceCards 22 = .ok (.iconst 1, 1) := by decide +kernel
theorem d_Clb_replaceCards_23 : decode b_Clb_replaceCards 23 = .ok (.if_icmp .ne 7, 3) := by decide +kernel
theorem d_Clb_replaceCards_26 : decode b_Clb_replaceCards 26 = .ok (.iconst 1, 1) := by decide +kernel
theorem d_Clb_replaceCards_27 : decode b_Clb_replaceCards 27 = .ok (.goto 4, 3) := by decide +kernel
theorem d_Clb_replaceCards_30 : decode b_Clb_replaceCards 30 = .ok (.iconst 0, 1) := by decide +kernel
theorem d_Clb_replaceCards_31 : decode b_Clb_replaceCards 31 = .ok (.istore_n 2, 1) := by decide +kernel
theorem d_Clb_replaceCards_32 : decode b_Clb_replaceCards 32 = .ok (.iload_n 2, 1) := by decide +kernel
theorem d_Clb_replaceCards_33 : decode b_Clb_replaceCards 33 = .ok (.ifCond .eq 73, 3) := by decide +kernel
theorem d_Clb_replaceCards_36 : decode b_Clb_replaceCards 36 = .ok (.aload_n 0, 1) := by decide +kernel
theorem d_Clb_replaceCards_37 : decode b_Clb_replaceCards 37 = .ok (.getfield 32, 3) := by decide +kernel
theorem d_Clb_replaceCards_40 : decode b_Clb_replaceCards 40 = .ok (.aload_n 0, 1) := by decide +kernel
theorem d_Clb_replaceCards_41 : decode b_Clb_replaceCards 41 = .ok (.getfield 12, 3) := by decide +kernel
theorem d_Clb_replaceCards_44 : decode b_Clb_replaceCards 44 = .ok (.getfield 103, 3) := by decide +kernel
theorem d_Clb_replaceCards_47 : decode b_Clb_replaceCards 47 = .ok (.iload_n 1, 1) := by decide +kernel
theorem d_Clb_replaceCards_48 : decode b_Clb_replaceCards 48 = .ok (.iaload, 1) := by decide +kernel
theorem d_Clb_replaceCards_49 : decode b_Clb_replaceCards 49 = .ok (.isub, 1) := by decide +kernel
theorem d_Clb_replaceCards_50 : decode b_Clb_replaceCards 50 = .ok (.iconst 3, 1) := by decide +kernel
theorem d_Clb_replaceCards_51 : decode b_Clb_replaceCards 51 = .ok (.if_icmp .lt 55, 3) := by decide +kernel
theorem d_Clb_replaceCards_54 : decode b_Clb_replaceCards 54 = .ok (.aload_n 0, 1) := by decide +kernel
theorem d_Clb_replaceCards_55 : decode b_Clb_replaceCards 55 = .ok (.getfield 12, 3) := by decide +kernel
theorem d_Clb_replaceCards_58 : decode b_Clb_replaceCards 58 = .ok (.getfield 78, 3) := by decide +kernel
theorem d_Clb_replaceCards_61 : decode b_Clb_replaceCards 61 = .ok (.iload_n 1, 1) := by decide +kernel
theorem d_Clb_replaceCards_62 : decode b_Clb_replaceCards 62 = .ok (.iaload, 1) := by decide +kernel
theorem d_Clb_replaceCards_63 : decode b_Clb_replaceCards 63 = .ok (.bipush 10, 2) := by decide +kernel
theorem d_Clb_replaceCards_65 : decode b_Clb_replaceCards 65 = .ok (.idiv, 1) := by decide +kernel
theorem d_Clb_replaceCards_66 : decode b_Clb_replaceCards 66 = .ok (.istore_n 3, 1) := by decide +kernel
theorem d_Clb_replaceCards_67 : decode b_Clb_replaceCards 67 = .ok (.aload_n 0, 1) := by decide +kernel
theorem d_Clb_replaceCards_68 : decode b_Clb_replaceCards 68 = .ok (.getfield 12, 3) := by decide +kernel
theorem d_Clb_replaceCards_71 : decode b_Clb_replaceCards 71 = .ok (.getfield 78, 3) := by decide +kernel
theorem d_Clb_replaceCards_74 : decode b_Clb_replaceCards 74 = .ok (.iload_n 1, 1) := by decide +kernel
theorem d_Clb_replaceCards_75 : decode b_Clb_replaceCards 75 = .ok (.dup2, 1) := by decide +kernel
theorem d_Clb_replaceCards_76 : decode b_Clb_replaceCards 76 = .ok (.iaload, 1) := by decide +kernel
theorem d_Clb_replaceCards_77 : decode b_Clb_replaceCards 77 = .ok (.iload_n 3, 1) := by decide +kernel
theorem d_Clb_replaceCards_78 : decode b_Clb_replaceCards 78 = .ok (.isub, 1) := by decide +kernel
theorem d_Clb_replaceCards_79 : decode b_Clb_replaceCards 79 = .ok (.iastore, 1) := by decide +kernel
theorem d_Clb_replaceCards_80 : decode b_Clb_replaceCards 80 = .ok (.aload_n 0, 1) := by decide +kernel
theorem d_Clb_replaceCards_81 : decode b_Clb_replaceCards 81 = .ok (.getfield 28, 3) := by decide +kernel
theorem d_Clb_replaceCards_84 : decode b_Clb_replaceCards 84 = .ok (.dup, 1) := by decide +kernel
theorem d_Clb_replaceCards_85 : decode b_Clb_replaceCards 85 = .ok (.getfield 94, 3) := by decide +kernel
theorem d_Clb_replaceCards_88 : decode b_Clb_replaceCards 88 = .ok (.iload_n 3, 1) := by decide +kernel
theorem d_Clb_replaceCards_89 : decode b_Clb_replaceCards 89 = .ok (.bipush 10, 2) := by decide +kernel
theorem d_Clb_replaceCards_91 : decode b_Clb_replaceCards 91 = .ok (.imul, 1) := by decide +kernel
theorem d_Clb_replaceCards_92 : decode b_Clb_replaceCards 92 = .ok (.iadd, 1) := by decide +kernel
theorem d_Clb_replaceCards_93 : decode b_Clb_replaceCards 93 = .ok (.putfield 94, 3) := by decide +kernel
theorem d_Clb_replaceCards_96 : decode b_Clb_replaceCards 96 = .ok (.aload_n 0, 1) := by decide +kernel
theorem d_Clb_replaceCards_97 : decode b_Clb_replaceCards 97 = .ok (.getfield 12, 3) := by decide +kernel
theorem d_Clb_replaceCards_100 : decode b_Clb_replaceCards 100 = .ok (.getfield 100, 3) := by decide +kernel
theorem d_Clb_replaceCards_103 : decode b_Clb_replaceCards 103 = .ok (.iload_n 1, 1) := by decide +kernel
theorem d_Clb_replaceCards_104 : decode b_Clb_replaceCards 104 = .ok (.iconst 0, 1) := by decide +kernel
theorem d_Clb_replaceCards_105 : decode b_Clb_replaceCards 105 = .ok (.iastore, 1) := by decide +kernel
theorem d_Clb_replaceCards_106 : decode b_Clb_replaceCards 106 = .ok (.iinc 1 1, 3) := by decide +kernel
theorem d_Clb_replaceCards_109 : decode b_Clb_replaceCards 109 = .ok (.goto (-107), 3) := by decide +kernel
theorem d_Clb_replaceCards_112 : decode b_Clb_replaceCards 112 = .ok (.return_, 1) := by decide +kernel
theorem d_Clb_dropLapsed_0 : decode b_Clb_dropLapsed 0 = .ok (.iconst 0, 1) := by decide +kernel
theorem d_Clb_dropLapsed_1 : decode b_Clb_dropLapsed 1 = .ok (.istore_n 1, 1) := by decide +kernel
theorem d_Clb_dropLapsed_2 : decode b_Clb_dropLapsed 2 = .ok (.iconst 0, 1) := by decide +kernel
theorem d_Clb_dropLapsed_3 : decode b_Clb_dropLapsed 3 = .ok (.istore_n 2, 1) := by decide +kernel
theorem d_Clb_dropLapsed_4 : decode b_Clb_dropLapsed 4 = .ok (.iload_n 2, 1) := by decide +kernel
theorem d_Clb_dropLapsed_5 : decode b_Clb_dropLapsed 5 = .ok (.aload_n 0, 1) := by decide +kernel
theorem d_Clb_dropLapsed_6 : decode b_Clb_dropLapsed 6 = .ok (.getfield 12, 3) := by decide +kernel
theorem d_Clb_dropLapsed_9 : decode b_Clb_dropLapsed 9 = .ok (.getfield 56, 3) := by decide +kernel
theorem d_Clb_dropLapsed_12 : decode b_Clb_dropLapsed 12 = .ok (.if_icmp .ge 54, 3) := by decide +kernel
theorem d_Clb_dropLapsed_15 : decode b_Clb_dropLapsed 15 = .ok (.aload_n 0, 1) := by decide +kernel
theorem d_Clb_dropLapsed_16 : decode b_Clb_dropLapsed 16 = .ok (.getfield 21, 3) := by decide +kernel
theorem d_Clb_dropLapsed_19 : decode b_Clb_dropLapsed 19 = .ok (.getfield 115, 3) := by decide +kernel
theorem d_Clb_dropLapsed_22 : decode b_Clb_dropLapsed 22 = .ok (.iload_n 2, 1) := by decide +kernel
theorem d_Clb_dropLapsed_23 : decode b_Clb_dropLapsed 23 = .ok (.iaload, 1) := by decide +kernel
theorem d_Clb_dropLapsed_24 : decode b_Clb_dropLapsed 24 = .ok (.istore_n 3, 1) := by decide +kernel
theorem d_Clb_dropLapsed_25 : decode b_Clb_dropLapsed 25 = .ok (.iload_n 3, 1) := by decide +kernel
theorem d_Clb_dropLapsed_26 : decode b_Clb_dropLapsed 26 = .ok (.invokestatic 106, 3) := by decide +kernel
theorem d_Clb_dropLapsed_29 : decode b_Clb_dropLapsed 29 = .ok (.ifCond .eq 31, 3) := by decide +kernel
theorem d_Clb_dropLapsed_32 : decode b_Clb_dropLapsed 32 = .ok (.aload_n 0, 1) := by decide +kernel
theorem d_Clb_dropLapsed_33 : decode b_Clb_dropLapsed 33 = .ok (.getfield 12, 3) := by decide +kernel
theorem d_Clb_dropLapsed_36 : decode b_Clb_dropLapsed 36 = .ok (.iload_n 2, 1) := by decide +kernel
theorem d_Clb_dropLapsed_37 : decode b_Clb_dropLapsed 37 = .ok (.aload_n 0, 1) := by decide +kernel
theorem d_Clb_dropLapsed_38 : decode b_Clb_dropLapsed 38 = .ok (.getfield 32, 3) := by decide +kernel
theorem d_Clb_dropLapsed_41 : decode b_Clb_dropLapsed 41 = .ok (.invokevirtual 131, 3) := by decide +kernel
theorem d_Clb_dropLapsed_44 : decode b_Clb_dropLapsed 44 = .ok (.ifCond .eq 16, 3) := by decide +kernel
theorem d_Clb_dropLapsed_47 : decode b_Clb_dropLapsed 47 = .ok (.aload_n 0, 1) := by decide +kernel
theorem d_Clb_dropLapsed_48 : decode b_Clb_dropLapsed 48 = .ok (.getfield 21, 3) := by decide +kernel
theorem d_Clb_dropLapsed_51 : decode b_Clb_dropLapsed 51 = .ok (.iload_n 2, 1) := by decide +kernel
theorem d_Clb_dropLapsed_52 : decode b_Clb_dropLapsed 52 = .ok (.iload_n 3, 1) := by decide +kernel
theorem d_Clb_dropLapsed_53 : decode b_Clb_dropLapsed 53 = .ok (.invokevirtual 118, 3) := by decide +kernel
theorem d_Clb_dropLapsed_56 : decode b_Clb_dropLapsed 56 = .ok (.pop, 1) := by decide +kernel
theorem d_Clb_dropLapsed_57 : decode b_Clb_dropLapsed 57 = .ok (.iinc 1 1, 3) := by decide +kernel
theorem d_Clb_dropLapsed_60 : decode b_Clb_dropLapsed 60 = .ok (.iinc 2 1, 3) := by decide +kernel
theorem d_Clb_dropLapsed_63 : decode b_Clb_dropLapsed 63 = .ok (.goto (-59), 3) := by decide +kernel
theorem d_Clb_dropLapsed_66 : decode b_Clb_dropLapsed 66 = .ok (.iload_n 1, 1) := by decide +kernel
theorem d_Clb_dropLapsed_67 : decode b_Clb_dropLapsed 67 = .ok (.ireturn, 1) := by decide +kernel
theorem d_Clb_settleAll_0 : decode b_Clb_settleAll 0 = .ok (.aload_n 0, 1) := by decide +kernel
theorem d_Clb_settleAll_1 : decode b_Clb_settleAll 1 = .ok (.getfield 36, 3) := by decide +kernel
theorem d_Clb_settleAll_4 : decode b_Clb_settleAll 4 = .ok (.ifCond .eq 6, 3) := by decide +kernel
theorem d_Clb_settleAll_7 : decode b_Clb_settleAll 7 = .ok (.bipush (-2), 2) := by decide +kernel
theorem d_Clb_settleAll_9 : decode b_Clb_settleAll 9 = .ok (.ireturn, 1) := by decide +kernel
theorem d_Clb_settleAll_10 : decode b_Clb_settleAll 10 = .ok (.iconst 0, 1) := by decide +kernel
theorem d_Clb_settleAll_11 : decode b_Clb_settleAll 11 = .ok (.istore_n 1, 1) := by decide +kernel
theorem d_Clb_settleAll_12 : decode b_Clb_settleAll 12 = .ok (.iload_n 1, 1) := by decide +kernel
theorem d_Clb_settleAll_13 : decode b_Clb_settleAll 13 = .ok (.aload_n 0, 1) := by decide +kernel
theorem d_Clb_settleAll_14 : decode b_Clb_settleAll 14 = .ok (.getfield 12, 3) := by decide +kernel
theorem d_Clb_settleAll_17 : decode b_Clb_settleAll 17 = .ok (.getfield 56, 3) := by decide +kernel
theorem d_Clb_settleAll_20 : decode b_Clb_settleAll 20 = .ok (.if_icmp .ge 19, 3) := by decide +kernel
theorem d_Clb_settleAll_23 : decode b_Clb_settleAll 23 = .ok (.aload_n 0, 1) := by decide +kernel
theorem d_Clb_settleAll_24 : decode b_Clb_settleAll 24 = .ok (.iload_n 1, 1) := by decide +kernel
theorem d_Clb_settleAll_25 : decode b_Clb_settleAll 25 = .ok (.aload_n 0, 1) := by decide +kernel
theorem d_Clb_settleAll_26 : decode b_Clb_settleAll 26 = .ok (.iload_n 1, 1) := by decide +kernel
theorem d_Clb_settleAll_27 : decode b_Clb_settleAll 27 = .ok (.invokevirtual 134, 3) := by decide +kernel
theorem d_Clb_settleAll_30 : decode b_Clb_settleAll 30 = .ok (.invokevirtual 97, 3) := by decide +kernel
theorem d_Clb_settleAll_33 : decode b_Clb_settleAll 33 = .ok (.iinc 1 1, 3) := by decide +kernel
theorem d_Clb_settleAll_36 : decode b_Clb_settleAll 36 = .ok (.goto (-24), 3) := by decide +kernel
theorem d_Clb_settleAll_39 : decode b_Clb_settleAll 39 = .ok (.aload_n 0, 1) := by decide +kernel
theorem d_Clb_settleAll_40 : decode b_Clb_settleAll 40 = .ok (.getfield 28, 3) := by decide +kernel
theorem d_Clb_settleAll_43 : decode b_Clb_settleAll 43 = .ok (.iconst 0, 1) := by decide +kernel
theorem d_Clb_settleAll_44 : decode b_Clb_settleAll 44 = .ok (.putfield 94, 3) := by decide +kernel
theorem d_Clb_settleAll_47 : decode b_Clb_settleAll 47 = .ok (.iconst 0, 1) := by decide +kernel
theorem d_Clb_settleAll_48 : decode b_Clb_settleAll 48 = .ok (.istore_n 1, 1) := by decide +kernel
theorem d_Clb_settleAll_49 : decode b_Clb_settleAll 49 = .ok (.iload_n 1, 1) := by decide +kernel
theorem d_Clb_settleAll_50 : decode b_Clb_settleAll 50 = .ok (.iconst 4, 1) := by decide +kernel
theorem d_Clb_settleAll_51 : decode b_Clb_settleAll 51 = .ok (.if_icmp .ge 14, 3) := by decide +kernel
theorem d_Clb_settleAll_54 : decode b_Clb_settleAll 54 = .ok (.aload_n 0, 1) := by decide +kernel
theorem d_Clb_settleAll_55 : decode b_Clb_settleAll 55 = .ok (.iload_n 1, 1) := by decide +kernel
theorem d_Clb_settleAll_56 : decode b_Clb_settleAll 56 = .ok (.invokevirtual 138, 3) := by decide +kernel
theorem d_Clb_settleAll_59 : decode b_Clb_settleAll 59 = .ok (.iinc 1 1, 3) := by decide +kernel
theorem d_Clb_settleAll_62 : decode b_Clb_settleAll 62 = .ok (.goto (-13), 3) := by decide +kernel
theorem d_Clb_settleAll_65 : decode b_Clb_settleAll 65 = .ok (.iconst 0, 1) := by decide +kernel
theorem d_Clb_settleAll_66 : decode b_Clb_settleAll 66 = .ok (.istore_n 1, 1) := by decide +kernel
theorem d_Clb_settleAll_67 : decode b_Clb_settleAll 67 = .ok (.iload_n 1, 1) := by decide +kernel
theorem d_Clb_settleAll_68 : decode b_Clb_settleAll 68 = .ok (.aload_n 0, 1) := by decide +kernel
theorem d_Clb_settleAll_69 : decode b_Clb_settleAll 69 = .ok (.getfield 12, 3) := by decide +kernel
theorem d_Clb_settleAll_72 : decode b_Clb_settleAll 72 = .ok (.getfield 56, 3) := by decide +kernel
theorem d_Clb_settleAll_75 : decode b_Clb_settleAll 75 = .ok (.if_icmp .ge 46, 3) := by decide +kernel
theorem d_Clb_settleAll_78 : decode b_Clb_settleAll 78 = .ok (.aload_n 0, 1) := by decide +kernel
theorem d_Clb_settleAll_79 : decode b_Clb_settleAll 79 = .ok (.iload_n 1, 1) := by decide +kernel
theorem d_Clb_settleAll_80 : decode b_Clb_settleAll 80 = .ok (.aload_n 0, 1) := by decide +kernel
theorem d_Clb_settleAll_81 : decode b_Clb_settleAll 81 = .ok (.getfield 12, 3) := by decide +kernel
theorem d_Clb_settleAll_84 : decode b_Clb_settleAll 84 = .ok (.getfield 78, 3) := by decide +kernel
theorem d_Clb_settleAll_87 : decode b_Clb_settleAll 87 = .ok (.iload_n 1, 1) := by decide +kernel
theorem d_Clb_settleAll_88 : decode b_Clb_settleAll 88 = .ok (.iaload, 1) := by decide +kernel
theorem d_Clb_settleAll_89 : decode b_Clb_settleAll 89 = .ok (.bipush 10, 2) := by decide +kernel
theorem d_Clb_settleAll_91 : decode b_Clb_settleAll 91 = .ok (.imul, 1) := by decide +kernel
theorem d_Clb_settleAll_92 : decode b_Clb_settleAll 92 = .ok (.invokevirtual 97, 3) := by decide +kernel
theorem d_Clb_settleAll_95 : decode b_Clb_settleAll 95 = .ok (.aload_n 0, 1) := by decide +kernel
theorem d_Clb_settleAll_96 : decode b_Clb_settleAll 96 = .ok (.getfield 12, 3) := by decide +kernel
theorem d_Clb_settleAll_99 : decode b_Clb_settleAll 99 = .ok (.getfield 78, 3) := by decide +kernel
theorem d_Clb_settleAll_102 : decode b_Clb_settleAll 102 = .ok (.iload_n 1, 1) := by decide +kernel
theorem d_Clb_settleAll_103 : decode b_Clb_settleAll 103 = .ok (.iconst 0, 1) := by decide +kernel
theorem d_Clb_settleAll_104 : decode b_Clb_settleAll 104 = .ok (.iastore, 1) := by decide +kernel
theorem d_Clb_settleAll_105 : decode b_Clb_settleAll 105 = .ok (.aload_n 0, 1) := by decide +kernel
theorem d_Clb_settleAll_106 : decode b_Clb_settleAll 106 = .ok (.getfield 12, 3) := by decide +kernel
theorem d_Clb_settleAll_109 : decode b_Clb_settleAll 109 = .ok (.getfield 100, 3) := by decide +kernel
theorem d_Clb_settleAll_112 : decode b_Clb_settleAll 112 = .ok (.iload_n 1, 1) := by decide +kernel
theorem d_Clb_settleAll_113 : decode b_Clb_settleAll 113 = .ok (.iconst 2, 1) := by decide +kernel
theorem d_Clb_settleAll_114 : decode b_Clb_settleAll 114 = .ok (.iastore, 1) := by decide +kernel
theorem d_Clb_settleAll_115 : decode b_Clb_settleAll 115 = .ok (.iinc 1 1, 3) := by decide +kernel
theorem d_Clb_settleAll_118 : decode b_Clb_settleAll 118 = .ok (.goto (-51), 3) := by decide +kernel
theorem d_Clb_settleAll_121 : decode b_Clb_settleAll 121 = .ok (.aload_n 0, 1) := by decide +kernel
theorem d_Clb_settleAll_122 : decode b_Clb_settleAll 122 = .ok (.getfield 21, 3) := by decide +kernel
theorem d_Clb_settleAll_125 : decode b_Clb_settleAll 125 = .ok (.invokevirtual 141, 3) := by decide +kernel
theorem d_Clb_settleAll_128 : decode b_Clb_settleAll 128 = .ok (.aload_n 0, 1) := by decide +kernel
theorem d_Clb_settleAll_129 : decode b_Clb_settleAll 129 = .ok (.iconst 1, 1) := by decide +kernel
theorem d_Clb_settleAll_130 : decode b_Clb_settleAll 130 = .ok (.putfield 36, 3) := by decide +kernel
theorem d_Clb_settleAll_133 : decode b_Clb_settleAll 133 = .ok (.aload_n 0, 1) := by decide +kernel
theorem d_Clb_settleAll_134 : decode b_Clb_settleAll 134 = .ok (.getfield 40, 3) := by decide +kernel
theorem d_Clb_settleAll_137 : decode b_Clb_settleAll 137 = .ok (.ireturn, 1) := by decide +kernel
theorem d_Clb_bonusOf_0 : decode b_Clb_bonusOf 0 = .ok (.aload_n 0, 1) := by decide +kernel
theorem d_Clb_bonusOf_1 : decode b_Clb_bonusOf 1 = .ok (.getfield 12, 3) := by decide +kernel
theorem d_Clb_bonusOf_4 : decode b_Clb_bonusOf 4 = .ok (.invokevirtual 144, 3) := by decide +kernel
theorem d_Clb_bonusOf_7 : decode b_Clb_bonusOf 7 = .ok (.istore_n 2, 1) := by decide +kernel
theorem d_Clb_bonusOf_8 : decode b_Clb_bonusOf 8 = .ok (.iload_n 2, 1) := by decide +kernel
theorem d_Clb_bonusOf_9 : decode b_Clb_bonusOf 9 = .ok (.ifCond .eq 14, 3) := by decide +kernel
theorem d_Clb_bonusOf_12 : decode b_Clb_bonusOf 12 = .ok (.aload_n 0, 1) := by decide +kernel
theorem d_Clb_bonusOf_13 : decode b_Clb_bonusOf 13 = .ok (.getfield 12, 3) := by decide +kernel
theorem d_Clb_bonusOf_16 : decode b_Clb_bonusOf 16 = .ok (.iload_n 1, 1) := by decide +kernel
theorem d_Clb_bonusOf_17 : decode b_Clb_bonusOf 17 = .ok (.invokevirtual 147, 3) := by decide +kernel
theorem d_Clb_bonusOf_20 : decode b_Clb_bonusOf 20 = .ok (.ifCond .ne 5, 3) := by decide +kernel
theorem d_Clb_bonusOf_23 : decode b_Clb_bonusOf 23 = .ok (.iconst 0, 1) := by decide +kernel
theorem d_Clb_bonusOf_24 : decode b_Clb_bonusOf 24 = .ok (.ireturn, 1) := by decide +kernel
theorem d_Clb_bonusOf_25 : decode b_Clb_bonusOf 25 = .ok (.aload_n 0, 1) := by decide +kernel
theorem d_Clb_bonusOf_26 : decode b_Clb_bonusOf 26 = .ok (.getfield 28, 3) := by decide +kernel
theorem d_Clb_bonusOf_29 : decode b_Clb_bonusOf 29 = .ok (.getfield 94, 3) := by decide +kernel
theorem d_Clb_bonusOf_32 : decode b_Clb_bonusOf 32 = .ok (.aload_n 0, 1) := by decide +kernel
theorem d_Clb_bonusOf_33 : decode b_Clb_bonusOf 33 = .ok (.getfield 12, 3) := by decide +kernel
theorem d_Clb_bonusOf_36 : decode b_Clb_bonusOf 36 = .ok (.getfield 78, 3) := by decide +kernel
theorem d_Clb_bonusOf_39 : decode b_Clb_bonusOf 39 = .ok (.iload_n 1, 1) := by decide +kernel
theorem d_Clb_bonusOf_40 : decode b_Clb_bonusOf 40 = .ok (.iaload, 1) := by decide +kernel
theorem d_Clb_bonusOf_41 : decode b_Clb_bonusOf 41 = .ok (.imul, 1) := by decide +kernel
theorem d_Clb_bonusOf_42 : decode b_Clb_bonusOf 42 = .ok (.iload_n 2, 1) := by decide +kernel
theorem d_Clb_bonusOf_43 : decode b_Clb_bonusOf 43 = .ok (.idiv, 1) := by decide +kernel
theorem d_Clb_bonusOf_44 : decode b_Clb_bonusOf 44 = .ok (.ireturn, 1) := by decide +kernel
theorem d_Clb_handOutKind_0 : decode b_Clb_handOutKind 0 = .ok (.iconst 0, 1) := by decide +kernel
theorem d_Clb_handOutKind_1 : decode b_Clb_handOutKind 1 = .ok (.istore_n 2, 1) := by decide +kernel
theorem d_Clb_handOutKind_2 : decode b_Clb_handOutKind 2 = .ok (.iload_n 2, 1) := by decide +kernel
theorem d_Clb_handOutKind_3 : decode b_Clb_handOutKind 3 = .ok (.aload_n 0, 1) := by decide +kernel
theorem d_Clb_handOutKind_4 : decode b_Clb_handOutKind 4 = .ok (.getfield 12, 3) := by decide +kernel
theorem d_Clb_handOutKind_7 : decode b_Clb_handOutKind 7 = .ok (.getfield 56, 3) := by decide +kernel
theorem d_Clb_handOutKind_10 : decode b_Clb_handOutKind 10 = .ok (.if_icmp .ge 39, 3) := by decide +kernel
theorem d_Clb_handOutKind_13 : decode b_Clb_handOutKind 13 = .ok (.aload_n 0, 1) := by decide +kernel
theorem d_Clb_handOutKind_14 : decode b_Clb_handOutKind 14 = .ok (.getfield 21, 3) := by decide +kernel
theorem d_Clb_handOutKind_17 : decode b_Clb_handOutKind 17 = .ok (.getfield 115, 3) := by decide +kernel
theorem d_Clb_handOutKind_20 : decode b_Clb_handOutKind 20 = .ok (.iload_n 2, 1) := by decide +kernel
theorem d_Clb_handOutKind_21 : decode b_Clb_handOutKind 21 = .ok (.iaload, 1) := by decide +kernel
theorem d_Clb_handOutKind_22 : decode b_Clb_handOutKind 22 = .ok (.iload_n 1, 1) := by decide +kernel
theorem d_Clb_handOutKind_23 : decode b_Clb_handOutKind 23 = .ok (.if_icmp .ne 20, 3) := by decide +kernel
theorem d_Clb_handOutKind_26 : decode b_Clb_handOutKind 26 = .ok (.aload_n 0, 1) := by decide +kernel
theorem d_Clb_handOutKind_27 : decode b_Clb_handOutKind 27 = .ok (.getfield 21, 3) := by decide +kernel
theorem d_Clb_handOutKind_30 : decode b_Clb_handOutKind 30 = .ok (.iload_n 2, 1) := by decide +kernel
theorem d_Clb_handOutKind_31 : decode b_Clb_handOutKind 31 = .ok (.invokevirtual 150, 3) := by decide +kernel
theorem d_Clb_handOutKind_34 : decode b_Clb_handOutKind 34 = .ok (.ifCond .eq 9, 3) := by decide +kernel
theorem d_Clb_handOutKind_37 : decode b_Clb_handOutKind 37 = .ok (.aload_n 0, 1) := by decide +kernel
theorem d_Clb_handOutKind_38 : decode b_Clb_handOutKind 38 = .ok (.iload_n 2, 1) := by decide +kernel
theorem d_Clb_handOutKind_39 : decode b_Clb_handOutKind 39 = .ok (.iload_n 1, 1) := by decide +kernel
theorem d_Clb_handOutKind_40 : decode b_Clb_handOutKind 40 = .ok (.invokevirtual 153, 3) := by decide +kernel
theorem d_Clb_handOutKind_43 : decode b_Clb_handOutKind 43 = .ok (.iinc 2 1, 3) := by decide +kernel
theorem d_Clb_handOutKind_46 : decode b_Clb_handOutKind 46 = .ok (.goto (-44), 3) := by decide +kernel
theorem d_Clb_handOutKind_49 : decode b_Clb_handOutKind 49 = .ok (.return_, 1) := by decide +kernel
theorem d_Clb_handOutOne_0 : decode b_Clb_handOutOne 0 = .ok (.aload_n 0, 1) := by decide +kernel
theorem d_Clb_handOutOne_1 : decode b_Clb_handOutOne 1 = .ok (.getfield 21, 3) := by decide +kernel
theorem d_Clb_handOutOne_4 : decode b_Clb_handOutOne 4 = .ok (.getfield 109, 3) := by decide +kernel
theorem d_Clb_handOutOne_7 : decode b_Clb_handOutOne 7 = .ok (.iload_n 2, 1) := by decide +kernel
theorem d_Clb_handOutOne_8 : decode b_Clb_handOutOne 8 = .ok (.iaload, 1) := by decide +kernel
theorem d_Clb_handOutOne_9 : decode b_Clb_handOutOne 9 = .ok (.istore_n 3, 1) := by decide +kernel
theorem d_Clb_handOutOne_10 : decode b_Clb_handOutOne 10 = .ok (.iload_n 1, 1) := by decide +kernel
theorem d_Clb_handOutOne_11 : decode b_Clb_handOutOne 11 = .ok (.istore 4, 2) := by decide +kernel
theorem d_Clb_handOutOne_13 : decode b_Clb_handOutOne 13 = .ok (.iconst 0, 1) := by decide +kernel
theorem d_Clb_handOutOne_14 : decode b_Clb_handOutOne 14 = .ok (.istore 5, 2) := by decide +kernel
theorem d_Clb_handOutOne_16 : decode b_Clb_handOutOne 16 = .ok (.iload 5, 2) := by decide +kernel
theorem d_Clb_handOutOne_18 : decode b_Clb_handOutOne 18 = .ok (.bipush 12, 2) := by decide +kernel
theorem d_Clb_handOutOne_20 : decode b_Clb_handOutOne 20 = .ok (.if_icmp .ge 88, 3) := by decide +kernel
theorem d_Clb_handOutOne_23 : decode b_Clb_handOutOne 23 = .ok (.iload 4, 2) := by decide +kernel
theorem d_Clb_handOutOne_25 : decode b_Clb_handOutOne 25 = .ok (.bipush (-9), 2) := by decide +kernel
theorem d_Clb_handOutOne_27 : decode b_Clb_handOutOne 27 = .ok (.if_icmp .eq 81, 3) := by decide +kernel
theorem d_Clb_handOutOne_30 : decode b_Clb_handOutOne 30 = .ok (.aload_n 0, 1) := by decide +kernel
theorem d_Clb_handOutOne_31 : decode b_Clb_handOutOne 31 = .ok (.getfield 12, 3) := by decide +kernel
theorem d_Clb_handOutOne_34 : decode b_Clb_handOutOne 34 = .ok (.getfield 78, 3) := by decide +kernel
theorem d_Clb_handOutOne_37 : decode b_Clb_handOutOne 37 = .ok (.iload 4, 2) := by decide +kernel
theorem d_Clb_handOutOne_39 : decode b_Clb_handOutOne 39 = .ok (.iaload, 1) := by decide +kernel
theorem d_Clb_handOutOne_40 : decode b_Clb_handOutOne 40 = .ok (.iload_n 3, 1) := by decide +kernel
theorem d_Clb_handOutOne_41 : decode b_Clb_handOutOne 41 = .ok (.if_icmp .lt 49, 3) := by decide +kernel
theorem d_Clb_handOutOne_44 : decode b_Clb_handOutOne 44 = .ok (.aload_n 0, 1) := by decide +kernel
theorem d_Clb_handOutOne_45 : decode b_Clb_handOutOne 45 = .ok (.getfield 12, 3) := by decide +kernel
theorem d_Clb_handOutOne_48 : decode b_Clb_handOutOne 48 = .ok (.getfield 78, 3) := by decide +kernel
theorem d_Clb_handOutOne_51 : decode b_Clb_handOutOne 51 = .ok (.iload 4, 2) := by decide +kernel
theorem d_Clb_handOutOne_53 : decode b_Clb_handOutOne 53 = .ok (.dup2, 1) := by decide +kernel
theorem d_Clb_handOutOne_54 : decode b_Clb_handOutOne 54 = .ok (.iaload, 1) := by decide +kernel
theorem d_Clb_handOutOne_55 : decode b_Clb_handOutOne 55 = .ok (.iload_n 3, 1) := by decide +kernel
theorem d_Clb_handOutOne_56 : decode b_Clb_handOutOne 56 = .ok (.isub, 1) := by decide +kernel
theorem d_Clb_handOutOne_57 : decode b_Clb_handOutOne 57 = .ok (.iastore, 1) := by decide +kernel
theorem d_Clb_handOutOne_58 : decode b_Clb_handOutOne 58 = .ok (.aload_n 0, 1) := by decide +kernel
theorem d_Clb_handOutOne_59 : decode b_Clb_handOutOne 59 = .ok (.getfield 28, 3) := by decide +kernel
theorem d_Clb_handOutOne_62 : decode b_Clb_handOutOne 62 = .ok (.iload_n 3, 1) := by decide +kernel
theorem d_Clb_handOutOne_63 : decode b_Clb_handOutOne 63 = .ok (.bipush 10, 2) := by decide +kernel
theorem d_Clb_handOutOne_65 : decode b_Clb_handOutOne 65 = .ok (.imul, 1) := by decide +kernel
theorem d_Clb_handOutOne_66 : decode b_Clb_handOutOne 66 = .ok (.invokevirtual 156, 3) := by decide +kernel
theorem d_Clb_handOutOne_69 : decode b_Clb_handOutOne 69 = .ok (.aload_n 0, 1) := by decide +kernel
theorem d_Clb_handOutOne_70 : decode b_Clb_handOutOne 70 = .ok (.getfield 21, 3) := by decide +kernel
theorem d_Clb_handOutOne_73 : decode b_Clb_handOutOne 73 = .ok (.iload 4, 2) := by decide +kernel
theorem d_Clb_handOutOne_75 : decode b_Clb_handOutOne 75 = .ok (.iload_n 2, 1) := by decide +kernel
theorem d_Clb_handOutOne_76 : decode b_Clb_handOutOne 76 = .ok (.invokevirtual 159, 3) := by decide +kernel
theorem d_Clb_handOutOne_79 : decode b_Clb_handOutOne 79 = .ok (.aload_n 0, 1) := by decide +kernel
theorem d_Clb_handOutOne_80 : decode b_Clb_handOutOne 80 = .ok (.dup, 1) := by decide +kernel
theorem d_Clb_handOutOne_81 : decode b_Clb_handOutOne 81 = .ok (.getfield 40, 3) := by decide +kernel
theorem d_Clb_handOutOne_84 : decode b_Clb_handOutOne 84 = .ok (.iconst 1, 1) := by decide +kernel
theorem d_Clb_handOutOne_85 : decode b_Clb_handOutOne 85 = .ok (.iadd, 1) := by decide +kernel
theorem d_Clb_handOutOne_86 : decode b_Clb_handOutOne 86 = .ok (.putfield 40, 3) := by decide +kernel
theorem d_Clb_handOutOne_89 : decode b_Clb_handOutOne 89 = .ok (.return_, 1) := by decide +kernel
theorem d_Clb_handOutOne_90 : decode b_Clb_handOutOne 90 = .ok (.aload_n 0, 1) := by decide +kernel
theorem d_Clb_handOutOne_91 : decode b_Clb_handOutOne 91 = .ok (.getfield 21, 3) := by decide +kernel
theorem d_Clb_handOutOne_94 : decode b_Clb_handOutOne 94 = .ok (.iload 4, 2) := by decide +kernel
theorem d_Clb_handOutOne_96 : decode b_Clb_handOutOne 96 = .ok (.iload_n 2, 1) := by decide +kernel
theorem d_Clb_handOutOne_97 : decode b_Clb_handOutOne 97 = .ok (.invokevirtual 118, 3) := by decide +kernel
theorem d_Clb_handOutOne_100 : decode b_Clb_handOutOne 100 = .ok (.istore 4, 2) := by decide +kernel
theorem d_Clb_handOutOne_102 : decode b_Clb_handOutOne 102 = .ok (.iinc 5 1, 3) := by decide +kernel
theorem d_Clb_handOutOne_105 : decode b_Clb_handOutOne 105 = .ok (.goto (-89), 3) := by decide +kernel
theorem d_Clb_handOutOne_108 : decode b_Clb_handOutOne 108 = .ok (.return_, 1) := by decide +kernel
theorem d_Clb_payMember_0 : decode b_Clb_payMember 0 = .ok (.aload_n 0, 1) := by decide +kernel
theorem d_Clb_payMember_1 : decode b_Clb_payMember 1 = .ok (.getfield 28, 3) := by decide +kernel
theorem d_Clb_payMember_4 : decode b_Clb_payMember 4 = .ok (.iload_n 2, 1) := by decide +kernel
theorem d_Clb_payMember_5 : decode b_Clb_payMember 5 = .ok (.invokevirtual 162, 3) := by decide +kernel
theorem d_Clb_payMember_8 : decode b_Clb_payMember 8 = .ok (.aload_n 0, 1) := by decide +kernel
theorem d_Clb_payMember_9 : decode b_Clb_payMember 9 = .ok (.getfield 12, 3) := by decide +kernel
theorem d_Clb_payMember_12 : decode b_Clb_payMember 12 = .ok (.getfield 165, 3) := by decide +kernel
theorem d_Clb_payMember_15 : decode b_Clb_payMember 15 = .ok (.iload_n 1, 1) := by decide +kernel
theorem d_Clb_payMember_16 : decode b_Clb_payMember 16 = .ok (.dup2, 1) := by decide +kernel
theorem d_Clb_payMember_17 : decode b_Clb_payMember 17 = .ok (.iaload, 1) := by decide +kernel
theorem d_Clb_payMember_18 : decode b_Clb_payMember 18 = .ok (.iload_n 2, 1) := by decide +kernel
theorem d_Clb_payMember_19 : decode b_Clb_payMember 19 = .ok (.iadd, 1) := by decide +kernel
theorem d_Clb_payMember_20 : decode b_Clb_payMember 20 = .ok (.iastore, 1) := by decide +kernel
theorem d_Clb_payMember_21 : decode b_Clb_payMember 21 = .ok (.return_, 1) := by decide +kernel
theorem d_Clb_tell_0 : decode b_Clb_tell 0 = .ok (.iload_n 1, 1) := by decide +kernel
theorem d_Clb_tell_1 : decode b_Clb_tell 1 = .ok (.tableswitch 167 0 12 #[67, 72, 80, 93, 101, 109, 117, 125, 133, 141, 146, 154, 162], 67) := by decide +kernel
theorem d_Clb_tell_68 : decode b_Clb_tell 68 = .ok (.aload_n 0, 1) := by decide +kernel
theorem d_Clb_tell_69 : decode b_Clb_tell 69 = .ok (.getfield 32, 3) := by decide +kernel
theorem d_Clb_tell_72 : decode b_Clb_tell 72 = .ok (.ireturn, 1) := by decide +kernel
theorem d_Clb_tell_73 : decode b_Clb_tell 73 = .ok (.aload_n 0, 1) := by decide +kernel
theorem d_Clb_tell_74 : decode b_Clb_tell 74 = .ok (.getfield 12, 3) := by decide +kernel
theorem d_Clb_tell_77 : decode b_Clb_tell 77 = .ok (.getfield 56, 3) := by decide +kernel
theorem d_Clb_tell_80 : decode b_Clb_tell 80 = .ok (.ireturn, 1) := by decide +kernel
theorem d_Clb_tell_81 : decode b_Clb_tell 81 = .ok (.aload_n 0, 1) := by decide +kernel
theorem d_Clb_tell_82 : decode b_Clb_tell 82 = .ok (.getfield 36, 3) := by decide +kernel
theorem d_Clb_tell_85 : decode b_Clb_tell 85 = .ok (.ifCond .eq 7, 3) := by decide +kernel
theorem d_Clb_tell_88 : decode b_Clb_tell 88 = .ok (.iconst 1, 1) := by decide +kernel
theorem d_Clb_tell_89 : decode b_Clb_tell 89 = .ok (.goto 4, 3) := by decide +kernel
theorem d_Clb_tell_92 : decode b_Clb_tell 92 = .ok (.iconst 0, 1) := by decide +kernel
theorem d_Clb_tell_93 : decode b_Clb_tell 93 = .ok (.ireturn, 1) := by decide +kernel
theorem d_Clb_tell_94 : decode b_Clb_tell 94 = .ok (.aload_n 0, 1) := by decide +kernel
theorem d_Clb_tell_95 : decode b_Clb_tell 95 = .ok (.getfield 28, 3) := by decide +kernel
theorem d_Clb_tell_98 : decode b_Clb_tell 98 = .ok (.getfield 168, 3) := by decide +kernel
theorem d_Clb_tell_101 : decode b_Clb_tell 101 = .ok (.ireturn, 1) := by decide +kernel
theorem d_Clb_tell_102 : decode b_Clb_tell 102 = .ok (.aload_n 0, 1) := by decide +kernel
theorem d_Clb_tell_103 : decode b_Clb_tell 103 = .ok (.getfield 28, 3) := by decide +kernel
theorem d_Clb_tell_106 : decode b_Clb_tell 106 = .ok (.getfield 94, 3) := by decide +kernel
theorem d_Clb_tell_109 : decode b_Clb_tell 109 = .ok (.ireturn, 1) := by decide +kernel
theorem d_Clb_tell_110 : decode b_Clb_tell 110 = .ok (.aload_n 0, 1) := by decide +kernel
theorem d_Clb_tell_111 : decode b_Clb_tell 111 = .ok (.getfield 12, 3) := by decide +kernel
theorem d_Clb_tell_114 : decode b_Clb_tell 114 = .ok (.invokevirtual 171, 3) := by decide +kernel
theorem d_Clb_tell_117 : decode b_Clb_tell 117 = .ok (.ireturn, 1) := by decide +kernel
theorem d_Clb_tell_118 : decode b_Clb_tell 118 = .ok (.aload_n 0, 1) := by decide +kernel
theorem d_Clb_tell_119 : decode b_Clb_tell 119 = .ok (.getfield 28, 3) := by decide +kernel
theorem d_Clb_tell_122 : decode b_Clb_tell 122 = .ok (.getfield 174, 3) := by decide +kernel
theorem d_Clb_tell_125 : decode b_Clb_tell 125 = .ok (.ireturn, 1) := by decide +kernel
theorem d_Clb_tell_126 : decode b_Clb_tell 126 = .ok (.aload_n 0, 1) := by decide +kernel
theorem d_Clb_tell_127 : decode b_Clb_tell 127 = .ok (.getfield 28, 3) := by decide +kernel
theorem d_Clb_tell_130 : decode b_Clb_tell 130 = .ok (.getfield 177, 3) := by decide +kernel
theorem d_Clb_tell_133 : decode b_Clb_tell 133 = .ok (.ireturn, 1) := by decide +kernel
theorem d_Clb_tell_134 : decode b_Clb_tell 134 = .ok (.aload_n 0, 1) := by decide +kernel
theorem d_Clb_tell_135 : decode b_Clb_tell 135 = .ok (.getfield 28, 3) := by decide +kernel
theorem d_Clb_tell_138 : decode b_Clb_tell 138 = .ok (.getfield 180, 3) := by decide +kernel
theorem d_Clb_tell_141 : decode b_Clb_tell 141 = .ok (.ireturn, 1) := by decide +kernel
theorem d_Clb_tell_142 : decode b_Clb_tell 142 = .ok (.aload_n 0, 1) := by decide +kernel
theorem d_Clb_tell_143 : decode b_Clb_tell 143 = .ok (.getfield 40, 3) := by decide +kernel
theorem d_Clb_tell_146 : decode b_Clb_tell 146 = .ok (.ireturn, 1) := by decide +kernel
theorem d_Clb_tell_147 : decode b_Clb_tell 147 = .ok (.aload_n 0, 1) := by decide +kernel
theorem d_Clb_tell_148 : decode b_Clb_tell 148 = .ok (.getfield 12, 3) := by decide +kernel
theorem d_Clb_tell_151 : decode b_Clb_tell 151 = .ok (.invokevirtual 183, 3) := by decide +kernel
theorem d_Clb_tell_154 : decode b_Clb_tell 154 = .ok (.ireturn, 1) := by decide +kernel
theorem d_Clb_tell_155 : decode b_Clb_tell 155 = .ok (.aload_n 0, 1) := by decide +kernel
theorem d_Clb_tell_156 : decode b_Clb_tell 156 = .ok (.getfield 12, 3) := by decide +kernel
theorem d_Clb_tell_159 : decode b_Clb_tell 159 = .ok (.invokevirtual 186, 3) := by decide +kernel
theorem d_Clb_tell_162 : decode b_Clb_tell 162 = .ok (.ireturn, 1) := by decide +kernel
theorem d_Clb_tell_163 : decode b_Clb_tell 163 = .ok (.aload_n 0, 1) := by decide +kernel
theorem d_Clb_tell_164 : decode b_Clb_tell 164 = .ok (.getfield 43, 3) := by decide +kernel
theorem d_Clb_tell_167 : decode b_Clb_tell 167 = .ok (.ireturn, 1) := by decide +kernel
theorem d_Clb_tell_168 : decode b_Clb_tell 168 = .ok (.iconst (-1), 1) := by decide +kernel
theorem d_Clb_tell_169 : decode b_Clb_tell 169 = .ok (.ireturn, 1) := by decide +kernel
theorem d_Clb_tellOfMember_0 : decode b_Clb_tellOfMember 0 = .ok (.aload_n 0, 1) := by decide +kernel
theorem d_Clb_tellOfMember_1 : decode b_Clb_tellOfMember 1 = .ok (.getfield 12, 3) := by decide +kernel
theorem d_Clb_tellOfMember_4 : decode b_Clb_tellOfMember 4 = .ok (.iload_n 1, 1) := by decide +kernel
theorem d_Clb_tellOfMember_5 : decode b_Clb_tellOfMember 5 = .ok (.invokevirtual 63, 3) := by decide +kernel
theorem d_Clb_tellOfMember_8 : decode b_Clb_tellOfMember 8 = .ok (.ifCond .ne 5, 3) := by decide +kernel
theorem d_Clb_tellOfMember_11 : decode b_Clb_tellOfMember 11 = .ok (.iconst (-1), 1) := by decide +kernel
theorem d_Clb_tellOfMember_12 : decode b_Clb_tellOfMember 12 = .ok (.ireturn, 1) := by decide +kernel
theorem d_Clb_tellOfMember_13 : decode b_Clb_tellOfMember 13 = .ok (.iload_n 2, 1) := by decide +kernel
theorem d_Clb_tellOfMember_14 : decode b_Clb_tellOfMember 14 = .ok (.tableswitch 181 0 10 #[58, 68, 78, 88, 105, 115, 125, 138, 151, 161, 171], 58) := by decide +kernel
theorem d_Clb_tellOfMember_72 : decode b_Clb_tellOfMember 72 = .ok (.aload_n 0, 1) := by decide +kernel
theorem d_Clb_tellOfMember_73 : decode b_Clb_tellOfMember 73 = .ok (.getfield 12, 3) := by decide +kernel
theorem d_Clb_tellOfMember_76 : decode b_Clb_tellOfMember 76 = .ok (.getfield 78, 3) := by decide +kernel
theorem d_Clb_tellOfMember_79 : decode b_Clb_tellOfMember 79 = .ok (.iload_n 1, 1) := by decide +kernel
theorem d_Clb_tellOfMember_80 : decode b_Clb_tellOfMember 80 = .ok (.iaload, 1) := by decide +kernel
theorem d_Clb_tellOfMember_81 : decode b_Clb_tellOfMember 81 = .ok (.ireturn, 1) := by decide +kernel
theorem d_Clb_tellOfMember_82 : decode b_Clb_tellOfMember 82 = .ok (.aload_n 0, 1) := by decide +kernel
theorem d_Clb_tellOfMember_83 : decode b_Clb_tellOfMember 83 = .ok (.getfield 12, 3) := by decide +kernel
theorem d_Clb_tellOfMember_86 : decode b_Clb_tellOfMember 86 = .ok (.getfield 100, 3) := by decide +kernel
theorem d_Clb_tellOfMember_89 : decode b_Clb_tellOfMember 89 = .ok (.iload_n 1, 1) := by decide +kernel
theorem d_Clb_tellOfMember_90 : decode b_Clb_tellOfMember 90 = .ok (.iaload, 1) := by decide +kernel
theorem d_Clb_tellOfMember_91 : decode b_Clb_tellOfMember 91 = .ok (.ireturn, 1) := by decide +kernel
theorem d_Clb_tellOfMember_92 : decode b_Clb_tellOfMember 92 = .ok (.aload_n 0, 1) := by decide +kernel
theorem d_Clb_tellOfMember_93 : decode b_Clb_tellOfMember 93 = .ok (.getfield 21, 3) := by decide +kernel
theorem d_Clb_tellOfMember_96 : decode b_Clb_tellOfMember 96 = .ok (.getfield 115, 3) := by decide +kernel
theorem d_Clb_tellOfMember_99 : decode b_Clb_tellOfMember 99 = .ok (.iload_n 1, 1) := by decide +kernel
theorem d_Clb_tellOfMember_100 : decode b_Clb_tellOfMember 100 = .ok (.iaload, 1) := by decide +kernel
theorem d_Clb_tellOfMember_101 : decode b_Clb_tellOfMember 101 = .ok (.ireturn, 1) := by decide +kernel
theorem d_Clb_tellOfMember_102 : decode b_Clb_tellOfMember 102 = .ok (.aload_n 0, 1) := by decide +kernel
theorem d_Clb_tellOfMember_103 : decode b_Clb_tellOfMember 103 = .ok (.getfield 21, 3) := by decide +kernel
theorem d_Clb_tellOfMember_106 : decode b_Clb_tellOfMember 106 = .ok (.iload_n 1, 1) := by decide +kernel
theorem d_Clb_tellOfMember_107 : decode b_Clb_tellOfMember 107 = .ok (.invokevirtual 150, 3) := by decide +kernel
theorem d_Clb_tellOfMember_110 : decode b_Clb_tellOfMember 110 = .ok (.ifCond .eq 7, 3) := by decide +kernel
theorem d_Clb_tellOfMember_113 : decode b_Clb_tellOfMember 113 = .ok (.iconst 1, 1) := by decide +kernel
theorem d_Clb_tellOfMember_114 : decode b_Clb_tellOfMember 114 = .ok (.goto 4, 3) := by decide +kernel
theorem d_Clb_tellOfMember_117 : decode b_Clb_tellOfMember 117 = .ok (.iconst 0, 1) := by decide +kernel
theorem d_Clb_tellOfMember_118 : decode b_Clb_tellOfMember 118 = .ok (.ireturn, 1) := by decide +kernel
theorem d_Clb_tellOfMember_119 : decode b_Clb_tellOfMember 119 = .ok (.aload_n 0, 1) := by decide +kernel
theorem d_Clb_tellOfMember_120 : decode b_Clb_tellOfMember 120 = .ok (.getfield 21, 3) := by decide +kernel
theorem d_Clb_tellOfMember_123 : decode b_Clb_tellOfMember 123 = .ok (.getfield 189, 3) := by decide +kernel
theorem d_Clb_tellOfMember_126 : decode b_Clb_tellOfMember 126 = .ok (.iload_n 1, 1) := by decide +kernel
theorem d_Clb_tellOfMember_127 : decode b_Clb_tellOfMember 127 = .ok (.iaload, 1) := by decide +kernel
theorem d_Clb_tellOfMember_128 : decode b_Clb_tellOfMember 128 = .ok (.ireturn, 1) := by decide +kernel
theorem d_Clb_tellOfMember_129 : decode b_Clb_tellOfMember 129 = .ok (.aload_n 0, 1) := by decide +kernel
theorem d_Clb_tellOfMember_130 : decode b_Clb_tellOfMember 130 = .ok (.getfield 12, 3) := by decide +kernel
theorem d_Clb_tellOfMember_133 : decode b_Clb_tellOfMember 133 = .ok (.getfield 91, 3) := by decide +kernel
theorem d_Clb_tellOfMember_136 : decode b_Clb_tellOfMember 136 = .ok (.iload_n 1, 1) := by decide +kernel
theorem d_Clb_tellOfMember_137 : decode b_Clb_tellOfMember 137 = .ok (.iaload, 1) := by decide +kernel
theorem d_Clb_tellOfMember_138 : decode b_Clb_tellOfMember 138 = .ok (.ireturn, 1) := by decide +kernel
theorem d_Clb_tellOfMember_139 : decode b_Clb_tellOfMember 139 = .ok (.aload_n 0, 1) := by decide +kernel
theorem d_Clb_tellOfMember_140 : decode b_Clb_tellOfMember 140 = .ok (.getfield 12, 3) := by decide +kernel
theorem d_Clb_tellOfMember_143 : decode b_Clb_tellOfMember 143 = .ok (.getfield 192, 3) := by decide +kernel
theorem d_Clb_tellOfMember_146 : decode b_Clb_tellOfMember 146 = .ok (.iload_n 1, 1) := by decide +kernel
theorem d_Clb_tellOfMember_147 : decode b_Clb_tellOfMember 147 = .ok (.laload, 1) := by decide +kernel
theorem d_Clb_tellOfMember_148 : decode b_Clb_tellOfMember 148 = .ok (.invokestatic 196, 3) := by decide +kernel
theorem d_Clb_tellOfMember_151 : decode b_Clb_tellOfMember 151 = .ok (.ireturn, 1) := by decide +kernel
theorem d_Clb_tellOfMember_152 : decode b_Clb_tellOfMember 152 = .ok (.aload_n 0, 1) := by decide +kernel
theorem d_Clb_tellOfMember_153 : decode b_Clb_tellOfMember 153 = .ok (.getfield 12, 3) := by decide +kernel
theorem d_Clb_tellOfMember_156 : decode b_Clb_tellOfMember 156 = .ok (.iload_n 1, 1) := by decide +kernel
theorem d_Clb_tellOfMember_157 : decode b_Clb_tellOfMember 157 = .ok (.aload_n 0, 1) := by decide +kernel
theorem d_Clb_tellOfMember_158 : decode b_Clb_tellOfMember 158 = .ok (.getfield 32, 3) := by decide +kernel
theorem d_Clb_tellOfMember_161 : decode b_Clb_tellOfMember 161 = .ok (.invokevirtual 202, 3) := by decide +kernel
theorem d_Clb_tellOfMember_164 : decode b_Clb_tellOfMember 164 = .ok (.ireturn, 1) := by decide +kernel
theorem d_Clb_tellOfMember_165 : decode b_Clb_tellOfMember 165 = .ok (.aload_n 0, 1) := by decide +kernel
theorem d_Clb_tellOfMember_166 : decode b_Clb_tellOfMember 166 = .ok (.getfield 12, 3) := by decide +kernel
theorem d_Clb_tellOfMember_169 : decode b_Clb_tellOfMember 169 = .ok (.getfield 205, 3) := by decide +kernel
theorem d_Clb_tellOfMember_172 : decode b_Clb_tellOfMember 172 = .ok (.iload_n 1, 1) := by decide +kernel
theorem d_Clb_tellOfMember_173 : decode b_Clb_tellOfMember 173 = .ok (.iaload, 1) := by decide +kernel
theorem d_Clb_tellOfMember_174 : decode b_Clb_tellOfMember 174 = .ok (.ireturn, 1) := by decide +kernel
theorem d_Clb_tellOfMember_175 : decode b_Clb_tellOfMember 175 = .ok (.aload_n 0, 1) := by decide +kernel
theorem d_Clb_tellOfMember_176 : decode b_Clb_tellOfMember 176 = .ok (.getfield 12, 3) := by decide +kernel
theorem d_Clb_tellOfMember_179 : decode b_Clb_tellOfMember 179 = .ok (.getfield 165, 3) := by decide +kernel
theorem d_Clb_tellOfMember_182 : decode b_Clb_tellOfMember 182 = .ok (.iload_n 1, 1) := by decide +kernel
theorem d_Clb_tellOfMember_183 : decode b_Clb_tellOfMember 183 = .ok (.iaload, 1) := by decide +kernel
theorem d_Clb_tellOfMember_184 : decode b_Clb_tellOfMember 184 = .ok (.ireturn, 1) := by decide +kernel
theorem d_Clb_tellOfMember_185 : decode b_Clb_tellOfMember 185 = .ok (.aload_n 0, 1) := by decide +kernel
theorem d_Clb_tellOfMember_186 : decode b_Clb_tellOfMember 186 = .ok (.getfield 21, 3) := by decide +kernel
theorem d_Clb_tellOfMember_189 : decode b_Clb_tellOfMember 189 = .ok (.getfield 208, 3) := by decide +kernel
theorem d_Clb_tellOfMember_192 : decode b_Clb_tellOfMember 192 = .ok (.iload_n 1, 1) := by decide +kernel
theorem d_Clb_tellOfMember_193 : decode b_Clb_tellOfMember 193 = .ok (.iaload, 1) := by decide +kernel
theorem d_Clb_tellOfMember_194 : decode b_Clb_tellOfMember 194 = .ok (.ireturn, 1) := by decide +kernel
theorem d_Clb_tellOfMember_195 : decode b_Clb_tellOfMember 195 = .ok (.iconst (-1), 1) := by decide +kernel
theorem d_Clb_tellOfMember_196 : decode b_Clb_tellOfMember 196 = .ok (.ireturn, 1) := by decide +kernel
theorem d_Hmp_init_0 : decode b_Hmp_init 0 = .ok (.aload_n 0, 1) := by decide +kernel
theorem d_Hmp_init_1 : decode b_Hmp_init 1 = .ok (.invokespecial 3, 3) := by decide +kernel
theorem d_Hmp_init_4 : decode b_Hmp_init 4 = .ok (.aload_n 0, 1) := by decide +kernel
theorem d_Hmp_init_5 : decode b_Hmp_init 5 = .ok (.iconst 4, 1) := by decide +kernel
theorem d_Hmp_init_6 : decode b_Hmp_init 6 = .ok (.newarray .int, 2) := by decide +kernel
theorem d_Hmp_init_8 : decode b_Hmp_init 8 = .ok (.putfield 9, 3) := by decide +kernel
theorem d_Hmp_init_11 : decode b_Hmp_init 11 = .ok (.aload_n 0, 1) := by decide +kernel
theorem d_Hmp_init_12 : decode b_Hmp_init 12 = .ok (.iconst 4, 1) := by decide +kernel
theorem d_Hmp_init_13 : decode b_Hmp_init 13 = .ok (.newarray .int, 2) := by decide +kernel
theorem d_Hmp_init_15 : decode b_Hmp_init 15 = .ok (.putfield 15, 3) := by decide +kernel
theorem d_Hmp_init_18 : decode b_Hmp_init 18 = .ok (.aload_n 0, 1) := by decide +kernel
theorem d_Hmp_init_19 : decode b_Hmp_init 19 = .ok (.bipush 12, 2) := by decide +kernel
theorem d_Hmp_init_21 : decode b_Hmp_init 21 = .ok (.newarray .int, 2) := by decide +kernel
theorem d_Hmp_init_23 : decode b_Hmp_init 23 = .ok (.putfield 18, 3) := by decide +kernel
theorem d_Hmp_init_26 : decode b_Hmp_init 26 = .ok (.aload_n 0, 1) := by decide +kernel
theorem d_Hmp_init_27 : decode b_Hmp_init 27 = .ok (.bipush 12, 2) := by decide +kernel
theorem d_Hmp_init_29 : decode b_Hmp_init 29 = .ok (.newarray .int, 2) := by decide +kernel
theorem d_Hmp_init_31 : decode b_Hmp_init 31 = .ok (.putfield 21, 3) := by decide +kernel
theorem d_Hmp_init_34 : decode b_Hmp_init 34 = .ok (.aload_n 0, 1) := by decide +kernel
theorem d_Hmp_init_35 : decode b_Hmp_init 35 = .ok (.bipush 12, 2) := by decide +kernel
theorem d_Hmp_init_37 : decode b_Hmp_init 37 = .ok (.newarray .int, 2) := by decide +kernel
theorem d_Hmp_init_39 : decode b_Hmp_init 39 = .ok (.putfield 24, 3) := by decide +kernel
theorem d_Hmp_init_42 : decode b_Hmp_init 42 = .ok (.getstatic 27, 3) := by decide +kernel
theorem d_Hmp_init_45 : decode b_Hmp_init 45 = .ok (.iconst 0, 1) := by decide +kernel
theorem d_Hmp_init_46 : decode b_Hmp_init 46 = .ok (.aload_n 0, 1) := by decide +kernel
theorem d_Hmp_init_47 : decode b_Hmp_init 47 = .ok (.getfield 9, 3) := by decide +kernel
theorem d_Hmp_init_50 : decode b_Hmp_init 50 = .ok (.iconst 0, 1) := by decide +kernel
theorem d_Hmp_init_51 : decode b_Hmp_init 51 = .ok (.iconst 4, 1) := by decide +kernel
theorem d_Hmp_init_52 : decode b_Hmp_init 52 = .ok (.invokestatic 30, 3) := by decide +kernel
theorem d_Hmp_init_55 : decode b_Hmp_init 55 = .ok (.getstatic 36, 3) := by decide +kernel
theorem d_Hmp_init_58 : decode b_Hmp_init 58 = .ok (.iconst 0, 1) := by decide +kernel
theorem d_Hmp_init_59 : decode b_Hmp_init 59 = .ok (.aload_n 0, 1) := by decide +kernel
theorem d_Hmp_init_60 : decode b_Hmp_init 60 = .ok (.getfield 15, 3) := by decide +kernel
theorem d_Hmp_init_63 : decode b_Hmp_init 63 = .ok (.iconst 0, 1) := by decide +kernel
theorem d_Hmp_init_64 : decode b_Hmp_init 64 = .ok (.iconst 4, 1) := by decide +kernel
theorem d_Hmp_init_65 : decode b_Hmp_init 65 = .ok (.invokestatic 30, 3) := by decide +kernel
theorem d_Hmp_init_68 : decode b_Hmp_init 68 = .ok (.aload_n 0, 1) := by decide +kernel
theorem d_Hmp_init_69 : decode b_Hmp_init 69 = .ok (.getfield 18, 3) := by decide +kernel
theorem d_Hmp_init_72 : decode b_Hmp_init 72 = .ok (.bipush (-9), 2) := by decide +kernel
theorem d_Hmp_init_74 : decode b_Hmp_init 74 = .ok (.invokestatic 39, 3) := by decide +kernel
theorem d_Hmp_init_77 : decode b_Hmp_init 77 = .ok (.aload_n 0, 1) := by decide +kernel
theorem d_Hmp_init_78 : decode b_Hmp_init 78 = .ok (.getfield 24, 3) := by decide +kernel
theorem d_Hmp_init_81 : decode b_Hmp_init 81 = .ok (.bipush (-9), 2) := by decide +kernel
theorem d_Hmp_init_83 : decode b_Hmp_init 83 = .ok (.invokestatic 39, 3) := by decide +kernel
theorem d_Hmp_init_86 : decode b_Hmp_init 86 = .ok (.return_, 1) := by decide +kernel
theorem d_Hmp_copyFrom_0 : decode b_Hmp_copyFrom 0 = .ok (.aload_n 1, 1) := by decide +kernel
theorem d_Hmp_copyFrom_1 : decode b_Hmp_copyFrom 1 = .ok (.getfield 9, 3) := by decide +kernel
theorem d_Hmp_copyFrom_4 : decode b_Hmp_copyFrom 4 = .ok (.iconst 0, 1) := by decide +kernel
theorem d_Hmp_copyFrom_5 : decode b_Hmp_copyFrom 5 = .ok (.aload_n 0, 1) := by decide +kernel
theorem d_Hmp_copyFrom_6 : decode b_Hmp_copyFrom 6 = .ok (.getfield 9, 3) := by decide +kernel
theorem d_Hmp_copyFrom_9 : decode b_Hmp_copyFrom 9 = .ok (.iconst 0, 1) := by decide +kernel
theorem d_Hmp_copyFrom_10 : decode b_Hmp_copyFrom 10 = .ok (.iconst 4, 1) := by decide +kernel
theorem d_Hmp_copyFrom_11 : decode b_Hmp_copyFrom 11 = .ok (.invokestatic 30, 3) := by decide +kernel
theorem d_Hmp_copyFrom_14 : decode b_Hmp_copyFrom 14 = .ok (.aload_n 1, 1) := by decide +kernel
theorem d_Hmp_copyFrom_15 : decode b_Hmp_copyFrom 15 = .ok (.getfield 15, 3) := by decide +kernel
theorem d_Hmp_copyFrom_18 : decode b_Hmp_copyFrom 18 = .ok (.iconst 0, 1) := by decide +kernel
theorem d_Hmp_copyFrom_19 : decode b_Hmp_copyFrom 19 = .ok (.aload_n 0, 1) := by decide +kernel
theorem d_Hmp_copyFrom_20 : decode b_Hmp_copyFrom 20 = .ok (.getfield 15, 3) := by decide +kernel
theorem d_Hmp_copyFrom_23 : decode b_Hmp_copyFrom 23 = .ok (.iconst 0, 1) := by decide +kernel
theorem d_Hmp_copyFrom_24 : decode b_Hmp_copyFrom 24 = .ok (.iconst 4, 1) := by decide +kernel
theorem d_Hmp_copyFrom_25 : decode b_Hmp_copyFrom 25 = .ok (.invokestatic 30, 3) := by decide +kernel
theorem d_Hmp_copyFrom_28 : decode b_Hmp_copyFrom 28 = .ok (.aload_n 1, 1) := by decide +kernel
theorem d_Hmp_copyFrom_29 : decode b_Hmp_copyFrom 29 = .ok (.getfield 18, 3) := by decide +kernel
theorem d_Hmp_copyFrom_32 : decode b_Hmp_copyFrom 32 = .ok (.iconst 0, 1) := by decide +kernel
theorem d_Hmp_copyFrom_33 : decode b_Hmp_copyFrom 33 = .ok (.aload_n 0, 1) := by decide +kernel
theorem d_Hmp_copyFrom_34 : decode b_Hmp_copyFrom 34 = .ok (.getfield 18, 3) := by decide +kernel
theorem d_Hmp_copyFrom_37 : decode b_Hmp_copyFrom 37 = .ok (.iconst 0, 1) := by decide +kernel
theorem d_Hmp_copyFrom_38 : decode b_Hmp_copyFrom 38 = .ok (.bipush 12, 2) := by decide +kernel
theorem d_Hmp_copyFrom_40 : decode b_Hmp_copyFrom 40 = .ok (.invokestatic 30, 3) := by decide +kernel
theorem d_Hmp_copyFrom_43 : decode b_Hmp_copyFrom 43 = .ok (.aload_n 1, 1) := by decide +kernel
theorem d_Hmp_copyFrom_44 : decode b_Hmp_copyFrom 44 = .ok (.getfield 21, 3) := by decide +kernel
theorem d_Hmp_copyFrom_47 : decode b_Hmp_copyFrom 47 = .ok (.iconst 0, 1) := by decide +kernel
theorem d_Hmp_copyFrom_48 : decode b_Hmp_copyFrom 48 = .ok (.aload_n 0, 1) := by decide +kernel
theorem d_Hmp_copyFrom_49 : decode b_Hmp_copyFrom 49 = .ok (.getfield 21, 3) := by decide +kernel
theorem d_Hmp_copyFrom_52 : decode b_Hmp_copyFrom 52 = .ok (.iconst 0, 1) := by decide +kernel
theorem d_Hmp_copyFrom_53 : decode b_Hmp_copyFrom 53 = .ok (.bipush 12, 2) := by decide +kernel
theorem d_Hmp_copyFrom_55 : decode b_Hmp_copyFrom 55 = .ok (.invokestatic 30, 3) := by decide +kernel
theorem d_Hmp_copyFrom_58 : decode b_Hmp_copyFrom 58 = .ok (.aload_n 1, 1) := by decide +kernel
theorem d_Hmp_copyFrom_59 : decode b_Hmp_copyFrom 59 = .ok (.getfield 24, 3) := by decide +kernel
theorem d_Hmp_copyFrom_62 : decode b_Hmp_copyFrom 62 = .ok (.iconst 0, 1) := by decide +kernel
theorem d_Hmp_copyFrom_63 : decode b_Hmp_copyFrom 63 = .ok (.aload_n 0, 1) := by decide +kernel
theorem d_Hmp_copyFrom_64 : decode b_Hmp_copyFrom 64 = .ok (.getfield 24, 3) := by decide +kernel
theorem d_Hmp_copyFrom_67 : decode b_Hmp_copyFrom 67 = .ok (.iconst 0, 1) := by decide +kernel
theorem d_Hmp_copyFrom_68 : decode b_Hmp_copyFrom 68 = .ok (.bipush 12, 2) := by decide +kernel
theorem d_Hmp_copyFrom_70 : decode b_Hmp_copyFrom 70 = .ok (.invokestatic 30, 3) := by decide +kernel
theorem d_Hmp_copyFrom_73 : decode b_Hmp_copyFrom 73 = .ok (.return_, 1) := by decide +kernel
theorem d_Hmp_hasOneKept_0 : decode b_Hmp_hasOneKept 0 = .ok (.aload_n 0, 1) := by decide +kernel
theorem d_Hmp_hasOneKept_1 : decode b_Hmp_hasOneKept 1 = .ok (.getfield 18, 3) := by decide +kernel
theorem d_Hmp_hasOneKept_4 : decode b_Hmp_hasOneKept 4 = .ok (.iload_n 1, 1) := by decide +kernel
theorem d_Hmp_hasOneKept_5 : decode b_Hmp_hasOneKept 5 = .ok (.iaload, 1) := by decide +kernel
theorem d_Hmp_hasOneKept_6 : decode b_Hmp_hasOneKept 6 = .ok (.bipush (-9), 2) := by decide +kernel
theorem d_Hmp_hasOneKept_8 : decode b_Hmp_hasOneKept 8 = .ok (.if_icmp .eq 16, 3) := by decide +kernel
theorem d_Hmp_hasOneKept_11 : decode b_Hmp_hasOneKept 11 = .ok (.aload_n 0, 1) := by decide +kernel
theorem d_Hmp_hasOneKept_12 : decode b_Hmp_hasOneKept 12 = .ok (.getfield 21, 3) := by decide +kernel
theorem d_Hmp_hasOneKept_15 : decode b_Hmp_hasOneKept 15 = .ok (.iload_n 1, 1) := by decide +kernel
theorem d_Hmp_hasOneKept_16 : decode b_Hmp_hasOneKept 16 = .ok (.iaload, 1) := by decide +kernel
theorem d_Hmp_hasOneKept_17 : decode b_Hmp_hasOneKept 17 = .ok (.ifCond .ne 7, 3) := by decide +kernel
theorem d_Hmp_hasOneKept_20 : decode b_Hmp_hasOneKept 20 = .ok (.iconst 1, 1) := by decide +kernel
theorem d_Hmp_hasOneKept_21 : decode b_Hmp_hasOneKept 21 = .ok (.goto 4, 3) := by decide +kernel
theorem d_Hmp_hasOneKept_24 : decode b_Hmp_hasOneKept 24 = .ok (.iconst 0, 1) := by decide +kernel
theorem d_Hmp_hasOneKept_25 : decode b_Hmp_hasOneKept 25 = .ok (.ireturn, 1) := by decide +kernel
theorem d_Hmp_keptOf_0 : decode b_Hmp_keptOf 0 = .ok (.iconst 0, 1) := by decide +kernel
theorem d_Hmp_keptOf_1 : decode b_Hmp_keptOf 1 = .ok (.istore_n 2, 1) := by decide +kernel
theorem d_Hmp_keptOf_2 : decode b_Hmp_keptOf 2 = .ok (.iconst 0, 1) := by decide +kernel
theorem d_Hmp_keptOf_3 : decode b_Hmp_keptOf 3 = .ok (.istore_n 3, 1) := by decide +kernel
theorem d_Hmp_keptOf_4 : decode b_Hmp_keptOf 4 = .ok (.iload_n 3, 1) := by decide +kernel
theorem d_Hmp_keptOf_5 : decode b_Hmp_keptOf 5 = .ok (.bipush 12, 2) := by decide +kernel
theorem d_Hmp_keptOf_7 : decode b_Hmp_keptOf 7 = .ok (.if_icmp .ge 36, 3) := by decide +kernel
theorem d_Hmp_keptOf_10 : decode b_Hmp_keptOf 10 = .ok (.iload_n 2, 1) := by decide +kernel
theorem d_Hmp_keptOf_11 : decode b_Hmp_keptOf 11 = .ok (.aload_n 0, 1) := by decide +kernel
theorem d_Hmp_keptOf_12 : decode b_Hmp_keptOf 12 = .ok (.getfield 18, 3) := by decide +kernel
theorem d_Hmp_keptOf_15 : decode b_Hmp_keptOf 15 = .ok (.iload_n 3, 1) := by decide +kernel
theorem d_Hmp_keptOf_16 : decode b_Hmp_keptOf 16 = .ok (.iaload, 1) := by decide +kernel
theorem d_Hmp_keptOf_17 : decode b_Hmp_keptOf 17 = .ok (.iload_n 1, 1) := by decide +kernel
theorem d_Hmp_keptOf_18 : decode b_Hmp_keptOf 18 = .ok (.if_icmp .ne 16, 3) := by decide +kernel
theorem d_Hmp_keptOf_21 : decode b_Hmp_keptOf 21 = .ok (.aload_n 0, 1) := by decide +kernel
theorem d_Hmp_keptOf_22 : decode b_Hmp_keptOf 22 = .ok (.getfield 21, 3) := by decide +kernel
theorem d_Hmp_keptOf_25 : decode b_Hmp_keptOf 25 = .ok (.iload_n 3, 1) := by decide +kernel
theorem d_Hmp_keptOf_26 : decode b_Hmp_keptOf 26 = .ok (.iaload, 1) := by decide +kernel
theorem d_Hmp_keptOf_27 : decode b_Hmp_keptOf 27 = .ok (.ifCond .ne 7, 3) := by decide +kernel
theorem d_Hmp_keptOf_30 : decode b_Hmp_keptOf 30 = .ok (.iconst 1, 1) := by decide +kernel
theorem d_Hmp_keptOf_31 : decode b_Hmp_keptOf 31 = .ok (.goto 4, 3) := by decide +kernel
theorem d_Hmp_keptOf_34 : decode b_Hmp_keptOf 34 = .ok (.iconst 0, 1) := by decide +kernel
theorem d_Hmp_keptOf_35 : decode b_Hmp_keptOf 35 = .ok (.iadd, 1) := by decide +kernel
theorem d_Hmp_keptOf_36 : decode b_Hmp_keptOf 36 = .ok (.istore_n 2, 1) := by decide +kernel
theorem d_Hmp_keptOf_37 : decode b_Hmp_keptOf 37 = .ok (.iinc 3 1, 3) := by decide +kernel
theorem d_Hmp_keptOf_40 : decode b_Hmp_keptOf 40 = .ok (.goto (-36), 3) := by decide +kernel
theorem d_Hmp_keptOf_43 : decode b_Hmp_keptOf 43 = .ok (.iload_n 2, 1) := by decide +kernel
theorem d_Hmp_keptOf_44 : decode b_Hmp_keptOf 44 = .ok (.ireturn, 1) := by decide +kernel
theorem d_Hmp_rowLength_0 : decode b_Hmp_rowLength 0 = .ok (.iconst 0, 1) := by decide +kernel
theorem d_Hmp_rowLength_1 : decode b_Hmp_rowLength 1 = .ok (.istore_n 2, 1) := by decide +kernel
theorem d_Hmp_rowLength_2 : decode b_Hmp_rowLength 2 = .ok (.iconst 0, 1) := by decide +kernel
theorem d_Hmp_rowLength_3 : decode b_Hmp_rowLength 3 = .ok (.istore_n 3, 1) := by decide +kernel
theorem d_Hmp_rowLength_4 : decode b_Hmp_rowLength 4 = .ok (.iload_n 3, 1) := by decide +kernel
theorem d_Hmp_rowLength_5 : decode b_Hmp_rowLength 5 = .ok (.bipush 12, 2) := by decide +kernel
theorem d_Hmp_rowLength_7 : decode b_Hmp_rowLength 7 = .ok (.if_icmp .ge 36, 3) := by decide +kernel
theorem d_Hmp_rowLength_10 : decode b_Hmp_rowLength 10 = .ok (.iload_n 2, 1) := by decide +kernel
theorem d_Hmp_rowLength_11 : decode b_Hmp_rowLength 11 = .ok (.aload_n 0, 1) := by decide +kernel
theorem d_Hmp_rowLength_12 : decode b_Hmp_rowLength 12 = .ok (.getfield 18, 3) := by decide +kernel
theorem d_Hmp_rowLength_15 : decode b_Hmp_rowLength 15 = .ok (.iload_n 3, 1) := by decide +kernel
theorem d_Hmp_rowLength_16 : decode b_Hmp_rowLength 16 = .ok (.iaload, 1) := by decide +kernel
theorem d_Hmp_rowLength_17 : decode b_Hmp_rowLength 17 = .ok (.iload_n 1, 1) := by decide +kernel
theorem d_Hmp_rowLength_18 : decode b_Hmp_rowLength 18 = .ok (.if_icmp .ne 16, 3) := by decide +kernel
theorem d_Hmp_rowLength_21 : decode b_Hmp_rowLength 21 = .ok (.aload_n 0, 1) := by decide +kernel
theorem d_Hmp_rowLength_22 : decode b_Hmp_rowLength 22 = .ok (.getfield 21, 3) := by decide +kernel
theorem d_Hmp_rowLength_25 : decode b_Hmp_rowLength 25 = .ok (.iload_n 3, 1) := by decide +kernel
theorem d_Hmp_rowLength_26 : decode b_Hmp_rowLength 26 = .ok (.iaload, 1) := by decide +kernel
theorem d_Hmp_rowLength_27 : decode b_Hmp_rowLength 27 = .ok (.ifCond .le 7, 3) := by decide +kernel
theorem d_Hmp_rowLength_30 : decode b_Hmp_rowLength 30 = .ok (.iconst 1, 1) := by decide +kernel
theorem d_Hmp_rowLength_31 : decode b_Hmp_rowLength 31 = .ok (.goto 4, 3) := by decide +kernel
theorem d_Hmp_rowLength_34 : decode b_Hmp_rowLength 34 = .ok (.iconst 0, 1) := by decide +kernel
theorem d_Hmp_rowLength_35 : decode b_Hmp_rowLength 35 = .ok (.iadd, 1) := by decide +kernel
theorem d_Hmp_rowLength_36 : decode b_Hmp_rowLength 36 = .ok (.istore_n 2, 1) := by decide +kernel
theorem d_Hmp_rowLength_37 : decode b_Hmp_rowLength 37 = .ok (.iinc 3 1, 3) := by decide +kernel
theorem d_Hmp_rowLength_40 : decode b_Hmp_rowLength 40 = .ok (.goto (-36), 3) := by decide +kernel
theorem d_Hmp_rowLength_43 : decode b_Hmp_rowLength 43 = .ok (.iload_n 2, 1) := by decide +kernel
theorem d_Hmp_rowLength_44 : decode b_Hmp_rowLength 44 = .ok (.ireturn, 1) := by decide +kernel
theorem d_Hmp_memberInRow_0 : decode b_Hmp_memberInRow 0 = .ok (.iconst 0, 1) := by decide +kernel
theorem d_Hmp_memberInRow_1 : decode b_Hmp_memberInRow 1 = .ok (.istore_n 3, 1) := by decide +kernel
theorem d_Hmp_memberInRow_2 : decode b_Hmp_memberInRow 2 = .ok (.iload_n 3, 1) := by decide +kernel
theorem d_Hmp_memberInRow_3 : decode b_Hmp_memberInRow 3 = .ok (.bipush 12, 2) := by decide +kernel
theorem d_Hmp_memberInRow_5 : decode b_Hmp_memberInRow 5 = .ok (.if_icmp .ge 42, 3) := by decide +kernel
theorem d_Hmp_memberInRow_8 : decode b_Hmp_memberInRow 8 = .ok (.aload_n 0, 1) := by decide +kernel
theorem d_Hmp_memberInRow_9 : decode b_Hmp_memberInRow 9 = .ok (.getfield 18, 3) := by decide +kernel
theorem d_Hmp_memberInRow_12 : decode b_Hmp_memberInRow 12 = .ok (.iload_n 3, 1) := by decide +kernel
theorem d_Hmp_memberInRow_13 : decode b_Hmp_memberInRow 13 = .ok (.iaload, 1) := by decide +kernel
theorem d_Hmp_memberInRow_14 : decode b_Hmp_memberInRow 14 = .ok (.iload_n 1, 1) := by decide +kernel
theorem d_Hmp_memberInRow_15 : decode b_Hmp_memberInRow 15 = .ok (.if_icmp .ne 26, 3) := by decide +kernel
theorem d_Hmp_memberInRow_18 : decode b_Hmp_memberInRow 18 = .ok (.aload_n 0, 1) := by decide +kernel
theorem d_Hmp_memberInRow_19 : decode b_Hmp_memberInRow 19 = .ok (.getfield 21, 3) := by decide +kernel
theorem d_Hmp_memberInRow_22 : decode b_Hmp_memberInRow 22 = .ok (.iload_n 3, 1) := by decide +kernel
theorem d_Hmp_memberInRow_23 : decode b_Hmp_memberInRow 23 = .ok (.iaload, 1) := by decide +kernel
theorem d_Hmp_memberInRow_24 : decode b_Hmp_memberInRow 24 = .ok (.ifCond .le 17, 3) := by decide +kernel
theorem d_Hmp_memberInRow_27 : decode b_Hmp_memberInRow 27 = .ok (.aload_n 0, 1) := by decide +kernel
theorem d_Hmp_memberInRow_28 : decode b_Hmp_memberInRow 28 = .ok (.getfield 21, 3) := by decide +kernel
theorem d_Hmp_memberInRow_31 : decode b_Hmp_memberInRow 31 = .ok (.iload_n 3, 1) := by decide +kernel
theorem d_Hmp_memberInRow_32 : decode b_Hmp_memberInRow 32 = .ok (.iaload, 1) := by decide +kernel
theorem d_Hmp_memberInRow_33 : decode b_Hmp_memberInRow 33 = .ok (.iconst 1, 1) := by decide +kernel
theorem d_Hmp_memberInRow_34 : decode b_Hmp_memberInRow 34 = .ok (.isub, 1) := by decide +kernel
theorem d_Hmp_memberInRow_35 : decode b_Hmp_memberInRow 35 = .ok (.iload_n 2, 1) := by decide +kernel
theorem d_Hmp_memberInRow_36 : decode b_Hmp_memberInRow 36 = .ok (.if_icmp .ne 5, 3) := by decide +kernel
theorem d_Hmp_memberInRow_39 : decode b_Hmp_memberInRow 39 = .ok (.iload_n 3, 1) := by decide +kernel
theorem d_Hmp_memberInRow_40 : decode b_Hmp_memberInRow 40 = .ok (.ireturn, 1) := by decide +kernel
theorem d_Hmp_memberInRow_41 : decode b_Hmp_memberInRow 41 = .ok (.iinc 3 1, 3) := by decide +kernel
theorem d_Hmp_memberInRow_44 : decode b_Hmp_memberInRow 44 = .ok (.goto (-42), 3) := by decide +kernel
theorem d_Hmp_memberInRow_47 : decode b_Hmp_memberInRow 47 = .ok (.bipush (-9), 2) := by decide +kernel
theorem d_Hmp_memberInRow_49 : decode b_Hmp_memberInRow 49 = .ok (.ireturn, 1) := by decide +kernel
theorem d_Hmp_tell_0 : decode b_Hmp_tell 0 = .ok (.iload_n 1, 1) := by decide +kernel
theorem d_Hmp_tell_1 : decode b_Hmp_tell 1 = .ok (.invokestatic 45, 3) := by decide +kernel
theorem d_Hmp_tell_4 : decode b_Hmp_tell 4 = .ok (.ifCond .ne 5, 3) := by decide +kernel
theorem d_Hmp_tell_7 : decode b_Hmp_tell 7 = .ok (.iconst (-1), 1) := by decide +kernel
theorem d_Hmp_tell_8 : decode b_Hmp_tell 8 = .ok (.ireturn, 1) := by decide +kernel
theorem d_Hmp_tell_9 : decode b_Hmp_tell 9 = .ok (.iload_n 2, 1) := by decide +kernel
theorem d_Hmp_tell_10 : decode b_Hmp_tell 10 = .ok (.tableswitch 56 0 3 #[30, 37, 44, 50], 30) := by decide +kernel
theorem d_Hmp_tell_40 : decode b_Hmp_tell 40 = .ok (.aload_n 0, 1) := by decide +kernel
theorem d_Hmp_tell_41 : decode b_Hmp_tell 41 = .ok (.getfield 9, 3) := by decide +kernel
theorem d_Hmp_tell_44 : decode b_Hmp_tell 44 = .ok (.iload_n 1, 1) := by decide +kernel
theorem d_Hmp_tell_45 : decode b_Hmp_tell 45 = .ok (.iaload, 1) := by decide +kernel
theorem d_Hmp_tell_46 : decode b_Hmp_tell 46 = .ok (.ireturn, 1) := by decide +kernel
theorem d_Hmp_tell_47 : decode b_Hmp_tell 47 = .ok (.aload_n 0, 1) := by decide +kernel
theorem d_Hmp_tell_48 : decode b_Hmp_tell 48 = .ok (.getfield 15, 3) := by decide +kernel
theorem d_Hmp_tell_51 : decode b_Hmp_tell 51 = .ok (.iload_n 1, 1) := by decide +kernel
theorem d_Hmp_tell_52 : decode b_Hmp_tell 52 = .ok (.iaload, 1) := by decide +kernel
theorem d_Hmp_tell_53 : decode b_Hmp_tell 53 = .ok (.ireturn, 1) := by decide +kernel
theorem d_Hmp_tell_54 : decode b_Hmp_tell 54 = .ok (.aload_n 0, 1) := by decide +kernel
theorem d_Hmp_tell_55 : decode b_Hmp_tell 55 = .ok (.iload_n 1, 1) := by decide +kernel
theorem d_Hmp_tell_56 : decode b_Hmp_tell 56 = .ok (.invokevirtual 49, 3) := by decide +kernel
theorem d_Hmp_tell_59 : decode b_Hmp_tell 59 = .ok (.ireturn, 1) := by decide +kernel
theorem d_Hmp_tell_60 : decode b_Hmp_tell 60 = .ok (.aload_n 0, 1) := by decide +kernel
theorem d_Hmp_tell_61 : decode b_Hmp_tell 61 = .ok (.iload_n 1, 1) := by decide +kernel
theorem d_Hmp_tell_62 : decode b_Hmp_tell 62 = .ok (.invokevirtual 53, 3) := by decide +kernel
theorem d_Hmp_tell_65 : decode b_Hmp_tell 65 = .ok (.ireturn, 1) := by decide +kernel
theorem d_Hmp_tell_66 : decode b_Hmp_tell 66 = .ok (.iconst (-1), 1) := by decide +kernel
theorem d_Hmp_tell_67 : decode b_Hmp_tell 67 = .ok (.ireturn, 1) := by decide +kernel
theorem d_Hmp_put_0 : decode b_Hmp_put 0 = .ok (.iconst 0, 1) := by decide +kernel
theorem d_Hmp_put_1 : decode b_Hmp_put 1 = .ok (.istore_n 3, 1) := by decide +kernel
theorem d_Hmp_put_2 : decode b_Hmp_put 2 = .ok (.aload_n 0, 1) := by decide +kernel
theorem d_Hmp_put_3 : decode b_Hmp_put 3 = .ok (.getfield 15, 3) := by decide +kernel
theorem d_Hmp_put_6 : decode b_Hmp_put 6 = .ok (.iload_n 2, 1) := by decide +kernel
theorem d_Hmp_put_7 : decode b_Hmp_put 7 = .ok (.iaload, 1) := by decide +kernel
theorem d_Hmp_put_8 : decode b_Hmp_put 8 = .ok (.ifCond .le 16, 3) := by decide +kernel
theorem d_Hmp_put_11 : decode b_Hmp_put 11 = .ok (.aload_n 0, 1) := by decide +kernel
theorem d_Hmp_put_12 : decode b_Hmp_put 12 = .ok (.getfield 15, 3) := by decide +kernel
theorem d_Hmp_put_15 : decode b_Hmp_put 15 = .ok (.iload_n 2, 1) := by decide +kernel
theorem d_Hmp_put_16 : decode b_Hmp_put 16 = .ok (.dup2, 1) := by decide +kernel
theorem d_Hmp_put_17 : decode b_Hmp_put 17 = .ok (.iaload, 1) := by decide +kernel
theorem d_Hmp_put_18 : decode b_Hmp_put 18 = .ok (.iconst 1, 1) := by decide +kernel
theorem d_Hmp_put_19 : decode b_Hmp_put 19 = .ok (.isub, 1) := by decide +kernel
theorem d_Hmp_put_20 : decode b_Hmp_put 20 = .ok (.iastore, 1) := by decide +kernel
theorem d_Hmp_put_21 : decode b_Hmp_put 21 = .ok (.goto 11, 3) := by decide +kernel
theorem d_Hmp_put_24 : decode b_Hmp_put 24 = .ok (.aload_n 0, 1) := by decide +kernel
theorem d_Hmp_put_25 : decode b_Hmp_put 25 = .ok (.iload_n 2, 1) := by decide +kernel
theorem d_Hmp_put_26 : decode b_Hmp_put 26 = .ok (.invokevirtual 53, 3) := by decide +kernel
theorem d_Hmp_put_29 : decode b_Hmp_put 29 = .ok (.iconst 1, 1) := by decide +kernel
theorem d_Hmp_put_30 : decode b_Hmp_put 30 = .ok (.iadd, 1) := by decide +kernel
theorem d_Hmp_put_31 : decode b_Hmp_put 31 = .ok (.istore_n 3, 1) := by decide +kernel
theorem d_Hmp_put_32 : decode b_Hmp_put 32 = .ok (.aload_n 0, 1) := by decide +kernel
theorem d_Hmp_put_33 : decode b_Hmp_put 33 = .ok (.getfield 18, 3) := by decide +kernel
theorem d_Hmp_put_36 : decode b_Hmp_put 36 = .ok (.iload_n 1, 1) := by decide +kernel
theorem d_Hmp_put_37 : decode b_Hmp_put 37 = .ok (.iload_n 2, 1) := by decide +kernel
theorem d_Hmp_put_38 : decode b_Hmp_put 38 = .ok (.iastore, 1) := by decide +kernel
theorem d_Hmp_put_39 : decode b_Hmp_put 39 = .ok (.aload_n 0, 1) := by decide +kernel
theorem d_Hmp_put_40 : decode b_Hmp_put 40 = .ok (.getfield 21, 3) := by decide +kernel
theorem d_Hmp_put_43 : decode b_Hmp_put 43 = .ok (.iload_n 1, 1) := by decide +kernel
theorem d_Hmp_put_44 : decode b_Hmp_put 44 = .ok (.iload_n 3, 1) := by decide +kernel
theorem d_Hmp_put_45 : decode b_Hmp_put 45 = .ok (.iastore, 1) := by decide +kernel
theorem d_Hmp_put_46 : decode b_Hmp_put 46 = .ok (.iload_n 3, 1) := by decide +kernel
theorem d_Hmp_put_47 : decode b_Hmp_put 47 = .ok (.ireturn, 1) := by decide +kernel
theorem d_Hmp_drop_0 : decode b_Hmp_drop 0 = .ok (.aload_n 0, 1) := by decide +kernel
theorem d_Hmp_drop_1 : decode b_Hmp_drop 1 = .ok (.getfield 21, 3) := by decide +kernel
theorem d_Hmp_drop_4 : decode b_Hmp_drop 4 = .ok (.iload_n 1, 1) := by decide +kernel
theorem d_Hmp_drop_5 : decode b_Hmp_drop 5 = .ok (.iaload, 1) := by decide +kernel
theorem d_Hmp_drop_6 : decode b_Hmp_drop 6 = .ok (.istore_n 3, 1) := by decide +kernel
theorem d_Hmp_drop_7 : decode b_Hmp_drop 7 = .ok (.iload_n 3, 1) := by decide +kernel
theorem d_Hmp_drop_8 : decode b_Hmp_drop 8 = .ok (.ifCond .ne 12, 3) := by decide +kernel
theorem d_Hmp_drop_11 : decode b_Hmp_drop 11 = .ok (.aload_n 0, 1) := by decide +kernel
theorem d_Hmp_drop_12 : decode b_Hmp_drop 12 = .ok (.iload_n 2, 1) := by decide +kernel
theorem d_Hmp_drop_13 : decode b_Hmp_drop 13 = .ok (.iconst 0, 1) := by decide +kernel
theorem d_Hmp_drop_14 : decode b_Hmp_drop 14 = .ok (.invokevirtual 56, 3) := by decide +kernel
theorem d_Hmp_drop_17 : decode b_Hmp_drop 17 = .ok (.goto 5, 3) := by decide +kernel
theorem d_Hmp_drop_20 : decode b_Hmp_drop 20 = .ok (.bipush (-9), 2) := by decide +kernel
theorem d_Hmp_drop_22 : decode b_Hmp_drop 22 = .ok (.istore 4, 2) := by decide +kernel
theorem d_Hmp_drop_24 : decode b_Hmp_drop 24 = .ok (.aload_n 0, 1) := by decide +kernel
theorem d_Hmp_drop_25 : decode b_Hmp_drop 25 = .ok (.getfield 18, 3) := by decide +kernel
theorem d_Hmp_drop_28 : decode b_Hmp_drop 28 = .ok (.iload_n 1, 1) := by decide +kernel
theorem d_Hmp_drop_29 : decode b_Hmp_drop 29 = .ok (.bipush (-9), 2) := by decide +kernel
theorem d_Hmp_drop_31 : decode b_Hmp_drop 31 = .ok (.iastore, 1) := by decide +kernel
theorem d_Hmp_drop_32 : decode b_Hmp_drop 32 = .ok (.aload_n 0, 1) := by decide +kernel
theorem d_Hmp_drop_33 : decode b_Hmp_drop 33 = .ok (.getfield 21, 3) := by decide +kernel
theorem d_Hmp_drop_36 : decode b_Hmp_drop 36 = .ok (.iload_n 1, 1) := by decide +kernel
theorem d_Hmp_drop_37 : decode b_Hmp_drop 37 = .ok (.iconst 0, 1) := by decide +kernel
theorem d_Hmp_drop_38 : decode b_Hmp_drop 38 = .ok (.iastore, 1) := by decide +kernel
theorem d_Hmp_drop_39 : decode b_Hmp_drop 39 = .ok (.iconst 0, 1) := by decide +kernel
theorem d_Hmp_drop_40 : decode b_Hmp_drop 40 = .ok (.istore 5, 2) := by decide +kernel
theorem d_Hmp_drop_42 : decode b_Hmp_drop 42 = .ok (.iload 5, 2) := by decide +kernel
theorem d_Hmp_drop_44 : decode b_Hmp_drop 44 = .ok (.bipush 12, 2) := by decide +kernel
theorem d_Hmp_drop_46 : decode b_Hmp_drop 46 = .ok (.if_icmp .ge 42, 3) := by decide +kernel
theorem d_Hmp_drop_49 : decode b_Hmp_drop 49 = .ok (.aload_n 0, 1) := by decide +kernel
theorem d_Hmp_drop_50 : decode b_Hmp_drop 50 = .ok (.getfield 18, 3) := by decide +kernel
theorem d_Hmp_drop_53 : decode b_Hmp_drop 53 = .ok (.iload 5, 2) := by decide +kernel
theorem d_Hmp_drop_55 : decode b_Hmp_drop 55 = .ok (.iaload, 1) := by decide +kernel
theorem d_Hmp_drop_56 : decode b_Hmp_drop 56 = .ok (.iload_n 2, 1) := by decide +kernel
theorem d_Hmp_drop_57 : decode b_Hmp_drop 57 = .ok (.if_icmp .ne 25, 3) := by decide +kernel
theorem d_Hmp_drop_60 : decode b_Hmp_drop 60 = .ok (.aload_n 0, 1) := by decide +kernel
theorem d_Hmp_drop_61 : decode b_Hmp_drop 61 = .ok (.getfield 21, 3) := by decide +kernel
theorem d_Hmp_drop_64 : decode b_Hmp_drop 64 = .ok (.iload 5, 2) := by decide +kernel
theorem d_Hmp_drop_66 : decode b_Hmp_drop 66 = .ok (.iaload, 1) := by decide +kernel
theorem d_Hmp_drop_67 : decode b_Hmp_drop 67 = .ok (.iload_n 3, 1) := by decide +kernel
theorem d_Hmp_drop_68 : decode b_Hmp_drop 68 = .ok (.if_icmp .le 14, 3) := by decide +kernel
theorem d_Hmp_drop_71 : decode b_Hmp_drop 71 = .ok (.aload_n 0, 1) := by decide +kernel
theorem d_Hmp_drop_72 : decode b_Hmp_drop 72 = .ok (.getfield 21, 3) := by decide +kernel
theorem d_Hmp_drop_75 : decode b_Hmp_drop 75 = .ok (.iload 5, 2) := by decide +kernel
theorem d_Hmp_drop_77 : decode b_Hmp_drop 77 = .ok (.dup2, 1) := by decide +kernel
theorem d_Hmp_drop_78 : decode b_Hmp_drop 78 = .ok (.iaload, 1) := by decide +kernel
theorem d_Hmp_drop_79 : decode b_Hmp_drop 79 = .ok (.iconst 1, 1) := by decide +kernel
theorem d_Hmp_drop_80 : decode b_Hmp_drop 80 = .ok (.isub, 1) := by decide +kernel
theorem d_Hmp_drop_81 : decode b_Hmp_drop 81 = .ok (.iastore, 1) := by decide +kernel
theorem d_Hmp_drop_82 : decode b_Hmp_drop 82 = .ok (.iinc 5 1, 3) := by decide +kernel
theorem d_Hmp_drop_85 : decode b_Hmp_drop 85 = .ok (.goto (-43), 3) := by decide +kernel
theorem d_Hmp_drop_88 : decode b_Hmp_drop 88 = .ok (.iload_n 3, 1) := by decide +kernel
theorem d_Hmp_drop_89 : decode b_Hmp_drop 89 = .ok (.ifCond .ne 20, 3) := by decide +kernel
theorem d_Hmp_drop_92 : decode b_Hmp_drop 92 = .ok (.iload 4, 2) := by decide +kernel
theorem d_Hmp_drop_94 : decode b_Hmp_drop 94 = .ok (.bipush (-9), 2) := by decide +kernel
theorem d_Hmp_drop_96 : decode b_Hmp_drop 96 = .ok (.if_icmp .ne 13, 3) := by decide +kernel
theorem d_Hmp_drop_99 : decode b_Hmp_drop 99 = .ok (.aload_n 0, 1) := by decide +kernel
theorem d_Hmp_drop_100 : decode b_Hmp_drop 100 = .ok (.getfield 15, 3) := by decide +kernel
theorem d_Hmp_drop_103 : decode b_Hmp_drop 103 = .ok (.iload_n 2, 1) := by decide +kernel
theorem d_Hmp_drop_104 : decode b_Hmp_drop 104 = .ok (.dup2, 1) := by decide +kernel
theorem d_Hmp_drop_105 : decode b_Hmp_drop 105 = .ok (.iaload, 1) := by decide +kernel
theorem d_Hmp_drop_106 : decode b_Hmp_drop 106 = .ok (.iconst 1, 1) := by decide +kernel
theorem d_Hmp_drop_107 : decode b_Hmp_drop 107 = .ok (.iadd, 1) := by decide +kernel
theorem d_Hmp_drop_108 : decode b_Hmp_drop 108 = .ok (.iastore, 1) := by decide +kernel
theorem d_Hmp_drop_109 : decode b_Hmp_drop 109 = .ok (.iload 4, 2) := by decide +kernel
theorem d_Hmp_drop_111 : decode b_Hmp_drop 111 = .ok (.ireturn, 1) := by decide +kernel
theorem d_Hmp_handOut_0 : decode b_Hmp_handOut 0 = .ok (.aload_n 0, 1) := by decide +kernel
theorem d_Hmp_handOut_1 : decode b_Hmp_handOut 1 = .ok (.getfield 24, 3) := by decide +kernel
theorem d_Hmp_handOut_4 : decode b_Hmp_handOut 4 = .ok (.iload_n 1, 1) := by decide +kernel
theorem d_Hmp_handOut_5 : decode b_Hmp_handOut 5 = .ok (.iload_n 2, 1) := by decide +kernel
theorem d_Hmp_handOut_6 : decode b_Hmp_handOut 6 = .ok (.iastore, 1) := by decide +kernel
theorem d_Hmp_handOut_7 : decode b_Hmp_handOut 7 = .ok (.aload_n 0, 1) := by decide +kernel
theorem d_Hmp_handOut_8 : decode b_Hmp_handOut 8 = .ok (.getfield 18, 3) := by decide +kernel
theorem d_Hmp_handOut_11 : decode b_Hmp_handOut 11 = .ok (.iload_n 1, 1) := by decide +kernel
theorem d_Hmp_handOut_12 : decode b_Hmp_handOut 12 = .ok (.bipush (-9), 2) := by decide +kernel
theorem d_Hmp_handOut_14 : decode b_Hmp_handOut 14 = .ok (.iastore, 1) := by decide +kernel
theorem d_Hmp_handOut_15 : decode b_Hmp_handOut 15 = .ok (.return_, 1) := by decide +kernel
theorem d_Hmp_forgetChoices_0 : decode b_Hmp_forgetChoices 0 = .ok (.aload_n 0, 1) := by decide +kernel
theorem d_Hmp_forgetChoices_1 : decode b_Hmp_forgetChoices 1 = .ok (.getfield 18, 3) := by decide +kernel
theorem d_Hmp_forgetChoices_4 : decode b_Hmp_forgetChoices 4 = .ok (.bipush (-9), 2) := by decide +kernel
theorem d_Hmp_forgetChoices_6 : decode b_Hmp_forgetChoices 6 = .ok (.invokestatic 39, 3) := by decide +kernel
theorem d_Hmp_forgetChoices_9 : decode b_Hmp_forgetChoices 9 = .ok (.aload_n 0, 1) := by decide +kernel
theorem d_Hmp_forgetChoices_10 : decode b_Hmp_forgetChoices 10 = .ok (.getfield 21, 3) := by decide +kernel
theorem d_Hmp_forgetChoices_13 : decode b_Hmp_forgetChoices 13 = .ok (.iconst 0, 1) := by decide +kernel
theorem d_Hmp_forgetChoices_14 : decode b_Hmp_forgetChoices 14 = .ok (.invokestatic 39, 3) := by decide +kernel
theorem d_Hmp_forgetChoices_17 : decode b_Hmp_forgetChoices 17 = .ok (.return_, 1) := by decide +kernel
theorem d_His_init_0 : decode b_His_init 0 = .ok (.aload_n 0, 1) := by decide +kernel
theorem d_His_init_1 : decode b_His_init 1 = .ok (.invokespecial 3, 3) := by decide +kernel
theorem d_His_init_4 : decode b_His_init 4 = .ok (.aload_n 0, 1) := by decide +kernel
theorem d_His_init_5 : decode b_His_init 5 = .ok (.bipush 6, 2) := by decide +kernel
theorem d_His_init_7 : decode b_His_init 7 = .ok (.anewarray 11, 3) := by decide +kernel
theorem d_His_init_10 : decode b_His_init 10 = .ok (.putfield 13, 3) := by decide +kernel
theorem d_His_init_13 : decode b_His_init 13 = .ok (.iconst 0, 1) := by decide +kernel
theorem d_His_init_14 : decode b_His_init 14 = .ok (.istore_n 1, 1) := by decide +kernel
theorem d_His_init_15 : decode b_His_init 15 = .ok (.iload_n 1, 1) := by decide +kernel
theorem d_His_init_16 : decode b_His_init 16 = .ok (.bipush 6, 2) := by decide +kernel
theorem d_His_init_18 : decode b_His_init 18 = .ok (.if_icmp .ge 22, 3) := by decide +kernel
theorem d_His_init_21 : decode b_His_init 21 = .ok (.aload_n 0, 1) := by decide +kernel
theorem d_His_init_22 : decode b_His_init 22 = .ok (.getfield 13, 3) := by decide +kernel
theorem d_His_init_25 : decode b_His_init 25 = .ok (.iload_n 1, 1) := by decide +kernel
theorem d_His_init_26 : decode b_His_init 26 = .ok (.new 11, 3) := by decide +kernel
theorem d_His_init_29 : decode b_His_init 29 = .ok (.dup, 1) := by decide +kernel
theorem d_His_init_30 : decode b_His_init 30 = .ok (.invokespecial 17, 3) := by decide +kernel
theorem d_His_init_33 : decode b_His_init 33 = .ok (.aastore, 1) := by decide +kernel
theorem d_His_init_34 : decode b_His_init 34 = .ok (.iinc 1 1, 3) := by decide +kernel
theorem d_His_init_37 : decode b_His_init 37 = .ok (.goto (-22), 3) := by decide +kernel
theorem d_His_init_40 : decode b_His_init 40 = .ok (.return_, 1) := by decide +kernel
theorem d_His_draft_0 : decode b_His_draft 0 = .ok (.aload_n 0, 1) := by decide +kernel
theorem d_His_draft_1 : decode b_His_draft 1 = .ok (.getfield 13, 3) := by decide +kernel
theorem d_His_draft_4 : decode b_His_draft 4 = .ok (.aload_n 0, 1) := by decide +kernel
theorem d_His_draft_5 : decode b_His_draft 5 = .ok (.getfield 18, 3) := by decide +kernel
theorem d_His_draft_8 : decode b_His_draft 8 = .ok (.aaload, 1) := by decide +kernel
theorem d_His_draft_9 : decode b_His_draft 9 = .ok (.astore_n 2, 1) := by decide +kernel
theorem d_His_draft_10 : decode b_His_draft 10 = .ok (.aload_n 2, 1) := by decide +kernel
theorem d_His_draft_11 : decode b_His_draft 11 = .ok (.ifnull 8, 3) := by decide +kernel
theorem d_His_draft_14 : decode b_His_draft 14 = .ok (.aload_n 2, 1) := by decide +kernel
theorem d_His_draft_15 : decode b_His_draft 15 = .ok (.aload_n 1, 1) := by decide +kernel
theorem d_His_draft_16 : decode b_His_draft 16 = .ok (.invokevirtual 22, 3) := by decide +kernel
theorem d_His_draft_19 : decode b_His_draft 19 = .ok (.return_, 1) := by decide +kernel
theorem d_His_keepDraft_0 : decode b_His_keepDraft 0 = .ok (.aload_n 0, 1) := by decide +kernel
theorem d_His_keepDraft_1 : decode b_His_keepDraft 1 = .ok (.aload_n 0, 1) := by decide +kernel
theorem d_His_keepDraft_2 : decode b_His_keepDraft 2 = .ok (.getfield 18, 3) := by decide +kernel
theorem d_His_keepDraft_5 : decode b_His_keepDraft 5 = .ok (.iconst 1, 1) := by decide +kernel
theorem d_His_keepDraft_6 : decode b_His_keepDraft 6 = .ok (.iadd, 1) := by decide +kernel
theorem d_His_keepDraft_7 : decode b_His_keepDraft 7 = .ok (.bipush 6, 2) := by decide +kernel
theorem d_His_keepDraft_9 : decode b_His_keepDraft 9 = .ok (.irem, 1) := by decide +kernel
theorem d_His_keepDraft_10 : decode b_His_keepDraft 10 = .ok (.putfield 18, 3) := by decide +kernel
theorem d_His_keepDraft_13 : decode b_His_keepDraft 13 = .ok (.aload_n 0, 1) := by decide +kernel
theorem d_His_keepDraft_14 : decode b_His_keepDraft 14 = .ok (.aload_n 0, 1) := by decide +kernel
theorem d_His_keepDraft_15 : decode b_His_keepDraft 15 = .ok (.getfield 26, 3) := by decide +kernel
theorem d_His_keepDraft_18 : decode b_His_keepDraft 18 = .ok (.iconst 1, 1) := by decide +kernel
theorem d_His_keepDraft_19 : decode b_His_keepDraft 19 = .ok (.iadd, 1) := by decide +kernel
theorem d_His_keepDraft_20 : decode b_His_keepDraft 20 = .ok (.iconst 5, 1) := by decide +kernel
theorem d_His_keepDraft_21 : decode b_His_keepDraft 21 = .ok (.invokestatic 29, 3) := by decide +kernel
theorem d_His_keepDraft_24 : decode b_His_keepDraft 24 = .ok (.putfield 26, 3) := by decide +kernel
theorem d_His_keepDraft_27 : decode b_His_keepDraft 27 = .ok (.return_, 1) := by decide +kernel
theorem d_His_putBackLatest_0 : decode b_His_putBackLatest 0 = .ok (.aload_n 0, 1) := by decide +kernel
theorem d_His_putBackLatest_1 : decode b_His_putBackLatest 1 = .ok (.getfield 26, 3) := by decide +kernel
theorem d_His_putBackLatest_4 : decode b_His_putBackLatest 4 = .ok (.ifCond .ne 5, 3) := by decide +kernel
theorem d_His_putBackLatest_7 : decode b_His_putBackLatest 7 = .ok (.iconst 0, 1) := by decide +kernel
theorem d_His_putBackLatest_8 : decode b_His_putBackLatest 8 = .ok (.ireturn, 1) := by decide +kernel
theorem d_His_putBackLatest_9 : decode b_His_putBackLatest 9 = .ok (.aload_n 0, 1) := by decide +kernel
theorem d_His_putBackLatest_10 : decode b_His_putBackLatest 10 = .ok (.aload_n 0, 1) := by decide +kernel
theorem d_His_putBackLatest_11 : decode b_His_putBackLatest 11 = .ok (.getfield 18, 3) := by decide +kernel
theorem d_His_putBackLatest_14 : decode b_His_putBackLatest 14 = .ok (.iconst 5, 1) := by decide +kernel
theorem d_His_putBackLatest_15 : decode b_His_putBackLatest 15 = .ok (.iadd, 1) := by decide +kernel
theorem d_His_putBackLatest_16 : decode b_His_putBackLatest 16 = .ok (.bipush 6, 2) := by decide +kernel
theorem d_His_putBackLatest_18 : decode b_His_putBackLatest 18 = .ok (.irem, 1) := by decide +kernel
theorem d_His_putBackLatest_19 : decode b_His_putBackLatest 19 = .ok (.putfield 18, 3) := by decide +kernel
theorem d_His_putBackLatest_22 : decode b_His_putBackLatest 22 = .ok (.aload_n 0, 1) := by decide +kernel
theorem d_His_putBackLatest_23 : decode b_His_putBackLatest 23 = .ok (.dup, 1) := by decide +kernel
theorem d_His_putBackLatest_24 : decode b_His_putBackLatest 24 = .ok (.getfield 26, 3) := by decide +kernel
theorem d_His_putBackLatest_27 : decode b_His_putBackLatest 27 = .ok (.iconst 1, 1) := by decide +kernel
theorem d_His_putBackLatest_28 : decode b_His_putBackLatest 28 = .ok (.isub, 1) := by decide +kernel
theorem d_His_putBackLatest_29 : decode b_His_putBackLatest 29 = .ok (.putfield 26, 3) := by decide +kernel
theorem d_His_putBackLatest_32 : decode b_His_putBackLatest 32 = .ok (.aload_n 0, 1) := by decide +kernel
theorem d_His_putBackLatest_33 : decode b_His_putBackLatest 33 = .ok (.getfield 13, 3) := by decide +kernel
theorem d_His_putBackLatest_36 : decode b_His_putBackLatest 36 = .ok (.aload_n 0, 1) := by decide +kernel
theorem d_His_putBackLatest_37 : decode b_His_putBackLatest 37 = .ok (.getfield 18, 3) := by decide +kernel
theorem d_His_putBackLatest_40 : decode b_His_putBackLatest 40 = .ok (.aaload, 1) := by decide +kernel
theorem d_His_putBackLatest_41 : decode b_His_putBackLatest 41 = .ok (.astore_n 2, 1) := by decide +kernel
theorem d_His_putBackLatest_42 : decode b_His_putBackLatest 42 = .ok (.aload_n 2, 1) := by decide +kernel
theorem d_His_putBackLatest_43 : decode b_His_putBackLatest 43 = .ok (.ifnull 8, 3) := by decide +kernel
theorem d_His_putBackLatest_46 : decode b_His_putBackLatest 46 = .ok (.aload_n 1, 1) := by decide +kernel
theorem d_His_putBackLatest_47 : decode b_His_putBackLatest 47 = .ok (.aload_n 2, 1) := by decide +kernel
theorem d_His_putBackLatest_48 : decode b_His_putBackLatest 48 = .ok (.invokevirtual 22, 3) := by decide +kernel
theorem d_His_putBackLatest_51 : decode b_His_putBackLatest 51 = .ok (.iconst 1, 1) := by decide +kernel
theorem d_His_putBackLatest_52 : decode b_His_putBackLatest 52 = .ok (.ireturn, 1) := by decide +kernel
theorem d_Ord_init_0 : decode b_Ord_init 0 = .ok (.aload_n 0, 1) := by decide +kernel
theorem d_Ord_init_1 : decode b_Ord_init 1 = .ok (.invokespecial 3, 3) := by decide +kernel
theorem d_Ord_init_4 : decode b_Ord_init 4 = .ok (.aload_n 0, 1) := by decide +kernel
theorem d_Ord_init_5 : decode b_Ord_init 5 = .ok (.bipush 100, 2) := by decide +kernel
theorem d_Ord_init_7 : decode b_Ord_init 7 = .ok (.newarray .int, 2) := by decide +kernel
theorem d_Ord_init_9 : decode b_Ord_init 9 = .ok (.putfield 9, 3) := by decide +kernel
theorem d_Ord_init_12 : decode b_Ord_init 12 = .ok (.return_, 1) := by decide +kernel
theorem d_Ord_add_0 : decode b_Ord_add 0 = .ok (.aload_n 0, 1) := by decide +kernel
theorem d_Ord_add_1 : decode b_Ord_add 1 = .ok (.getfield 15, 3) := by decide +kernel
theorem d_Ord_add_4 : decode b_Ord_add 4 = .ok (.bipush 100, 2) := by decide +kernel
theorem d_Ord_add_6 : decode b_Ord_add 6 = .ok (.if_icmp .lt 5, 3) := by decide +kernel
theorem d_Ord_add_9 : decode b_Ord_add 9 = .ok (.iconst 0, 1) := by decide +kernel
theorem d_Ord_add_10 : decode b_Ord_add 10 = .ok (.ireturn, 1) := by decide +kernel
theorem d_Ord_add_11 : decode b_Ord_add 11 = .ok (.aload_n 0, 1) := by decide +kernel
theorem d_Ord_add_12 : decode b_Ord_add 12 = .ok (.getfield 9, 3) := by decide +kernel
theorem d_Ord_add_15 : decode b_Ord_add 15 = .ok (.aload_n 0, 1) := by decide +kernel
theorem d_Ord_add_16 : decode b_Ord_add 16 = .ok (.getfield 15, 3) := by decide +kernel
theorem d_Ord_add_19 : decode b_Ord_add 19 = .ok (.iload_n 1, 1) := by decide +kernel
theorem d_Ord_add_20 : decode b_Ord_add 20 = .ok (.iastore, 1) := by decide +kernel
theorem d_Ord_add_21 : decode b_Ord_add 21 = .ok (.aload_n 0, 1) := by decide +kernel
theorem d_Ord_add_22 : decode b_Ord_add 22 = .ok (.dup, 1) := by decide +kernel
theorem d_Ord_add_23 : decode b_Ord_add 23 = .ok (.getfield 15, 3) := by decide +kernel
theorem d_Ord_add_26 : decode b_Ord_add 26 = .ok (.iconst 1, 1) := by decide +kernel
theorem d_Ord_add_27 : decode b_Ord_add 27 = .ok (.iadd, 1) := by decide +kernel
theorem d_Ord_add_28 : decode b_Ord_add 28 = .ok (.putfield 15, 3) := by decide +kernel
theorem d_Ord_add_31 : decode b_Ord_add 31 = .ok (.iconst 1, 1) := by decide +kernel
theorem d_Ord_add_32 : decode b_Ord_add 32 = .ok (.ireturn, 1) := by decide +kernel
theorem d_Ord_fault_0 : decode b_Ord_fault 0 = .ok (.aload_n 0, 1) := by decide +kernel
theorem d_Ord_fault_1 : decode b_Ord_fault 1 = .ok (.iconst 0, 1) := by decide +kernel
theorem d_Ord_fault_2 : decode b_Ord_fault 2 = .ok (.putfield 19, 3) := by decide +kernel
theorem d_Ord_fault_5 : decode b_Ord_fault 5 = .ok (.iconst 0, 1) := by decide +kernel
theorem d_Ord_fault_6 : decode b_Ord_fault 6 = .ok (.istore_n 1, 1) := by decide +kernel
theorem d_Ord_fault_7 : decode b_Ord_fault 7 = .ok (.iload_n 1, 1) := by decide +kernel
theorem d_Ord_fault_8 : decode b_Ord_fault 8 = .ok (.bipush 100, 2) := by decide +kernel
theorem d_Ord_fault_10 : decode b_Ord_fault 10 = .ok (.if_icmp .ge 63, 3) := by decide +kernel
theorem d_Ord_fault_13 : decode b_Ord_fault 13 = .ok (.aload_n 0, 1) := by decide +kernel
theorem d_Ord_fault_14 : decode b_Ord_fault 14 = .ok (.invokevirtual 22, 3) := by decide +kernel
theorem d_Ord_fault_17 : decode b_Ord_fault 17 = .ok (.ifCond .ne 8, 3) := by decide +kernel
theorem d_Ord_fault_20 : decode b_Ord_fault 20 = .ok (.aload_n 0, 1) := by decide +kernel
theorem d_Ord_fault_21 : decode b_Ord_fault 21 = .ok (.getfield 19, 3) := by decide +kernel
theorem d_Ord_fault_24 : decode b_Ord_fault 24 = .ok (.ireturn, 1) := by decide +kernel
theorem d_Ord_fault_25 : decode b_Ord_fault 25 = .ok (.aload_n 0, 1) := by decide +kernel
theorem d_Ord_fault_26 : decode b_Ord_fault 26 = .ok (.getfield 19, 3) := by decide +kernel
theorem d_Ord_fault_29 : decode b_Ord_fault 29 = .ok (.aload_n 0, 1) := by decide +kernel
theorem d_Ord_fault_30 : decode b_Ord_fault 30 = .ok (.getfield 15, 3) := by decide +kernel
theorem d_Ord_fault_33 : decode b_Ord_fault 33 = .ok (.if_icmp .lt 5, 3) := by decide +kernel
theorem d_Ord_fault_36 : decode b_Ord_fault 36 = .ok (.iconst (-1), 1) := by decide +kernel
theorem d_Ord_fault_37 : decode b_Ord_fault 37 = .ok (.ireturn, 1) := by decide +kernel
theorem d_Ord_fault_38 : decode b_Ord_fault 38 = .ok (.aload_n 0, 1) := by decide +kernel
theorem d_Ord_fault_39 : decode b_Ord_fault 39 = .ok (.getfield 9, 3) := by decide +kernel
theorem d_Ord_fault_42 : decode b_Ord_fault 42 = .ok (.aload_n 0, 1) := by decide +kernel
theorem d_Ord_fault_43 : decode b_Ord_fault 43 = .ok (.getfield 19, 3) := by decide +kernel
theorem d_Ord_fault_46 : decode b_Ord_fault 46 = .ok (.iaload, 1) := by decide +kernel
theorem d_Ord_fault_47 : decode b_Ord_fault 47 = .ok (.bipush 59, 2) := by decide +kernel
theorem d_Ord_fault_49 : decode b_Ord_fault 49 = .ok (.if_icmp .eq 8, 3) := by decide +kernel
theorem d_Ord_fault_52 : decode b_Ord_fault 52 = .ok (.aload_n 0, 1) := by decide +kernel
theorem d_Ord_fault_53 : decode b_Ord_fault 53 = .ok (.getfield 19, 3) := by decide +kernel
theorem d_Ord_fault_56 : decode b_Ord_fault 56 = .ok (.ireturn, 1) := by decide +kernel
theorem d_Ord_fault_57 : decode b_Ord_fault 57 = .ok (.aload_n 0, 1) := by decide +kernel
theorem d_Ord_fault_58 : decode b_Ord_fault 58 = .ok (.dup, 1) := by decide +kernel
theorem d_Ord_fault_59 : decode b_Ord_fault 59 = .ok (.getfield 19, 3) := by decide +kernel
theorem d_Ord_fault_62 : decode b_Ord_fault 62 = .ok (.iconst 1, 1) := by decide +kernel
theorem d_Ord_fault_63 : decode b_Ord_fault 63 = .ok (.iadd, 1) := by decide +kernel
theorem d_Ord_fault_64 : decode b_Ord_fault 64 = .ok (.putfield 19, 3) := by decide +kernel
theorem d_Ord_fault_67 : decode b_Ord_fault 67 = .ok (.iinc 1 1, 3) := by decide +kernel
theorem d_Ord_fault_70 : decode b_Ord_fault 70 = .ok (.goto (-63), 3) := by decide +kernel
theorem d_Ord_fault_73 : decode b_Ord_fault 73 = .ok (.aload_n 0, 1) := by decide +kernel
theorem d_Ord_fault_74 : decode b_Ord_fault 74 = .ok (.getfield 19, 3) := by decide +kernel
theorem d_Ord_fault_77 : decode b_Ord_fault 77 = .ok (.ireturn, 1) := by decide +kernel
theorem d_Ord_carryOutOn_0 : decode b_Ord_carryOutOn 0 = .ok (.aload_n 0, 1) := by decide +kernel
theorem d_Ord_carryOutOn_1 : decode b_Ord_carryOutOn 1 = .ok (.iconst 0, 1) := by decide +kernel
theorem d_Ord_carryOutOn_2 : decode b_Ord_carryOutOn 2 = .ok (.putfield 19, 3) := by decide +kernel
theorem d_Ord_carryOutOn_5 : decode b_Ord_carryOutOn 5 = .ok (.iconst 0, 1) := by decide +kernel
theorem d_Ord_carryOutOn_6 : decode b_Ord_carryOutOn 6 = .ok (.istore_n 2, 1) := by decide +kernel
theorem d_Ord_carryOutOn_7 : decode b_Ord_carryOutOn 7 = .ok (.iconst 0, 1) := by decide +kernel
theorem d_Ord_carryOutOn_8 : decode b_Ord_carryOutOn 8 = .ok (.istore_n 3, 1) := by decide +kernel
theorem d_Ord_carryOutOn_9 : decode b_Ord_carryOutOn 9 = .ok (.iload_n 3, 1) := by decide +kernel
theorem d_Ord_carryOutOn_10 : decode b_Ord_carryOutOn 10 = .ok (.bipush 100, 2) := by decide +kernel
theorem d_Ord_carryOutOn_12 : decode b_Ord_carryOutOn 12 = .ok (.if_icmp .ge 50, 3) := by decide +kernel
theorem d_Ord_carryOutOn_15 : decode b_Ord_carryOutOn 15 = .ok (.aload_n 0, 1) := by decide +kernel
theorem d_Ord_carryOutOn_16 : decode b_Ord_carryOutOn 16 = .ok (.getfield 19, 3) := by decide +kernel
theorem d_Ord_carryOutOn_19 : decode b_Ord_carryOutOn 19 = .ok (.aload_n 0, 1) := by decide +kernel
theorem d_Ord_carryOutOn_20 : decode b_Ord_carryOutOn 20 = .ok (.getfield 15, 3) := by decide +kernel
theorem d_Ord_carryOutOn_23 : decode b_Ord_carryOutOn 23 = .ok (.if_icmp .ge 39, 3) := by decide +kernel
theorem d_Ord_carryOutOn_26 : decode b_Ord_carryOutOn 26 = .ok (.aload_n 0, 1) := by decide +kernel
theorem d_Ord_carryOutOn_27 : decode b_Ord_carryOutOn 27 = .ok (.invokevirtual 22, 3) := by decide +kernel
theorem d_Ord_carryOutOn_30 : decode b_Ord_carryOutOn 30 = .ok (.ifCond .eq 11, 3) := by decide +kernel
theorem d_Ord_carryOutOn_33 : decode b_Ord_carryOutOn 33 = .ok (.aload_n 0, 1) := by decide +kernel
theorem d_Ord_carryOutOn_34 : decode b_Ord_carryOutOn 34 = .ok (.aload_n 1, 1) := by decide +kernel
theorem d_Ord_carryOutOn_35 : decode b_Ord_carryOutOn 35 = .ok (.invokevirtual 26, 3) := by decide +kernel
theorem d_Ord_carryOutOn_38 : decode b_Ord_carryOutOn 38 = .ok (.ifCond .ge 5, 3) := by decide +kernel
theorem d_Ord_carryOutOn_41 : decode b_Ord_carryOutOn 41 = .ok (.iload_n 2, 1) := by decide +kernel
theorem d_Ord_carryOutOn_42 : decode b_Ord_carryOutOn 42 = .ok (.ireturn, 1) := by decide +kernel
theorem d_Ord_carryOutOn_43 : decode b_Ord_carryOutOn 43 = .ok (.iinc 2 1, 3) := by decide +kernel
theorem d_Ord_carryOutOn_46 : decode b_Ord_carryOutOn 46 = .ok (.aload_n 0, 1) := by decide +kernel
theorem d_Ord_carryOutOn_47 : decode b_Ord_carryOutOn 47 = .ok (.dup, 1) := by decide +kernel
theorem d_Ord_carryOutOn_48 : decode b_Ord_carryOutOn 48 = .ok (.getfield 19, 3) := by decide +kernel
theorem d_Ord_carryOutOn_51 : decode b_Ord_carryOutOn 51 = .ok (.iconst 1, 1) := by decide +kernel
theorem d_Ord_carryOutOn_52 : decode b_Ord_carryOutOn 52 = .ok (.iadd, 1) := by decide +kernel
theorem d_Ord_carryOutOn_53 : decode b_Ord_carryOutOn 53 = .ok (.putfield 19, 3) := by decide +kernel
theorem d_Ord_carryOutOn_56 : decode b_Ord_carryOutOn 56 = .ok (.iinc 3 1, 3) := by decide +kernel
theorem d_Ord_carryOutOn_59 : decode b_Ord_carryOutOn 59 = .ok (.goto (-50), 3) := by decide +kernel
theorem d_Ord_carryOutOn_62 : decode b_Ord_carryOutOn 62 = .ok (.iload_n 2, 1) := by decide +kernel
theorem d_Ord_carryOutOn_63 : decode b_Ord_carryOutOn 63 = .ok (.ireturn, 1) := by decide +kernel
theorem d_Ord_carryOutOrder_0 : decode b_Ord_carryOutOrder 0 = .ok (.aload_n 0, 1) := by decide +kernel
theorem d_Ord_carryOutOrder_1 : decode b_Ord_carryOutOrder 1 = .ok (.getfield 30, 3) := by decide +kernel
theorem d_Ord_carryOutOrder_4 : decode b_Ord_carryOutOrder 4 = .ok (.lookupswitch 126 #[(43, 60), (45, 73), (102, 117), (104, 86), (108, 108), (120, 99)], 60) := by decide +kernel
theorem d_Ord_carryOutOrder_64 : decode b_Ord_carryOutOrder 64 = .ok (.aload_n 1, 1) := by decide +kernel
theorem d_Ord_carryOutOrder_65 : decode b_Ord_carryOutOrder 65 = .ok (.aload_n 0, 1) := by decide +kernel
theorem d_Ord_carryOutOrder_66 : decode b_Ord_carryOutOrder 66 = .ok (.getfield 33, 3) := by decide +kernel
theorem d_Ord_carryOutOrder_69 : decode b_Ord_carryOutOrder 69 = .ok (.aload_n 0, 1) := by decide +kernel
theorem d_Ord_carryOutOrder_70 : decode b_Ord_carryOutOrder 70 = .ok (.getfield 36, 3) := by decide +kernel
theorem d_Ord_carryOutOrder_73 : decode b_Ord_carryOutOrder 73 = .ok (.invokevirtual 39, 3) := by decide +kernel
theorem d_Ord_carryOutOrder_76 : decode b_Ord_carryOutOrder 76 = .ok (.ireturn, 1) := by decide +kernel
theorem d_Ord_carryOutOrder_77 : decode b_Ord_carryOutOrder 77 = .ok (.aload_n 1, 1) := by decide +kernel
theorem d_Ord_carryOutOrder_78 : decode b_Ord_carryOutOrder 78 = .ok (.aload_n 0, 1) := by decide +kernel
theorem d_Ord_carryOutOrder_79 : decode b_Ord_carryOutOrder 79 = .ok (.getfield 33, 3) := by decide +kernel
theorem d_Ord_carryOutOrder_82 : decode b_Ord_carryOutOrder 82 = .ok (.aload_n 0, 1) := by decide +kernel
theorem d_Ord_carryOutOrder_83 : decode b_Ord_carryOutOrder 83 = .ok (.getfield 36, 3) := by decide +kernel
theorem d_Ord_carryOutOrder_86 : decode b_Ord_carryOutOrder 86 = .ok (.invokevirtual 45, 3) := by decide +kernel
theorem d_Ord_carryOutOrder_89 : decode b_Ord_carryOutOrder 89 = .ok (.ireturn, 1) := by decide +kernel
theorem d_Ord_carryOutOrder_90 : decode b_Ord_carryOutOrder 90 = .ok (.aload_n 1, 1) := by decide +kernel
theorem d_Ord_carryOutOrder_91 : decode b_Ord_carryOutOrder 91 = .ok (.aload_n 0, 1) := by decide +kernel
theorem d_Ord_carryOutOrder_92 : decode b_Ord_carryOutOrder 92 = .ok (.getfield 33, 3) := by decide +kernel
theorem d_Ord_carryOutOrder_95 : decode b_Ord_carryOutOrder 95 = .ok (.aload_n 0, 1) := by decide +kernel
theorem d_Ord_carryOutOrder_96 : decode b_Ord_carryOutOrder 96 = .ok (.getfield 36, 3) := by decide +kernel
theorem d_Ord_carryOutOrder_99 : decode b_Ord_carryOutOrder 99 = .ok (.invokevirtual 48, 3) := by decide +kernel
theorem d_Ord_carryOutOrder_102 : decode b_Ord_carryOutOrder 102 = .ok (.ireturn, 1) := by decide +kernel
theorem d_Ord_carryOutOrder_103 : decode b_Ord_carryOutOrder 103 = .ok (.aload_n 1, 1) := by decide +kernel
theorem d_Ord_carryOutOrder_104 : decode b_Ord_carryOutOrder 104 = .ok (.aload_n 0, 1) := by decide +kernel
theorem d_Ord_carryOutOrder_105 : decode b_Ord_carryOutOrder 105 = .ok (.getfield 33, 3) := by decide +kernel
theorem d_Ord_carryOutOrder_108 : decode b_Ord_carryOutOrder 108 = .ok (.invokevirtual 51, 3) := by decide +kernel
theorem d_Ord_carryOutOrder_111 : decode b_Ord_carryOutOrder 111 = .ok (.ireturn, 1) := by decide +kernel
theorem d_Ord_carryOutOrder_112 : decode b_Ord_carryOutOrder 112 = .ok (.aload_n 1, 1) := by decide +kernel
theorem d_Ord_carryOutOrder_113 : decode b_Ord_carryOutOrder 113 = .ok (.aload_n 0, 1) := by decide +kernel
theorem d_Ord_carryOutOrder_114 : decode b_Ord_carryOutOrder 114 = .ok (.getfield 33, 3) := by decide +kernel
theorem d_Ord_carryOutOrder_117 : decode b_Ord_carryOutOrder 117 = .ok (.invokevirtual 55, 3) := by decide +kernel
theorem d_Ord_carryOutOrder_120 : decode b_Ord_carryOutOrder 120 = .ok (.ireturn, 1) := by decide +kernel
theorem d_Ord_carryOutOrder_121 : decode b_Ord_carryOutOrder 121 = .ok (.aload_n 1, 1) := by decide +kernel
theorem d_Ord_carryOutOrder_122 : decode b_Ord_carryOutOrder 122 = .ok (.aload_n 0, 1) := by decide +kernel
theorem d_Ord_carryOutOrder_123 : decode b_Ord_carryOutOrder 123 = .ok (.getfield 33, 3) := by decide +kernel
theorem d_Ord_carryOutOrder_126 : decode b_Ord_carryOutOrder 126 = .ok (.invokevirtual 58, 3) := by decide +kernel
theorem d_Ord_carryOutOrder_129 : decode b_Ord_carryOutOrder 129 = .ok (.ireturn, 1) := by decide +kernel
theorem d_Ord_carryOutOrder_130 : decode b_Ord_carryOutOrder 130 = .ok (.aload_n 1, 1) := by decide +kernel
theorem d_Ord_carryOutOrder_131 : decode b_Ord_carryOutOrder 131 = .ok (.invokevirtual 61, 3) := by decide +kernel
theorem d_Ord_carryOutOrder_134 : decode b_Ord_carryOutOrder 134 = .ok (.ireturn, 1) := by decide +kernel
theorem d_Ord_readOrder_0 : decode b_Ord_readOrder 0 = .ok (.aload_n 0, 1) := by decide +kernel
theorem d_Ord_readOrder_1 : decode b_Ord_readOrder 1 = .ok (.invokevirtual 65, 3) := by decide +kernel
theorem d_Ord_readOrder_4 : decode b_Ord_readOrder 4 = .ok (.bipush 119, 2) := by decide +kernel
theorem d_Ord_readOrder_6 : decode b_Ord_readOrder 6 = .ok (.if_icmp .ne 21, 3) := by decide +kernel
theorem d_Ord_readOrder_9 : decode b_Ord_readOrder 9 = .ok (.aload_n 0, 1) := by decide +kernel
theorem d_Ord_readOrder_10 : decode b_Ord_readOrder 10 = .ok (.bipush 119, 2) := by decide +kernel
theorem d_Ord_readOrder_12 : decode b_Ord_readOrder 12 = .ok (.putfield 30, 3) := by decide +kernel
theorem d_Ord_readOrder_15 : decode b_Ord_readOrder 15 = .ok (.aload_n 0, 1) := by decide +kernel
theorem d_Ord_readOrder_16 : decode b_Ord_readOrder 16 = .ok (.dup, 1) := by decide +kernel
theorem d_Ord_readOrder_17 : decode b_Ord_readOrder 17 = .ok (.getfield 19, 3) := by decide +kernel
theorem d_Ord_readOrder_20 : decode b_Ord_readOrder 20 = .ok (.iconst 1, 1) := by decide +kernel
theorem d_Ord_readOrder_21 : decode b_Ord_readOrder 21 = .ok (.iadd, 1) := by decide +kernel
theorem d_Ord_readOrder_22 : decode b_Ord_readOrder 22 = .ok (.putfield 19, 3) := by decide +kernel
theorem d_Ord_readOrder_25 : decode b_Ord_readOrder 25 = .ok (.iconst 1, 1) := by decide +kernel
theorem d_Ord_readOrder_26 : decode b_Ord_readOrder 26 = .ok (.ireturn, 1) := by decide +kernel
theorem d_Ord_readOrder_27 : decode b_Ord_readOrder 27 = .ok (.aload_n 0, 1) := by decide +kernel
theorem d_Ord_readOrder_28 : decode b_Ord_readOrder 28 = .ok (.aload_n 0, 1) := by decide +kernel
theorem d_Ord_readOrder_29 : decode b_Ord_readOrder 29 = .ok (.invokevirtual 68, 3) := by decide +kernel
theorem d_Ord_readOrder_32 : decode b_Ord_readOrder 32 = .ok (.putfield 33, 3) := by decide +kernel
theorem d_Ord_readOrder_35 : decode b_Ord_readOrder 35 = .ok (.aload_n 0, 1) := by decide +kernel
theorem d_Ord_readOrder_36 : decode b_Ord_readOrder 36 = .ok (.getfield 33, 3) := by decide +kernel
theorem d_Ord_readOrder_39 : decode b_Ord_readOrder 39 = .ok (.iconst (-1), 1) := by decide +kernel
theorem d_Ord_readOrder_40 : decode b_Ord_readOrder 40 = .ok (.if_icmp .ne 5, 3) := by decide +kernel
theorem d_Ord_readOrder_43 : decode b_Ord_readOrder 43 = .ok (.iconst 0, 1) := by decide +kernel
theorem d_Ord_readOrder_44 : decode b_Ord_readOrder 44 = .ok (.ireturn, 1) := by decide +kernel
theorem d_Ord_readOrder_45 : decode b_Ord_readOrder 45 = .ok (.aload_n 0, 1) := by decide +kernel
theorem d_Ord_readOrder_46 : decode b_Ord_readOrder 46 = .ok (.aload_n 0, 1) := by decide +kernel
theorem d_Ord_readOrder_47 : decode b_Ord_readOrder 47 = .ok (.invokevirtual 65, 3) := by decide +kernel
theorem d_Ord_readOrder_50 : decode b_Ord_readOrder 50 = .ok (.putfield 30, 3) := by decide +kernel
theorem d_Ord_readOrder_53 : decode b_Ord_readOrder 53 = .ok (.aload_n 0, 1) := by decide +kernel
theorem d_Ord_readOrder_54 : decode b_Ord_readOrder 54 = .ok (.getfield 30, 3) := by decide +kernel
theorem d_Ord_readOrder_57 : decode b_Ord_readOrder 57 = .ok (.bipush 43, 2) := by decide +kernel
theorem d_Ord_readOrder_59 : decode b_Ord_readOrder 59 = .ok (.if_icmp .eq 21, 3) := by decide +kernel
theorem d_Ord_readOrder_62 : decode b_Ord_readOrder 62 = .ok (.aload_n 0, 1) := by decide +kernel
theorem d_Ord_readOrder_63 : decode b_Ord_readOrder 63 = .ok (.getfield 30, 3) := by decide +kernel
theorem d_Ord_readOrder_66 : decode b_Ord_readOrder 66 = .ok (.bipush 45, 2) := by decide +kernel
theorem d_Ord_readOrder_68 : decode b_Ord_readOrder 68 = .ok (.if_icmp .eq 12, 3) := by decide +kernel
theorem d_Ord_readOrder_71 : decode b_Ord_readOrder 71 = .ok (.aload_n 0, 1) := by decide +kernel
theorem d_Ord_readOrder_72 : decode b_Ord_readOrder 72 = .ok (.getfield 30, 3) := by decide +kernel
theorem d_Ord_readOrder_75 : decode b_Ord_readOrder 75 = .ok (.bipush 104, 2) := by decide +kernel
theorem d_Ord_readOrder_77 : decode b_Ord_readOrder 77 = .ok (.if_icmp .ne 7, 3) := by decide +kernel
theorem d_Ord_readOrder_80 : decode b_Ord_readOrder 80 = .ok (.iconst 1, 1) := by decide +kernel
theorem d_Ord_readOrder_81 : decode b_Ord_readOrder 81 = .ok (.goto 4, 3) := by decide +kernel
theorem d_Ord_readOrder_84 : decode b_Ord_readOrder 84 = .ok (.iconst 0, 1) := by decide +kernel
theorem d_Ord_readOrder_85 : decode b_Ord_readOrder 85 = .ok (.istore_n 1, 1) := by decide +kernel
theorem d_Ord_readOrder_86 : decode b_Ord_readOrder 86 = .ok (.aload_n 0, 1) := by decide +kernel
theorem d_Ord_readOrder_87 : decode b_Ord_readOrder 87 = .ok (.getfield 30, 3) := by decide +kernel
theorem d_Ord_readOrder_90 : decode b_Ord_readOrder 90 = .ok (.bipush 120, 2) := by decide +kernel
theorem d_Ord_readOrder_92 : decode b_Ord_readOrder 92 = .ok (.if_icmp .eq 21, 3) := by decide +kernel
theorem d_Ord_readOrder_95 : decode b_Ord_readOrder 95 = .ok (.aload_n 0, 1) := by decide +kernel
theorem d_Ord_readOrder_96 : decode b_Ord_readOrder 96 = .ok (.getfield 30, 3) := by decide +kernel
theorem d_Ord_readOrder_99 : decode b_Ord_readOrder 99 = .ok (.bipush 108, 2) := by decide +kernel
theorem d_Ord_readOrder_101 : decode b_Ord_readOrder 101 = .ok (.if_icmp .eq 12, 3) := by decide +kernel
theorem d_Ord_readOrder_104 : decode b_Ord_readOrder 104 = .ok (.aload_n 0, 1) := by decide +kernel
theorem d_Ord_readOrder_105 : decode b_Ord_readOrder 105 = .ok (.getfield 30, 3) := by decide +kernel
theorem d_Ord_readOrder_108 : decode b_Ord_readOrder 108 = .ok (.bipush 102, 2) := by decide +kernel
theorem d_Ord_readOrder_110 : decode b_Ord_readOrder 110 = .ok (.if_icmp .ne 7, 3) := by decide +kernel
theorem d_Ord_readOrder_113 : decode b_Ord_readOrder 113 = .ok (.iconst 1, 1) := by decide +kernel
theorem d_Ord_readOrder_114 : decode b_Ord_readOrder 114 = .ok (.goto 4, 3) := by decide +kernel
theorem d_Ord_readOrder_117 : decode b_Ord_readOrder 117 = .ok (.iconst 0, 1) := by decide +kernel
theorem d_Ord_readOrder_118 : decode b_Ord_readOrder 118 = .ok (.istore_n 2, 1) := by decide +kernel
theorem d_Ord_readOrder_119 : decode b_Ord_readOrder 119 = .ok (.iload_n 1, 1) := by decide +kernel
theorem d_Ord_readOrder_120 : decode b_Ord_readOrder 120 = .ok (.ifCond .ne 9, 3) := by decide +kernel
theorem d_Ord_readOrder_123 : decode b_Ord_readOrder 123 = .ok (.iload_n 2, 1) := by decide +kernel
theorem d_Ord_readOrder_124 : decode b_Ord_readOrder 124 = .ok (.ifCond .ne 5, 3) := by decide +kernel
theorem d_Ord_readOrder_127 : decode b_Ord_readOrder 127 = .ok (.iconst 0, 1) := by decide +kernel
theorem d_Ord_readOrder_128 : decode b_Ord_readOrder 128 = .ok (.ireturn, 1) := by decide +kernel
theorem d_Ord_readOrder_129 : decode b_Ord_readOrder 129 = .ok (.aload_n 0, 1) := by decide +kernel
theorem d_Ord_readOrder_130 : decode b_Ord_readOrder 130 = .ok (.dup, 1) := by decide +kernel
theorem d_Ord_readOrder_131 : decode b_Ord_readOrder 131 = .ok (.getfield 19, 3) := by decide +kernel
theorem d_Ord_readOrder_134 : decode b_Ord_readOrder 134 = .ok (.iconst 1, 1) := by decide +kernel
theorem d_Ord_readOrder_135 : decode b_Ord_readOrder 135 = .ok (.iadd, 1) := by decide +kernel
theorem d_Ord_readOrder_136 : decode b_Ord_readOrder 136 = .ok (.putfield 19, 3) := by decide +kernel
theorem d_Ord_readOrder_139 : decode b_Ord_readOrder 139 = .ok (.iload_n 2, 1) := by decide +kernel
theorem d_Ord_readOrder_140 : decode b_Ord_readOrder 140 = .ok (.ifCond .eq 5, 3) := by decide +kernel
theorem d_Ord_readOrder_143 : decode b_Ord_readOrder 143 = .ok (.iconst 1, 1) := by decide +kernel
theorem d_Ord_readOrder_144 : decode b_Ord_readOrder 144 = .ok (.ireturn, 1) := by decide +kernel
theorem d_Ord_readOrder_145 : decode b_Ord_readOrder 145 = .ok (.aload_n 0, 1) := by decide +kernel
theorem d_Ord_readOrder_146 : decode b_Ord_readOrder 146 = .ok (.aload_n 0, 1) := by decide +kernel
theorem d_Ord_readOrder_147 : decode b_Ord_readOrder 147 = .ok (.invokevirtual 68, 3) := by decide +kernel
theorem d_Ord_readOrder_150 : decode b_Ord_readOrder 150 = .ok (.putfield 36, 3) := by decide +kernel
theorem d_Ord_readOrder_153 : decode b_Ord_readOrder 153 = .ok (.aload_n 0, 1) := by decide +kernel
theorem d_Ord_readOrder_154 : decode b_Ord_readOrder 154 = .ok (.getfield 36, 3) := by decide +kernel
theorem d_Ord_readOrder_157 : decode b_Ord_readOrder 157 = .ok (.iconst (-1), 1) := by decide +kernel
theorem d_Ord_readOrder_158 : decode b_Ord_readOrder 158 = .ok (.if_icmp .eq 7, 3) := by decide +kernel
theorem d_Ord_readOrder_161 : decode b_Ord_readOrder 161 = .ok (.iconst 1, 1) := by decide +kernel
theorem d_Ord_readOrder_162 : decode b_Ord_readOrder 162 = .ok (.goto 4, 3) := by decide +kernel
theorem d_Ord_readOrder_165 : decode b_Ord_readOrder 165 = .ok (.iconst 0, 1) := by decide +kernel
theorem d_Ord_readOrder_166 : decode b_Ord_readOrder 166 = .ok (.ireturn, 1) := by decide +kernel
theorem d_Ord_readNumber_0 : decode b_Ord_readNumber 0 = .ok (.aload_n 0, 1) := by decide +kernel
theorem d_Ord_readNumber_1 : decode b_Ord_readNumber 1 = .ok (.invokevirtual 65, 3) := by decide +kernel
theorem d_Ord_readNumber_4 : decode b_Ord_readNumber 4 = .ok (.invokestatic 71, 3) := by decide +kernel
theorem d_Ord_readNumber_7 : decode b_Ord_readNumber 7 = .ok (.ifCond .ne 5, 3) := by decide +kernel
theorem d_Ord_readNumber_10 : decode b_Ord_readNumber 10 = .ok (.iconst (-1), 1) := by decide +kernel
theorem d_Ord_readNumber_11 : decode b_Ord_readNumber 11 = .ok (.ireturn, 1) := by decide +kernel
theorem d_Ord_readNumber_12 : decode b_Ord_readNumber 12 = .ok (.aload_n 0, 1) := by decide +kernel
theorem d_Ord_readNumber_13 : decode b_Ord_readNumber 13 = .ok (.invokevirtual 65, 3) := by decide +kernel
theorem d_Ord_readNumber_16 : decode b_Ord_readNumber 16 = .ok (.bipush 48, 2) := by decide +kernel
theorem d_Ord_readNumber_18 : decode b_Ord_readNumber 18 = .ok (.isub, 1) := by decide +kernel
theorem d_Ord_readNumber_19 : decode b_Ord_readNumber 19 = .ok (.istore_n 1, 1) := by decide +kernel
theorem d_Ord_readNumber_20 : decode b_Ord_readNumber 20 = .ok (.aload_n 0, 1) := by decide +kernel
theorem d_Ord_readNumber_21 : decode b_Ord_readNumber 21 = .ok (.dup, 1) := by decide +kernel
theorem d_Ord_readNumber_22 : decode b_Ord_readNumber 22 = .ok (.getfield 19, 3) := by decide +kernel
theorem d_Ord_readNumber_25 : decode b_Ord_readNumber 25 = .ok (.iconst 1, 1) := by decide +kernel
theorem d_Ord_readNumber_26 : decode b_Ord_readNumber 26 = .ok (.iadd, 1) := by decide +kernel
theorem d_Ord_readNumber_27 : decode b_Ord_readNumber 27 = .ok (.putfield 19, 3) := by decide +kernel
theorem d_Ord_readNumber_30 : decode b_Ord_readNumber 30 = .ok (.iload_n 1, 1) := by decide +kernel
theorem d_Ord_readNumber_31 : decode b_Ord_readNumber 31 = .ok (.ifCond .ne 5, 3) := by decide +kernel
theorem d_Ord_readNumber_34 : decode b_Ord_readNumber 34 = .ok (.iconst 0, 1) := by decide +kernel
theorem d_Ord_readNumber_35 : decode b_Ord_readNumber 35 = .ok (.ireturn, 1) := by decide +kernel
theorem d_Ord_readNumber_36 : decode b_Ord_readNumber 36 = .ok (.iconst 1, 1) := by decide +kernel
theorem d_Ord_readNumber_37 : decode b_Ord_readNumber 37 = .ok (.istore_n 2, 1) := by decide +kernel
theorem d_Ord_readNumber_38 : decode b_Ord_readNumber 38 = .ok (.iload_n 2, 1) := by decide +kernel
theorem d_Ord_readNumber_39 : decode b_Ord_readNumber 39 = .ok (.iconst 3, 1) := by decide +kernel
theorem d_Ord_readNumber_40 : decode b_Ord_readNumber 40 = .ok (.if_icmp .ge 42, 3) := by decide +kernel
theorem d_Ord_readNumber_43 : decode b_Ord_readNumber 43 = .ok (.aload_n 0, 1) := by decide +kernel
theorem d_Ord_readNumber_44 : decode b_Ord_readNumber 44 = .ok (.invokevirtual 65, 3) := by decide +kernel
theorem d_Ord_readNumber_47 : decode b_Ord_readNumber 47 = .ok (.invokestatic 71, 3) := by decide +kernel
theorem d_Ord_readNumber_50 : decode b_Ord_readNumber 50 = .ok (.ifCond .eq 32, 3) := by decide +kernel
theorem d_Ord_readNumber_53 : decode b_Ord_readNumber 53 = .ok (.iload_n 1, 1) := by decide +kernel
theorem d_Ord_readNumber_54 : decode b_Ord_readNumber 54 = .ok (.bipush 10, 2) := by decide +kernel
theorem d_Ord_readNumber_56 : decode b_Ord_readNumber 56 = .ok (.imul, 1) := by decide +kernel
theorem d_Ord_readNumber_57 : decode b_Ord_readNumber 57 = .ok (.aload_n 0, 1) := by decide +kernel
theorem d_Ord_readNumber_58 : decode b_Ord_readNumber 58 = .ok (.invokevirtual 65, 3) := by decide +kernel
theorem d_Ord_readNumber_61 : decode b_Ord_readNumber 61 = .ok (.bipush 48, 2) := by decide +kernel
theorem d_Ord_readNumber_63 : decode b_Ord_readNumber 63 = .ok (.isub, 1) := by decide +kernel
theorem d_Ord_readNumber_64 : decode b_Ord_readNumber 64 = .ok (.iadd, 1) := by decide +kernel
theorem d_Ord_readNumber_65 : decode b_Ord_readNumber 65 = .ok (.istore_n 1, 1) := by decide +kernel
theorem d_Ord_readNumber_66 : decode b_Ord_readNumber 66 = .ok (.aload_n 0, 1) := by decide +kernel
theorem d_Ord_readNumber_67 : decode b_Ord_readNumber 67 = .ok (.dup, 1) := by decide +kernel
theorem d_Ord_readNumber_68 : decode b_Ord_readNumber 68 = .ok (.getfield 19, 3) := by decide +kernel
theorem d_Ord_readNumber_71 : decode b_Ord_readNumber 71 = .ok (.iconst 1, 1) := by decide +kernel
theorem d_Ord_readNumber_72 : decode b_Ord_readNumber 72 = .ok (.iadd, 1) := by decide +kernel
theorem d_Ord_readNumber_73 : decode b_Ord_readNumber 73 = .ok (.putfield 19, 3) := by decide +kernel
theorem d_Ord_readNumber_76 : decode b_Ord_readNumber 76 = .ok (.iinc 2 1, 3) := by decide +kernel
theorem d_Ord_readNumber_79 : decode b_Ord_readNumber 79 = .ok (.goto (-41), 3) := by decide +kernel
theorem d_Ord_readNumber_82 : decode b_Ord_readNumber 82 = .ok (.iload_n 1, 1) := by decide +kernel
theorem d_Ord_readNumber_83 : decode b_Ord_readNumber 83 = .ok (.ireturn, 1) := by decide +kernel
theorem d_Ord_next_0 : decode b_Ord_next 0 = .ok (.aload_n 0, 1) := by decide +kernel
theorem d_Ord_next_1 : decode b_Ord_next 1 = .ok (.getfield 19, 3) := by decide +kernel
theorem d_Ord_next_4 : decode b_Ord_next 4 = .ok (.aload_n 0, 1) := by decide +kernel
theorem d_Ord_next_5 : decode b_Ord_next 5 = .ok (.getfield 15, 3) := by decide +kernel
theorem d_Ord_next_8 : decode b_Ord_next 8 = .ok (.if_icmp .ge 15, 3) := by decide +kernel
theorem d_Ord_next_11 : decode b_Ord_next 11 = .ok (.aload_n 0, 1) := by decide +kernel
theorem d_Ord_next_12 : decode b_Ord_next 12 = .ok (.getfield 9, 3) := by decide +kernel
theorem d_Ord_next_15 : decode b_Ord_next 15 = .ok (.aload_n 0, 1) := by decide +kernel
theorem d_Ord_next_16 : decode b_Ord_next 16 = .ok (.getfield 19, 3) := by decide +kernel
theorem d_Ord_next_19 : decode b_Ord_next 19 = .ok (.iaload, 1) := by decide +kernel
theorem d_Ord_next_20 : decode b_Ord_next 20 = .ok (.goto 4, 3) := by decide +kernel
theorem d_Ord_next_23 : decode b_Ord_next 23 = .ok (.iconst 0, 1) := by decide +kernel
theorem d_Ord_next_24 : decode b_Ord_next 24 = .ok (.ireturn, 1) := by decide +kernel
theorem d_Ord_isDigit_0 : decode b_Ord_isDigit 0 = .ok (.iload_n 0, 1) := by decide +kernel
theorem d_Ord_isDigit_1 : decode b_Ord_isDigit 1 = .ok (.bipush 48, 2) := by decide +kernel
theorem d_Ord_isDigit_3 : decode b_Ord_isDigit 3 = .ok (.if_icmp .lt 13, 3) := by decide +kernel
theorem d_Ord_isDigit_6 : decode b_Ord_isDigit 6 = .ok (.iload_n 0, 1) := by decide +kernel
theorem d_Ord_isDigit_7 : decode b_Ord_isDigit 7 = .ok (.bipush 57, 2) := by decide +kernel
theorem d_Ord_isDigit_9 : decode b_Ord_isDigit 9 = .ok (.if_icmp .gt 7, 3) := by decide +kernel
theorem d_Ord_isDigit_12 : decode b_Ord_isDigit 12 = .ok (.iconst 1, 1) := by decide +kernel
theorem d_Ord_isDigit_13 : decode b_Ord_isDigit 13 = .ok (.goto 4, 3) := by decide +kernel
theorem d_Ord_isDigit_16 : decode b_Ord_isDigit 16 = .ok (.iconst 0, 1) := by decide +kernel
theorem d_Ord_isDigit_17 : decode b_Ord_isDigit 17 = .ok (.ireturn, 1) := by decide +kernel
theorem d_Snp_init_0 : decode b_Snp_init 0 = .ok (.aload_n 0, 1) := by decide +kernel
theorem d_Snp_init_1 : decode b_Snp_init 1 = .ok (.invokespecial 1, 3) := by decide +kernel
theorem d_Snp_init_4 : decode b_Snp_init 4 = .ok (.aload_n 0, 1) := by decide +kernel
theorem d_Snp_init_5 : decode b_Snp_init 5 = .ok (.new 7, 3) := by decide +kernel
theorem d_Snp_init_8 : decode b_Snp_init 8 = .ok (.dup, 1) := by decide +kernel
theorem d_Snp_init_9 : decode b_Snp_init 9 = .ok (.invokespecial 9, 3) := by decide +kernel
theorem d_Snp_init_12 : decode b_Snp_init 12 = .ok (.putfield 10, 3) := by decide +kernel
theorem d_Snp_init_15 : decode b_Snp_init 15 = .ok (.return_, 1) := by decide +kernel
theorem d_Snp_copyFrom_0 : decode b_Snp_copyFrom 0 = .ok (.aload_n 0, 1) := by decide +kernel
theorem d_Snp_copyFrom_1 : decode b_Snp_copyFrom 1 = .ok (.aload_n 1, 1) := by decide +kernel
theorem d_Snp_copyFrom_2 : decode b_Snp_copyFrom 2 = .ok (.getfield 16, 3) := by decide +kernel
theorem d_Snp_copyFrom_5 : decode b_Snp_copyFrom 5 = .ok (.putfield 16, 3) := by decide +kernel
theorem d_Snp_copyFrom_8 : decode b_Snp_copyFrom 8 = .ok (.aload_n 0, 1) := by decide +kernel
theorem d_Snp_copyFrom_9 : decode b_Snp_copyFrom 9 = .ok (.getfield 16, 3) := by decide +kernel
theorem d_Snp_copyFrom_12 : decode b_Snp_copyFrom 12 = .ok (.ifCond .eq 14, 3) := by decide +kernel
theorem d_Snp_copyFrom_15 : decode b_Snp_copyFrom 15 = .ok (.aload_n 0, 1) := by decide +kernel
theorem d_Snp_copyFrom_16 : decode b_Snp_copyFrom 16 = .ok (.getfield 10, 3) := by decide +kernel
theorem d_Snp_copyFrom_19 : decode b_Snp_copyFrom 19 = .ok (.aload_n 1, 1) := by decide +kernel
theorem d_Snp_copyFrom_20 : decode b_Snp_copyFrom 20 = .ok (.getfield 10, 3) := by decide +kernel
theorem d_Snp_copyFrom_23 : decode b_Snp_copyFrom 23 = .ok (.invokevirtual 20, 3) := by decide +kernel
theorem d_Snp_copyFrom_26 : decode b_Snp_copyFrom 26 = .ok (.return_, 1) := by decide +kernel
theorem d_Sta_init_0 : decode b_Sta_init 0 = .ok (.aload_n 0, 1) := by decide +kernel
theorem d_Sta_init_1 : decode b_Sta_init 1 = .ok (.invokespecial 3, 3) := by decide +kernel
theorem d_Sta_init_4 : decode b_Sta_init 4 = .ok (.aload_n 0, 1) := by decide +kernel
theorem d_Sta_init_5 : decode b_Sta_init 5 = .ok (.new 9, 3) := by decide +kernel
theorem d_Sta_init_8 : decode b_Sta_init 8 = .ok (.dup, 1) := by decide +kernel
theorem d_Sta_init_9 : decode b_Sta_init 9 = .ok (.invokespecial 11, 3) := by decide +kernel
theorem d_Sta_init_12 : decode b_Sta_init 12 = .ok (.putfield 12, 3) := by decide +kernel
theorem d_Sta_init_15 : decode b_Sta_init 15 = .ok (.aload_n 0, 1) := by decide +kernel
theorem d_Sta_init_16 : decode b_Sta_init 16 = .ok (.new 18, 3) := by decide +kernel
theorem d_Sta_init_19 : decode b_Sta_init 19 = .ok (.dup, 1) := by decide +kernel
theorem d_Sta_init_20 : decode b_Sta_init 20 = .ok (.invokespecial 20, 3) := by decide +kernel
theorem d_Sta_init_23 : decode b_Sta_init 23 = .ok (.putfield 21, 3) := by decide +kernel
theorem d_Sta_init_26 : decode b_Sta_init 26 = .ok (.aload_n 0, 1) := by decide +kernel
theorem d_Sta_init_27 : decode b_Sta_init 27 = .ok (.new 18, 3) := by decide +kernel
theorem d_Sta_init_30 : decode b_Sta_init 30 = .ok (.dup, 1) := by decide +kernel
theorem d_Sta_init_31 : decode b_Sta_init 31 = .ok (.invokespecial 20, 3) := by decide +kernel
theorem d_Sta_init_34 : decode b_Sta_init 34 = .ok (.putfield 25, 3) := by decide +kernel
theorem d_Sta_init_37 : decode b_Sta_init 37 = .ok (.return_, 1) := by decide +kernel
theorem d_Sta_copyFrom_0 : decode b_Sta_copyFrom 0 = .ok (.aload_n 0, 1) := by decide +kernel
theorem d_Sta_copyFrom_1 : decode b_Sta_copyFrom 1 = .ok (.getfield 12, 3) := by decide +kernel
theorem d_Sta_copyFrom_4 : decode b_Sta_copyFrom 4 = .ok (.aload_n 1, 1) := by decide +kernel
theorem d_Sta_copyFrom_5 : decode b_Sta_copyFrom 5 = .ok (.getfield 12, 3) := by decide +kernel
theorem d_Sta_copyFrom_8 : decode b_Sta_copyFrom 8 = .ok (.invokevirtual 28, 3) := by decide +kernel
theorem d_Sta_copyFrom_11 : decode b_Sta_copyFrom 11 = .ok (.aload_n 0, 1) := by decide +kernel
theorem d_Sta_copyFrom_12 : decode b_Sta_copyFrom 12 = .ok (.getfield 21, 3) := by decide +kernel
theorem d_Sta_copyFrom_15 : decode b_Sta_copyFrom 15 = .ok (.aload_n 1, 1) := by decide +kernel
theorem d_Sta_copyFrom_16 : decode b_Sta_copyFrom 16 = .ok (.getfield 21, 3) := by decide +kernel
theorem d_Sta_copyFrom_19 : decode b_Sta_copyFrom 19 = .ok (.invokevirtual 32, 3) := by decide +kernel
theorem d_Sta_copyFrom_22 : decode b_Sta_copyFrom 22 = .ok (.aload_n 0, 1) := by decide +kernel
theorem d_Sta_copyFrom_23 : decode b_Sta_copyFrom 23 = .ok (.getfield 25, 3) := by decide +kernel
theorem d_Sta_copyFrom_26 : decode b_Sta_copyFrom 26 = .ok (.aload_n 1, 1) := by decide +kernel
theorem d_Sta_copyFrom_27 : decode b_Sta_copyFrom 27 = .ok (.getfield 25, 3) := by decide +kernel
theorem d_Sta_copyFrom_30 : decode b_Sta_copyFrom 30 = .ok (.invokevirtual 32, 3) := by decide +kernel
theorem d_Sta_copyFrom_33 : decode b_Sta_copyFrom 33 = .ok (.return_, 1) := by decide +kernel
theorem d_Sta_snapshots_0 : decode b_Sta_snapshots 0 = .ok (.aload_n 0, 1) := by decide +kernel
theorem d_Sta_snapshots_1 : decode b_Sta_snapshots 1 = .ok (.getfield 21, 3) := by decide +kernel
theorem d_Sta_snapshots_4 : decode b_Sta_snapshots 4 = .ok (.getfield 35, 3) := by decide +kernel
theorem d_Sta_snapshots_7 : decode b_Sta_snapshots 7 = .ok (.ifCond .eq 7, 3) := by decide +kernel
theorem d_Sta_snapshots_10 : decode b_Sta_snapshots 10 = .ok (.iconst 1, 1) := by decide +kernel
theorem d_Sta_snapshots_11 : decode b_Sta_snapshots 11 = .ok (.goto 4, 3) := by decide +kernel
theorem d_Sta_snapshots_14 : decode b_Sta_snapshots 14 = .ok (.iconst 0, 1) := by decide +kernel
theorem d_Sta_snapshots_15 : decode b_Sta_snapshots 15 = .ok (.aload_n 0, 1) := by decide +kernel
theorem d_Sta_snapshots_16 : decode b_Sta_snapshots 16 = .ok (.getfield 25, 3) := by decide +kernel
theorem d_Sta_snapshots_19 : decode b_Sta_snapshots 19 = .ok (.getfield 35, 3) := by decide +kernel
theorem d_Sta_snapshots_22 : decode b_Sta_snapshots 22 = .ok (.ifCond .eq 7, 3) := by decide +kernel
theorem d_Sta_snapshots_25 : decode b_Sta_snapshots 25 = .ok (.iconst 1, 1) := by decide +kernel
theorem d_Sta_snapshots_26 : decode b_Sta_snapshots 26 = .ok (.goto 4, 3) := by decide +kernel
theorem d_Sta_snapshots_29 : decode b_Sta_snapshots 29 = .ok (.iconst 0, 1) := by decide +kernel
theorem d_Sta_snapshots_30 : decode b_Sta_snapshots 30 = .ok (.iadd, 1) := by decide +kernel
theorem d_Sta_snapshots_31 : decode b_Sta_snapshots 31 = .ok (.ireturn, 1) := by decide +kernel
theorem d_Sta_takeSnapshot_0 : decode b_Sta_takeSnapshot 0 = .ok (.iload_n 1, 1) := by decide +kernel
theorem d_Sta_takeSnapshot_1 : decode b_Sta_takeSnapshot 1 = .ok (.ifCond .lt 8, 3) := by decide +kernel
theorem d_Sta_takeSnapshot_4 : decode b_Sta_takeSnapshot 4 = .ok (.iload_n 1, 1) := by decide +kernel
theorem d_Sta_takeSnapshot_5 : decode b_Sta_takeSnapshot 5 = .ok (.iconst 1, 1) := by decide +kernel
theorem d_Sta_takeSnapshot_6 : decode b_Sta_takeSnapshot 6 = .ok (.if_icmp .le 5, 3) := by decide +kernel
theorem d_Sta_takeSnapshot_9 : decode b_Sta_takeSnapshot 9 = .ok (.iconst (-1), 1) := by decide +kernel
theorem d_Sta_takeSnapshot_10 : decode b_Sta_takeSnapshot 10 = .ok (.ireturn, 1) := by decide +kernel
theorem d_Sta_takeSnapshot_11 : decode b_Sta_takeSnapshot 11 = .ok (.iload_n 1, 1) := by decide +kernel
theorem d_Sta_takeSnapshot_12 : decode b_Sta_takeSnapshot 12 = .ok (.ifCond .ne 10, 3) := by decide +kernel
theorem d_Sta_takeSnapshot_15 : decode b_Sta_takeSnapshot 15 = .ok (.aload_n 0, 1) := by decide +kernel
theorem d_Sta_takeSnapshot_16 : decode b_Sta_takeSnapshot 16 = .ok (.getfield 21, 3) := by decide +kernel
theorem d_Sta_takeSnapshot_19 : decode b_Sta_takeSnapshot 19 = .ok (.goto 7, 3) := by decide +kernel
theorem d_Sta_takeSnapshot_22 : decode b_Sta_takeSnapshot 22 = .ok (.aload_n 0, 1) := by decide +kernel
theorem d_Sta_takeSnapshot_23 : decode b_Sta_takeSnapshot 23 = .ok (.getfield 25, 3) := by decide +kernel
theorem d_Sta_takeSnapshot_26 : decode b_Sta_takeSnapshot 26 = .ok (.astore_n 2, 1) := by decide +kernel
theorem d_Sta_takeSnapshot_27 : decode b_Sta_takeSnapshot 27 = .ok (.aload_n 2, 1) := by decide +kernel
theorem d_Sta_takeSnapshot_28 : decode b_Sta_takeSnapshot 28 = .ok (.getfield 39, 3) := by decide +kernel
theorem d_Sta_takeSnapshot_31 : decode b_Sta_takeSnapshot 31 = .ok (.aload_n 0, 1) := by decide +kernel
theorem d_Sta_takeSnapshot_32 : decode b_Sta_takeSnapshot 32 = .ok (.getfield 12, 3) := by decide +kernel
theorem d_Sta_takeSnapshot_35 : decode b_Sta_takeSnapshot 35 = .ok (.invokevirtual 28, 3) := by decide +kernel
theorem d_Sta_takeSnapshot_38 : decode b_Sta_takeSnapshot 38 = .ok (.aload_n 2, 1) := by decide +kernel
theorem d_Sta_takeSnapshot_39 : decode b_Sta_takeSnapshot 39 = .ok (.iconst 1, 1) := by decide +kernel
theorem d_Sta_takeSnapshot_40 : decode b_Sta_takeSnapshot 40 = .ok (.putfield 35, 3) := by decide +kernel
theorem d_Sta_takeSnapshot_43 : decode b_Sta_takeSnapshot 43 = .ok (.aload_n 0, 1) := by decide +kernel
theorem d_Sta_takeSnapshot_44 : decode b_Sta_takeSnapshot 44 = .ok (.getfield 12, 3) := by decide +kernel
theorem d_Sta_takeSnapshot_47 : decode b_Sta_takeSnapshot 47 = .ok (.getfield 40, 3) := by decide +kernel
theorem d_Sta_takeSnapshot_50 : decode b_Sta_takeSnapshot 50 = .ok (.ireturn, 1) := by decide +kernel
theorem d_Sta_restoreSnapshot_0 : decode b_Sta_restoreSnapshot 0 = .ok (.iload_n 1, 1) := by decide +kernel
theorem d_Sta_restoreSnapshot_1 : decode b_Sta_restoreSnapshot 1 = .ok (.ifCond .lt 8, 3) := by decide +kernel
theorem d_Sta_restoreSnapshot_4 : decode b_Sta_restoreSnapshot 4 = .ok (.iload_n 1, 1) := by decide +kernel
theorem d_Sta_restoreSnapshot_5 : decode b_Sta_restoreSnapshot 5 = .ok (.iconst 1, 1) := by decide +kernel
theorem d_Sta_restoreSnapshot_6 : decode b_Sta_restoreSnapshot 6 = .ok (.if_icmp .le 5, 3) := by decide +kernel
theorem d_Sta_restoreSnapshot_9 : decode b_Sta_restoreSnapshot 9 = .ok (.iconst (-1), 1) := by decide +kernel
theorem d_Sta_restoreSnapshot_10 : decode b_Sta_restoreSnapshot 10 = .ok (.ireturn, 1) := by decide +kernel
theorem d_Sta_restoreSnapshot_11 : decode b_Sta_restoreSnapshot 11 = .ok (.iload_n 1, 1) := by decide +kernel
theorem d_Sta_restoreSnapshot_12 : decode b_Sta_restoreSnapshot 12 = .ok (.ifCond .ne 10, 3) := by decide +kernel
theorem d_Sta_restoreSnapshot_15 : decode b_Sta_restoreSnapshot 15 = .ok (.aload_n 0, 1) := by decide +kernel
theorem d_Sta_restoreSnapshot_16 : decode b_Sta_restoreSnapshot 16 = .ok (.getfield 21, 3) := by decide +kernel
theorem d_Sta_restoreSnapshot_19 : decode b_Sta_restoreSnapshot 19 = .ok (.goto 7, 3) := by decide +kernel
theorem d_Sta_restoreSnapshot_22 : decode b_Sta_restoreSnapshot 22 = .ok (.aload_n 0, 1) := by decide +kernel
theorem d_Sta_restoreSnapshot_23 : decode b_Sta_restoreSnapshot 23 = .ok (.getfield 25, 3) := by decide +kernel
theorem d_Sta_restoreSnapshot_26 : decode b_Sta_restoreSnapshot 26 = .ok (.astore_n 2, 1) := by decide +kernel
theorem d_Sta_restoreSnapshot_27 : decode b_Sta_restoreSnapshot 27 = .ok (.aload_n 2, 1) := by decide +kernel
theorem d_Sta_restoreSnapshot_28 : decode b_Sta_restoreSnapshot 28 = .ok (.getfield 35, 3) := by decide +kernel
theorem d_Sta_restoreSnapshot_31 : decode b_Sta_restoreSnapshot 31 = .ok (.ifCond .ne 6, 3) := by decide +kernel
theorem d_Sta_restoreSnapshot_34 : decode b_Sta_restoreSnapshot 34 = .ok (.bipush (-2), 2) := by decide +kernel
theorem d_Sta_restoreSnapshot_36 : decode b_Sta_restoreSnapshot 36 = .ok (.ireturn, 1) := by decide +kernel
theorem d_Sta_restoreSnapshot_37 : decode b_Sta_restoreSnapshot 37 = .ok (.aload_n 0, 1) := by decide +kernel
theorem d_Sta_restoreSnapshot_38 : decode b_Sta_restoreSnapshot 38 = .ok (.getfield 12, 3) := by decide +kernel
theorem d_Sta_restoreSnapshot_41 : decode b_Sta_restoreSnapshot 41 = .ok (.aload_n 2, 1) := by decide +kernel
theorem d_Sta_restoreSnapshot_42 : decode b_Sta_restoreSnapshot 42 = .ok (.getfield 39, 3) := by decide +kernel
theorem d_Sta_restoreSnapshot_45 : decode b_Sta_restoreSnapshot 45 = .ok (.invokevirtual 28, 3) := by decide +kernel
theorem d_Sta_restoreSnapshot_48 : decode b_Sta_restoreSnapshot 48 = .ok (.aload_n 0, 1) := by decide +kernel
theorem d_Sta_restoreSnapshot_49 : decode b_Sta_restoreSnapshot 49 = .ok (.getfield 12, 3) := by decide +kernel
theorem d_Sta_restoreSnapshot_52 : decode b_Sta_restoreSnapshot 52 = .ok (.getfield 40, 3) := by decide +kernel
theorem d_Sta_restoreSnapshot_55 : decode b_Sta_restoreSnapshot 55 = .ok (.ireturn, 1) := by decide +kernel
theorem d_Ham_init_0 : decode b_Ham_init 0 = .ok (.aload_n 0, 1) := by decide +kernel
theorem d_Ham_init_1 : decode b_Ham_init 1 = .ok (.invokespecial 1, 3) := by decide +kernel
theorem d_Ham_init_4 : decode b_Ham_init 4 = .ok (.aload_n 0, 1) := by decide +kernel
theorem d_Ham_init_5 : decode b_Ham_init 5 = .ok (.new 7, 3) := by decide +kernel
theorem d_Ham_init_8 : decode b_Ham_init 8 = .ok (.dup, 1) := by decide +kernel
theorem d_Ham_init_9 : decode b_Ham_init 9 = .ok (.invokespecial 9, 3) := by decide +kernel
theorem d_Ham_init_12 : decode b_Ham_init 12 = .ok (.putfield 10, 3) := by decide +kernel
theorem d_Ham_init_15 : decode b_Ham_init 15 = .ok (.aload_n 0, 1) := by decide +kernel
theorem d_Ham_init_16 : decode b_Ham_init 16 = .ok (.new 16, 3) := by decide +kernel
theorem d_Ham_init_19 : decode b_Ham_init 19 = .ok (.dup, 1) := by decide +kernel
theorem d_Ham_init_20 : decode b_Ham_init 20 = .ok (.invokespecial 18, 3) := by decide +kernel
theorem d_Ham_init_23 : decode b_Ham_init 23 = .ok (.putfield 19, 3) := by decide +kernel
theorem d_Ham_init_26 : decode b_Ham_init 26 = .ok (.aload_n 0, 1) := by decide +kernel
theorem d_Ham_init_27 : decode b_Ham_init 27 = .ok (.new 23, 3) := by decide +kernel
theorem d_Ham_init_30 : decode b_Ham_init 30 = .ok (.dup, 1) := by decide +kernel
theorem d_Ham_init_31 : decode b_Ham_init 31 = .ok (.invokespecial 25, 3) := by decide +kernel
theorem d_Ham_init_34 : decode b_Ham_init 34 = .ok (.putfield 26, 3) := by decide +kernel
theorem d_Ham_init_37 : decode b_Ham_init 37 = .ok (.aload_n 0, 1) := by decide +kernel
theorem d_Ham_init_38 : decode b_Ham_init 38 = .ok (.new 30, 3) := by decide +kernel
theorem d_Ham_init_41 : decode b_Ham_init 41 = .ok (.dup, 1) := by decide +kernel
theorem d_Ham_init_42 : decode b_Ham_init 42 = .ok (.invokespecial 32, 3) := by decide +kernel
theorem d_Ham_init_45 : decode b_Ham_init 45 = .ok (.putfield 33, 3) := by decide +kernel
theorem d_Ham_init_48 : decode b_Ham_init 48 = .ok (.return_, 1) := by decide +kernel
theorem d_Ham_join_0 : decode b_Ham_join 0 = .ok (.aload_n 0, 1) := by decide +kernel
theorem d_Ham_join_1 : decode b_Ham_join 1 = .ok (.getfield 19, 3) := by decide +kernel
theorem d_Ham_join_4 : decode b_Ham_join 4 = .ok (.aload_n 0, 1) := by decide +kernel
theorem d_Ham_join_5 : decode b_Ham_join 5 = .ok (.getfield 10, 3) := by decide +kernel
theorem d_Ham_join_8 : decode b_Ham_join 8 = .ok (.invokevirtual 37, 3) := by decide +kernel
theorem d_Ham_join_11 : decode b_Ham_join 11 = .ok (.aload_n 0, 1) := by decide +kernel
theorem d_Ham_join_12 : decode b_Ham_join 12 = .ok (.aload_n 0, 1) := by decide +kernel
theorem d_Ham_join_13 : decode b_Ham_join 13 = .ok (.getfield 10, 3) := by decide +kernel
theorem d_Ham_join_16 : decode b_Ham_join 16 = .ok (.getfield 41, 3) := by decide +kernel
theorem d_Ham_join_19 : decode b_Ham_join 19 = .ok (.invokevirtual 44, 3) := by decide +kernel
theorem d_Ham_join_22 : decode b_Ham_join 22 = .ok (.invokevirtual 48, 3) := by decide +kernel
theorem d_Ham_join_25 : decode b_Ham_join 25 = .ok (.ireturn, 1) := by decide +kernel
theorem d_Ham_stick_0 : decode b_Ham_stick 0 = .ok (.aload_n 0, 1) := by decide +kernel
theorem d_Ham_stick_1 : decode b_Ham_stick 1 = .ok (.getfield 19, 3) := by decide +kernel
theorem d_Ham_stick_4 : decode b_Ham_stick 4 = .ok (.aload_n 0, 1) := by decide +kernel
theorem d_Ham_stick_5 : decode b_Ham_stick 5 = .ok (.getfield 10, 3) := by decide +kernel
theorem d_Ham_stick_8 : decode b_Ham_stick 8 = .ok (.invokevirtual 37, 3) := by decide +kernel
theorem d_Ham_stick_11 : decode b_Ham_stick 11 = .ok (.aload_n 0, 1) := by decide +kernel
theorem d_Ham_stick_12 : decode b_Ham_stick 12 = .ok (.aload_n 0, 1) := by decide +kernel
theorem d_Ham_stick_13 : decode b_Ham_stick 13 = .ok (.getfield 10, 3) := by decide +kernel
theorem d_Ham_stick_16 : decode b_Ham_stick 16 = .ok (.getfield 41, 3) := by decide +kernel
theorem d_Ham_stick_19 : decode b_Ham_stick 19 = .ok (.iload_n 1, 1) := by decide +kernel
theorem d_Ham_stick_20 : decode b_Ham_stick 20 = .ok (.iload_n 2, 1) := by decide +kernel
theorem d_Ham_stick_21 : decode b_Ham_stick 21 = .ok (.invokevirtual 52, 3) := by decide +kernel
theorem d_Ham_stick_24 : decode b_Ham_stick 24 = .ok (.invokevirtual 48, 3) := by decide +kernel
theorem d_Ham_stick_27 : decode b_Ham_stick 27 = .ok (.ireturn, 1) := by decide +kernel
theorem d_Ham_withdraw_0 : decode b_Ham_withdraw 0 = .ok (.aload_n 0, 1) := by decide +kernel
theorem d_Ham_withdraw_1 : decode b_Ham_withdraw 1 = .ok (.getfield 19, 3) := by decide +kernel
theorem d_Ham_withdraw_4 : decode b_Ham_withdraw 4 = .ok (.aload_n 0, 1) := by decide +kernel
theorem d_Ham_withdraw_5 : decode b_Ham_withdraw 5 = .ok (.getfield 10, 3) := by decide +kernel
theorem d_Ham_withdraw_8 : decode b_Ham_withdraw 8 = .ok (.invokevirtual 37, 3) := by decide +kernel
theorem d_Ham_withdraw_11 : decode b_Ham_withdraw 11 = .ok (.aload_n 0, 1) := by decide +kernel
theorem d_Ham_withdraw_12 : decode b_Ham_withdraw 12 = .ok (.aload_n 0, 1) := by decide +kernel
theorem d_Ham_withdraw_13 : decode b_Ham_withdraw 13 = .ok (.getfield 10, 3) := by decide +kernel
theorem d_Ham_withdraw_16 : decode b_Ham_withdraw 16 = .ok (.getfield 41, 3) := by decide +kernel
theorem d_Ham_withdraw_19 : decode b_Ham_withdraw 19 = .ok (.iload_n 1, 1) := by decide +kernel
theorem d_Ham_withdraw_20 : decode b_Ham_withdraw 20 = .ok (.iload_n 2, 1) := by decide +kernel
theorem d_Ham_withdraw_21 : decode b_Ham_withdraw 21 = .ok (.invokevirtual 56, 3) := by decide +kernel
theorem d_Ham_withdraw_24 : decode b_Ham_withdraw 24 = .ok (.invokevirtual 48, 3) := by decide +kernel
theorem d_Ham_withdraw_27 : decode b_Ham_withdraw 27 = .ok (.ireturn, 1) := by decide +kernel
theorem d_Ham_mislay_0 : decode b_Ham_mislay 0 = .ok (.aload_n 0, 1) := by decide +kernel
theorem d_Ham_mislay_1 : decode b_Ham_mislay 1 = .ok (.getfield 19, 3) := by decide +kernel
theorem d_Ham_mislay_4 : decode b_Ham_mislay 4 = .ok (.aload_n 0, 1) := by decide +kernel
theorem d_Ham_mislay_5 : decode b_Ham_mislay 5 = .ok (.getfield 10, 3) := by decide +kernel
theorem d_Ham_mislay_8 : decode b_Ham_mislay 8 = .ok (.invokevirtual 37, 3) := by decide +kernel
theorem d_Ham_mislay_11 : decode b_Ham_mislay 11 = .ok (.aload_n 0, 1) := by decide +kernel
theorem d_Ham_mislay_12 : decode b_Ham_mislay 12 = .ok (.aload_n 0, 1) := by decide +kernel
theorem d_Ham_mislay_13 : decode b_Ham_mislay 13 = .ok (.getfield 10, 3) := by decide +kernel
theorem d_Ham_mislay_16 : decode b_Ham_mislay 16 = .ok (.getfield 41, 3) := by decide +kernel
theorem d_Ham_mislay_19 : decode b_Ham_mislay 19 = .ok (.iload_n 1, 1) := by decide +kernel
theorem d_Ham_mislay_20 : decode b_Ham_mislay 20 = .ok (.invokevirtual 59, 3) := by decide +kernel
theorem d_Ham_mislay_23 : decode b_Ham_mislay 23 = .ok (.invokevirtual 48, 3) := by decide +kernel
theorem d_Ham_mislay_26 : decode b_Ham_mislay 26 = .ok (.ireturn, 1) := by decide +kernel
theorem d_Ham_find_0 : decode b_Ham_find 0 = .ok (.aload_n 0, 1) := by decide +kernel
theorem d_Ham_find_1 : decode b_Ham_find 1 = .ok (.getfield 19, 3) := by decide +kernel
theorem d_Ham_find_4 : decode b_Ham_find 4 = .ok (.aload_n 0, 1) := by decide +kernel
theorem d_Ham_find_5 : decode b_Ham_find 5 = .ok (.getfield 10, 3) := by decide +kernel
theorem d_Ham_find_8 : decode b_Ham_find 8 = .ok (.invokevirtual 37, 3) := by decide +kernel
theorem d_Ham_find_11 : decode b_Ham_find 11 = .ok (.aload_n 0, 1) := by decide +kernel
theorem d_Ham_find_12 : decode b_Ham_find 12 = .ok (.aload_n 0, 1) := by decide +kernel
theorem d_Ham_find_13 : decode b_Ham_find 13 = .ok (.getfield 10, 3) := by decide +kernel
theorem d_Ham_find_16 : decode b_Ham_find 16 = .ok (.getfield 41, 3) := by decide +kernel
theorem d_Ham_find_19 : decode b_Ham_find 19 = .ok (.iload_n 1, 1) := by decide +kernel
theorem d_Ham_find_20 : decode b_Ham_find 20 = .ok (.invokevirtual 62, 3) := by decide +kernel
theorem d_Ham_find_23 : decode b_Ham_find 23 = .ok (.invokevirtual 48, 3) := by decide +kernel
theorem d_Ham_find_26 : decode b_Ham_find 26 = .ok (.ireturn, 1) := by decide +kernel
theorem d_Ham_setHamper_0 : decode b_Ham_setHamper 0 = .ok (.aload_n 0, 1) := by decide +kernel
theorem d_Ham_setHamper_1 : decode b_Ham_setHamper 1 = .ok (.getfield 19, 3) := by decide +kernel
theorem d_Ham_setHamper_4 : decode b_Ham_setHamper 4 = .ok (.aload_n 0, 1) := by decide +kernel
theorem d_Ham_setHamper_5 : decode b_Ham_setHamper 5 = .ok (.getfield 10, 3) := by decide +kernel
theorem d_Ham_setHamper_8 : decode b_Ham_setHamper 8 = .ok (.invokevirtual 37, 3) := by decide +kernel
theorem d_Ham_setHamper_11 : decode b_Ham_setHamper 11 = .ok (.aload_n 0, 1) := by decide +kernel
theorem d_Ham_setHamper_12 : decode b_Ham_setHamper 12 = .ok (.aload_n 0, 1) := by decide +kernel
theorem d_Ham_setHamper_13 : decode b_Ham_setHamper 13 = .ok (.getfield 10, 3) := by decide +kernel
theorem d_Ham_setHamper_16 : decode b_Ham_setHamper 16 = .ok (.getfield 41, 3) := by decide +kernel
theorem d_Ham_setHamper_19 : decode b_Ham_setHamper 19 = .ok (.iload_n 1, 1) := by decide +kernel
theorem d_Ham_setHamper_20 : decode b_Ham_setHamper 20 = .ok (.iload_n 2, 1) := by decide +kernel
theorem d_Ham_setHamper_21 : decode b_Ham_setHamper 21 = .ok (.iload_n 3, 1) := by decide +kernel
theorem d_Ham_setHamper_22 : decode b_Ham_setHamper 22 = .ok (.invokevirtual 65, 3) := by decide +kernel
theorem d_Ham_setHamper_25 : decode b_Ham_setHamper 25 = .ok (.invokevirtual 48, 3) := by decide +kernel
theorem d_Ham_setHamper_28 : decode b_Ham_setHamper 28 = .ok (.ireturn, 1) := by decide +kernel
theorem d_Ham_choose_0 : decode b_Ham_choose 0 = .ok (.aload_n 0, 1) := by decide +kernel
theorem d_Ham_choose_1 : decode b_Ham_choose 1 = .ok (.getfield 19, 3) := by decide +kernel
theorem d_Ham_choose_4 : decode b_Ham_choose 4 = .ok (.aload_n 0, 1) := by decide +kernel
theorem d_Ham_choose_5 : decode b_Ham_choose 5 = .ok (.getfield 10, 3) := by decide +kernel
theorem d_Ham_choose_8 : decode b_Ham_choose 8 = .ok (.invokevirtual 37, 3) := by decide +kernel
theorem d_Ham_choose_11 : decode b_Ham_choose 11 = .ok (.aload_n 0, 1) := by decide +kernel
theorem d_Ham_choose_12 : decode b_Ham_choose 12 = .ok (.aload_n 0, 1) := by decide +kernel
theorem d_Ham_choose_13 : decode b_Ham_choose 13 = .ok (.getfield 10, 3) := by decide +kernel
theorem d_Ham_choose_16 : decode b_Ham_choose 16 = .ok (.getfield 41, 3) := by decide +kernel
theorem d_Ham_choose_19 : decode b_Ham_choose 19 = .ok (.iload_n 1, 1) := by decide +kernel
theorem d_Ham_choose_20 : decode b_Ham_choose 20 = .ok (.iload_n 2, 1) := by decide +kernel
theorem d_Ham_choose_21 : decode b_Ham_choose 21 = .ok (.invokevirtual 69, 3) := by decide +kernel
theorem d_Ham_choose_24 : decode b_Ham_choose 24 = .ok (.invokevirtual 48, 3) := by decide +kernel
theorem d_Ham_choose_27 : decode b_Ham_choose 27 = .ok (.ireturn, 1) := by decide +kernel
theorem d_Ham_giveUp_0 : decode b_Ham_giveUp 0 = .ok (.aload_n 0, 1) := by decide +kernel
theorem d_Ham_giveUp_1 : decode b_Ham_giveUp 1 = .ok (.getfield 19, 3) := by decide +kernel
theorem d_Ham_giveUp_4 : decode b_Ham_giveUp 4 = .ok (.aload_n 0, 1) := by decide +kernel
theorem d_Ham_giveUp_5 : decode b_Ham_giveUp 5 = .ok (.getfield 10, 3) := by decide +kernel
theorem d_Ham_giveUp_8 : decode b_Ham_giveUp 8 = .ok (.invokevirtual 37, 3) := by decide +kernel
theorem d_Ham_giveUp_11 : decode b_Ham_giveUp 11 = .ok (.aload_n 0, 1) := by decide +kernel
theorem d_Ham_giveUp_12 : decode b_Ham_giveUp 12 = .ok (.aload_n 0, 1) := by decide +kernel
theorem d_Ham_giveUp_13 : decode b_Ham_giveUp 13 = .ok (.getfield 10, 3) := by decide +kernel
theorem d_Ham_giveUp_16 : decode b_Ham_giveUp 16 = .ok (.getfield 41, 3) := by decide +kernel
theorem d_Ham_giveUp_19 : decode b_Ham_giveUp 19 = .ok (.iload_n 1, 1) := by decide +kernel
theorem d_Ham_giveUp_20 : decode b_Ham_giveUp 20 = .ok (.invokevirtual 72, 3) := by decide +kernel
theorem d_Ham_giveUp_23 : decode b_Ham_giveUp 23 = .ok (.invokevirtual 48, 3) := by decide +kernel
theorem d_Ham_giveUp_26 : decode b_Ham_giveUp 26 = .ok (.ireturn, 1) := by decide +kernel
theorem d_Ham_week_0 : decode b_Ham_week 0 = .ok (.aload_n 0, 1) := by decide +kernel
theorem d_Ham_week_1 : decode b_Ham_week 1 = .ok (.getfield 19, 3) := by decide +kernel
theorem d_Ham_week_4 : decode b_Ham_week 4 = .ok (.aload_n 0, 1) := by decide +kernel
theorem d_Ham_week_5 : decode b_Ham_week 5 = .ok (.getfield 10, 3) := by decide +kernel
theorem d_Ham_week_8 : decode b_Ham_week 8 = .ok (.invokevirtual 37, 3) := by decide +kernel
theorem d_Ham_week_11 : decode b_Ham_week 11 = .ok (.aload_n 0, 1) := by decide +kernel
theorem d_Ham_week_12 : decode b_Ham_week 12 = .ok (.aload_n 0, 1) := by decide +kernel
theorem d_Ham_week_13 : decode b_Ham_week 13 = .ok (.getfield 10, 3) := by decide +kernel
theorem d_Ham_week_16 : decode b_Ham_week 16 = .ok (.getfield 41, 3) := by decide +kernel
theorem d_Ham_week_19 : decode b_Ham_week 19 = .ok (.invokevirtual 75, 3) := by decide +kernel
theorem d_Ham_week_22 : decode b_Ham_week 22 = .ok (.invokevirtual 48, 3) := by decide +kernel
theorem d_Ham_week_25 : decode b_Ham_week 25 = .ok (.ireturn, 1) := by decide +kernel
theorem d_Ham_settle_0 : decode b_Ham_settle 0 = .ok (.aload_n 0, 1) := by decide +kernel
theorem d_Ham_settle_1 : decode b_Ham_settle 1 = .ok (.getfield 19, 3) := by decide +kernel
theorem d_Ham_settle_4 : decode b_Ham_settle 4 = .ok (.aload_n 0, 1) := by decide +kernel
theorem d_Ham_settle_5 : decode b_Ham_settle 5 = .ok (.getfield 10, 3) := by decide +kernel
theorem d_Ham_settle_8 : decode b_Ham_settle 8 = .ok (.invokevirtual 37, 3) := by decide +kernel
theorem d_Ham_settle_11 : decode b_Ham_settle 11 = .ok (.aload_n 0, 1) := by decide +kernel
theorem d_Ham_settle_12 : decode b_Ham_settle 12 = .ok (.aload_n 0, 1) := by decide +kernel
theorem d_Ham_settle_13 : decode b_Ham_settle 13 = .ok (.getfield 10, 3) := by decide +kernel
theorem d_Ham_settle_16 : decode b_Ham_settle 16 = .ok (.getfield 41, 3) := by decide +kernel
theorem d_Ham_settle_19 : decode b_Ham_settle 19 = .ok (.invokevirtual 78, 3) := by decide +kernel
theorem d_Ham_settle_22 : decode b_Ham_settle 22 = .ok (.invokevirtual 48, 3) := by decide +kernel
theorem d_Ham_settle_25 : decode b_Ham_settle 25 = .ok (.ireturn, 1) := by decide +kernel
theorem d_Ham_take_0 : decode b_Ham_take 0 = .ok (.aload_n 0, 1) := by decide +kernel
theorem d_Ham_take_1 : decode b_Ham_take 1 = .ok (.getfield 19, 3) := by decide +kernel
theorem d_Ham_take_4 : decode b_Ham_take 4 = .ok (.aload_n 0, 1) := by decide +kernel
theorem d_Ham_take_5 : decode b_Ham_take 5 = .ok (.getfield 10, 3) := by decide +kernel
theorem d_Ham_take_8 : decode b_Ham_take 8 = .ok (.invokevirtual 37, 3) := by decide +kernel
theorem d_Ham_take_11 : decode b_Ham_take 11 = .ok (.aload_n 0, 1) := by decide +kernel
theorem d_Ham_take_12 : decode b_Ham_take 12 = .ok (.aload_n 0, 1) := by decide +kernel
theorem d_Ham_take_13 : decode b_Ham_take 13 = .ok (.getfield 10, 3) := by decide +kernel
theorem d_Ham_take_16 : decode b_Ham_take 16 = .ok (.iload_n 1, 1) := by decide +kernel
theorem d_Ham_take_17 : decode b_Ham_take 17 = .ok (.invokevirtual 81, 3) := by decide +kernel
theorem d_Ham_take_20 : decode b_Ham_take 20 = .ok (.invokevirtual 48, 3) := by decide +kernel
theorem d_Ham_take_23 : decode b_Ham_take 23 = .ok (.ireturn, 1) := by decide +kernel
theorem d_Ham_restore_0 : decode b_Ham_restore 0 = .ok (.aload_n 0, 1) := by decide +kernel
theorem d_Ham_restore_1 : decode b_Ham_restore 1 = .ok (.getfield 19, 3) := by decide +kernel
theorem d_Ham_restore_4 : decode b_Ham_restore 4 = .ok (.aload_n 0, 1) := by decide +kernel
theorem d_Ham_restore_5 : decode b_Ham_restore 5 = .ok (.getfield 10, 3) := by decide +kernel
theorem d_Ham_restore_8 : decode b_Ham_restore 8 = .ok (.invokevirtual 37, 3) := by decide +kernel
theorem d_Ham_restore_11 : decode b_Ham_restore 11 = .ok (.aload_n 0, 1) := by decide +kernel
theorem d_Ham_restore_12 : decode b_Ham_restore 12 = .ok (.aload_n 0, 1) := by decide +kernel
theorem d_Ham_restore_13 : decode b_Ham_restore 13 = .ok (.getfield 10, 3) := by decide +kernel
theorem d_Ham_restore_16 : decode b_Ham_restore 16 = .ok (.iload_n 1, 1) := by decide +kernel
theorem d_Ham_restore_17 : decode b_Ham_restore 17 = .ok (.invokevirtual 84, 3) := by decide +kernel
theorem d_Ham_restore_20 : decode b_Ham_restore 20 = .ok (.invokevirtual 48, 3) := by decide +kernel
theorem d_Ham_restore_23 : decode b_Ham_restore 23 = .ok (.ireturn, 1) := by decide +kernel
theorem d_Ham_undo_0 : decode b_Ham_undo 0 = .ok (.aload_n 0, 1) := by decide +kernel
theorem d_Ham_undo_1 : decode b_Ham_undo 1 = .ok (.getfield 19, 3) := by decide +kernel
theorem d_Ham_undo_4 : decode b_Ham_undo 4 = .ok (.aload_n 0, 1) := by decide +kernel
theorem d_Ham_undo_5 : decode b_Ham_undo 5 = .ok (.getfield 10, 3) := by decide +kernel
theorem d_Ham_undo_8 : decode b_Ham_undo 8 = .ok (.invokevirtual 87, 3) := by decide +kernel
theorem d_Ham_undo_11 : decode b_Ham_undo 11 = .ok (.ifCond .eq 13, 3) := by decide +kernel
theorem d_Ham_undo_14 : decode b_Ham_undo 14 = .ok (.aload_n 0, 1) := by decide +kernel
theorem d_Ham_undo_15 : decode b_Ham_undo 15 = .ok (.getfield 19, 3) := by decide +kernel
theorem d_Ham_undo_18 : decode b_Ham_undo 18 = .ok (.getfield 91, 3) := by decide +kernel
theorem d_Ham_undo_21 : decode b_Ham_undo 21 = .ok (.goto 5, 3) := by decide +kernel
theorem d_Ham_undo_24 : decode b_Ham_undo 24 = .ok (.bipush (-2), 2) := by decide +kernel
theorem d_Ham_undo_26 : decode b_Ham_undo 26 = .ok (.ireturn, 1) := by decide +kernel
theorem d_Ham_append_0 : decode b_Ham_append 0 = .ok (.iload_n 1, 1) := by decide +kernel
theorem d_Ham_append_1 : decode b_Ham_append 1 = .ok (.iconst 1, 1) := by decide +kernel
theorem d_Ham_append_2 : decode b_Ham_append 2 = .ok (.if_icmp .lt 10, 3) := by decide +kernel
theorem d_Ham_append_5 : decode b_Ham_append 5 = .ok (.iload_n 1, 1) := by decide +kernel
theorem d_Ham_append_6 : decode b_Ham_append 6 = .ok (.sipush 255, 3) := by decide +kernel
theorem d_Ham_append_9 : decode b_Ham_append 9 = .ok (.if_icmp .le 5, 3) := by decide +kernel
theorem d_Ham_append_12 : decode b_Ham_append 12 = .ok (.iconst (-1), 1) := by decide +kernel
theorem d_Ham_append_13 : decode b_Ham_append 13 = .ok (.ireturn, 1) := by decide +kernel
theorem d_Ham_append_14 : decode b_Ham_append 14 = .ok (.aload_n 0, 1) := by decide +kernel
theorem d_Ham_append_15 : decode b_Ham_append 15 = .ok (.getfield 26, 3) := by decide +kernel
theorem d_Ham_append_18 : decode b_Ham_append 18 = .ok (.iload_n 1, 1) := by decide +kernel
theorem d_Ham_append_19 : decode b_Ham_append 19 = .ok (.invokevirtual 95, 3) := by decide +kernel
theorem d_Ham_append_22 : decode b_Ham_append 22 = .ok (.ifCond .eq 13, 3) := by decide +kernel
theorem d_Ham_append_25 : decode b_Ham_append 25 = .ok (.aload_n 0, 1) := by decide +kernel
theorem d_Ham_append_26 : decode b_Ham_append 26 = .ok (.getfield 26, 3) := by decide +kernel
theorem d_Ham_append_29 : decode b_Ham_append 29 = .ok (.getfield 99, 3) := by decide +kernel
theorem d_Ham_append_32 : decode b_Ham_append 32 = .ok (.goto 5, 3) := by decide +kernel
theorem d_Ham_append_35 : decode b_Ham_append 35 = .ok (.bipush (-3), 2) := by decide +kernel
theorem d_Ham_append_37 : decode b_Ham_append 37 = .ok (.ireturn, 1) := by decide +kernel
theorem d_Ham_carryOut_0 : decode b_Ham_carryOut 0 = .ok (.aload_n 0, 1) := by decide +kernel
theorem d_Ham_carryOut_1 : decode b_Ham_carryOut 1 = .ok (.getfield 26, 3) := by decide +kernel
theorem d_Ham_carryOut_4 : decode b_Ham_carryOut 4 = .ok (.invokevirtual 102, 3) := by decide +kernel
theorem d_Ham_carryOut_7 : decode b_Ham_carryOut 7 = .ok (.istore_n 1, 1) := by decide +kernel
theorem d_Ham_carryOut_8 : decode b_Ham_carryOut 8 = .ok (.iload_n 1, 1) := by decide +kernel
theorem d_Ham_carryOut_9 : decode b_Ham_carryOut 9 = .ok (.iconst (-1), 1) := by decide +kernel
theorem d_Ham_carryOut_10 : decode b_Ham_carryOut 10 = .ok (.if_icmp .eq 9, 3) := by decide +kernel
theorem d_Ham_carryOut_13 : decode b_Ham_carryOut 13 = .ok (.sipush (-1000), 3) := by decide +kernel
theorem d_Ham_carryOut_16 : decode b_Ham_carryOut 16 = .ok (.iload_n 1, 1) := by decide +kernel
theorem d_Ham_carryOut_17 : decode b_Ham_carryOut 17 = .ok (.isub, 1) := by decide +kernel
theorem d_Ham_carryOut_18 : decode b_Ham_carryOut 18 = .ok (.ireturn, 1) := by decide +kernel
theorem d_Ham_carryOut_19 : decode b_Ham_carryOut 19 = .ok (.aload_n 0, 1) := by decide +kernel
theorem d_Ham_carryOut_20 : decode b_Ham_carryOut 20 = .ok (.getfield 10, 3) := by decide +kernel
theorem d_Ham_carryOut_23 : decode b_Ham_carryOut 23 = .ok (.getfield 41, 3) := by decide +kernel
theorem d_Ham_carryOut_26 : decode b_Ham_carryOut 26 = .ok (.getfield 105, 3) := by decide +kernel
theorem d_Ham_carryOut_29 : decode b_Ham_carryOut 29 = .ok (.ifCond .eq 6, 3) := by decide +kernel
theorem d_Ham_carryOut_32 : decode b_Ham_carryOut 32 = .ok (.bipush (-2), 2) := by decide +kernel
theorem d_Ham_carryOut_34 : decode b_Ham_carryOut 34 = .ok (.ireturn, 1) := by decide +kernel
theorem d_Ham_carryOut_35 : decode b_Ham_carryOut 35 = .ok (.aload_n 0, 1) := by decide +kernel
theorem d_Ham_carryOut_36 : decode b_Ham_carryOut 36 = .ok (.getfield 19, 3) := by decide +kernel
theorem d_Ham_carryOut_39 : decode b_Ham_carryOut 39 = .ok (.aload_n 0, 1) := by decide +kernel
theorem d_Ham_carryOut_40 : decode b_Ham_carryOut 40 = .ok (.getfield 10, 3) := by decide +kernel
theorem d_Ham_carryOut_43 : decode b_Ham_carryOut 43 = .ok (.invokevirtual 37, 3) := by decide +kernel
theorem d_Ham_carryOut_46 : decode b_Ham_carryOut 46 = .ok (.aload_n 0, 1) := by decide +kernel
theorem d_Ham_carryOut_47 : decode b_Ham_carryOut 47 = .ok (.getfield 26, 3) := by decide +kernel
theorem d_Ham_carryOut_50 : decode b_Ham_carryOut 50 = .ok (.aload_n 0, 1) := by decide +kernel
theorem d_Ham_carryOut_51 : decode b_Ham_carryOut 51 = .ok (.getfield 10, 3) := by decide +kernel
theorem d_Ham_carryOut_54 : decode b_Ham_carryOut 54 = .ok (.getfield 41, 3) := by decide +kernel
theorem d_Ham_carryOut_57 : decode b_Ham_carryOut 57 = .ok (.invokevirtual 109, 3) := by decide +kernel
theorem d_Ham_carryOut_60 : decode b_Ham_carryOut 60 = .ok (.istore_n 2, 1) := by decide +kernel
theorem d_Ham_carryOut_61 : decode b_Ham_carryOut 61 = .ok (.aload_n 0, 1) := by decide +kernel
theorem d_Ham_carryOut_62 : decode b_Ham_carryOut 62 = .ok (.getfield 26, 3) := by decide +kernel
theorem d_Ham_carryOut_65 : decode b_Ham_carryOut 65 = .ok (.iconst 0, 1) := by decide +kernel
theorem d_Ham_carryOut_66 : decode b_Ham_carryOut 66 = .ok (.putfield 99, 3) := by decide +kernel
theorem d_Ham_carryOut_69 : decode b_Ham_carryOut 69 = .ok (.aload_n 0, 1) := by decide +kernel
theorem d_Ham_carryOut_70 : decode b_Ham_carryOut 70 = .ok (.iload_n 2, 1) := by decide +kernel
theorem d_Ham_carryOut_71 : decode b_Ham_carryOut 71 = .ok (.invokevirtual 48, 3) := by decide +kernel
theorem d_Ham_carryOut_74 : decode b_Ham_carryOut 74 = .ok (.ireturn, 1) := by decide +kernel
theorem d_Ham_count_0 : decode b_Ham_count 0 = .ok (.iload_n 1, 1) := by decide +kernel
theorem d_Ham_count_1 : decode b_Ham_count 1 = .ok (.tableswitch 51 13 15 #[27, 35, 43], 27) := by decide +kernel
theorem d_Ham_count_28 : decode b_Ham_count 28 = .ok (.aload_n 0, 1) := by decide +kernel
theorem d_Ham_count_29 : decode b_Ham_count 29 = .ok (.getfield 10, 3) := by decide +kernel
theorem d_Ham_count_32 : decode b_Ham_count 32 = .ok (.invokevirtual 113, 3) := by decide +kernel
theorem d_Ham_count_35 : decode b_Ham_count 35 = .ok (.ireturn, 1) := by decide +kernel
theorem d_Ham_count_36 : decode b_Ham_count 36 = .ok (.aload_n 0, 1) := by decide +kernel
theorem d_Ham_count_37 : decode b_Ham_count 37 = .ok (.getfield 19, 3) := by decide +kernel
theorem d_Ham_count_40 : decode b_Ham_count 40 = .ok (.getfield 91, 3) := by decide +kernel
theorem d_Ham_count_43 : decode b_Ham_count 43 = .ok (.ireturn, 1) := by decide +kernel
theorem d_Ham_count_44 : decode b_Ham_count 44 = .ok (.aload_n 0, 1) := by decide +kernel
theorem d_Ham_count_45 : decode b_Ham_count 45 = .ok (.getfield 26, 3) := by decide +kernel
theorem d_Ham_count_48 : decode b_Ham_count 48 = .ok (.getfield 99, 3) := by decide +kernel
theorem d_Ham_count_51 : decode b_Ham_count 51 = .ok (.ireturn, 1) := by decide +kernel
theorem d_Ham_count_52 : decode b_Ham_count 52 = .ok (.aload_n 0, 1) := by decide +kernel
theorem d_Ham_count_53 : decode b_Ham_count 53 = .ok (.getfield 10, 3) := by decide +kernel
theorem d_Ham_count_56 : decode b_Ham_count 56 = .ok (.getfield 41, 3) := by decide +kernel
theorem d_Ham_count_59 : decode b_Ham_count 59 = .ok (.iload_n 1, 1) := by decide +kernel
theorem d_Ham_count_60 : decode b_Ham_count 60 = .ok (.invokevirtual 116, 3) := by decide +kernel
theorem d_Ham_count_63 : decode b_Ham_count 63 = .ok (.ireturn, 1) := by decide +kernel
theorem d_Ham_member_0 : decode b_Ham_member 0 = .ok (.aload_n 0, 1) := by decide +kernel
theorem d_Ham_member_1 : decode b_Ham_member 1 = .ok (.getfield 10, 3) := by decide +kernel
theorem d_Ham_member_4 : decode b_Ham_member 4 = .ok (.getfield 41, 3) := by decide +kernel
theorem d_Ham_member_7 : decode b_Ham_member 7 = .ok (.iload_n 1, 1) := by decide +kernel
theorem d_Ham_member_8 : decode b_Ham_member 8 = .ok (.iload_n 2, 1) := by decide +kernel
theorem d_Ham_member_9 : decode b_Ham_member 9 = .ok (.invokevirtual 119, 3) := by decide +kernel
theorem d_Ham_member_12 : decode b_Ham_member 12 = .ok (.ireturn, 1) := by decide +kernel
theorem d_Ham_isGood_0 : decode b_Ham_isGood 0 = .ok (.aload_n 0, 1) := by decide +kernel
theorem d_Ham_isGood_1 : decode b_Ham_isGood 1 = .ok (.getfield 10, 3) := by decide +kernel
theorem d_Ham_isGood_4 : decode b_Ham_isGood 4 = .ok (.getfield 41, 3) := by decide +kernel
theorem d_Ham_isGood_7 : decode b_Ham_isGood 7 = .ok (.getfield 122, 3) := by decide +kernel
theorem d_Ham_isGood_10 : decode b_Ham_isGood 10 = .ok (.astore_n 3, 1) := by decide +kernel
theorem d_Ham_isGood_11 : decode b_Ham_isGood 11 = .ok (.aload_n 3, 1) := by decide +kernel
theorem d_Ham_isGood_12 : decode b_Ham_isGood 12 = .ok (.iload_n 1, 1) := by decide +kernel
theorem d_Ham_isGood_13 : decode b_Ham_isGood 13 = .ok (.invokevirtual 126, 3) := by decide +kernel
theorem d_Ham_isGood_16 : decode b_Ham_isGood 16 = .ok (.ifCond .eq 13, 3) := by decide +kernel
theorem d_Ham_isGood_19 : decode b_Ham_isGood 19 = .ok (.iload_n 2, 1) := by decide +kernel
theorem d_Ham_isGood_20 : decode b_Ham_isGood 20 = .ok (.ifCond .lt 9, 3) := by decide +kernel
theorem d_Ham_isGood_23 : decode b_Ham_isGood 23 = .ok (.iload_n 2, 1) := by decide +kernel
theorem d_Ham_isGood_24 : decode b_Ham_isGood 24 = .ok (.bipush 60, 2) := by decide +kernel
theorem d_Ham_isGood_26 : decode b_Ham_isGood 26 = .ok (.if_icmp .le 5, 3) := by decide +kernel
theorem d_Ham_isGood_29 : decode b_Ham_isGood 29 = .ok (.iconst (-1), 1) := by decide +kernel
theorem d_Ham_isGood_30 : decode b_Ham_isGood 30 = .ok (.ireturn, 1) := by decide +kernel
theorem d_Ham_isGood_31 : decode b_Ham_isGood 31 = .ok (.aload_n 3, 1) := by decide +kernel
theorem d_Ham_isGood_32 : decode b_Ham_isGood 32 = .ok (.iload_n 1, 1) := by decide +kernel
theorem d_Ham_isGood_33 : decode b_Ham_isGood 33 = .ok (.iload_n 2, 1) := by decide +kernel
theorem d_Ham_isGood_34 : decode b_Ham_isGood 34 = .ok (.invokevirtual 131, 3) := by decide +kernel
theorem d_Ham_isGood_37 : decode b_Ham_isGood 37 = .ok (.ifCond .eq 7, 3) := by decide +kernel
theorem d_Ham_isGood_40 : decode b_Ham_isGood 40 = .ok (.iconst 1, 1) := by decide +kernel
theorem d_Ham_isGood_41 : decode b_Ham_isGood 41 = .ok (.goto 4, 3) := by decide +kernel
theorem d_Ham_isGood_44 : decode b_Ham_isGood 44 = .ok (.iconst 0, 1) := by decide +kernel
theorem d_Ham_isGood_45 : decode b_Ham_isGood 45 = .ok (.ireturn, 1) := by decide +kernel
theorem d_Ham_hamper_0 : decode b_Ham_hamper 0 = .ok (.aload_n 0, 1) := by decide +kernel
theorem d_Ham_hamper_1 : decode b_Ham_hamper 1 = .ok (.getfield 10, 3) := by decide +kernel
theorem d_Ham_hamper_4 : decode b_Ham_hamper 4 = .ok (.getfield 41, 3) := by decide +kernel
theorem d_Ham_hamper_7 : decode b_Ham_hamper 7 = .ok (.getfield 135, 3) := by decide +kernel
theorem d_Ham_hamper_10 : decode b_Ham_hamper 10 = .ok (.iload_n 1, 1) := by decide +kernel
theorem d_Ham_hamper_11 : decode b_Ham_hamper 11 = .ok (.iload_n 2, 1) := by decide +kernel
theorem d_Ham_hamper_12 : decode b_Ham_hamper 12 = .ok (.invokevirtual 139, 3) := by decide +kernel
theorem d_Ham_hamper_15 : decode b_Ham_hamper 15 = .ok (.ireturn, 1) := by decide +kernel
theorem d_Ham_waiting_0 : decode b_Ham_waiting 0 = .ok (.iload_n 1, 1) := by decide +kernel
theorem d_Ham_waiting_1 : decode b_Ham_waiting 1 = .ok (.invokestatic 143, 3) := by decide +kernel
theorem d_Ham_waiting_4 : decode b_Ham_waiting 4 = .ok (.ifCond .eq 7, 3) := by decide +kernel
theorem d_Ham_waiting_7 : decode b_Ham_waiting 7 = .ok (.iload_n 2, 1) := by decide +kernel
theorem d_Ham_waiting_8 : decode b_Ham_waiting 8 = .ok (.ifCond .ge 5, 3) := by decide +kernel
theorem d_Ham_waiting_11 : decode b_Ham_waiting 11 = .ok (.iconst (-1), 1) := by decide +kernel
theorem d_Ham_waiting_12 : decode b_Ham_waiting 12 = .ok (.ireturn, 1) := by decide +kernel
theorem d_Ham_waiting_13 : decode b_Ham_waiting 13 = .ok (.aload_n 0, 1) := by decide +kernel
theorem d_Ham_waiting_14 : decode b_Ham_waiting 14 = .ok (.getfield 10, 3) := by decide +kernel
theorem d_Ham_waiting_17 : decode b_Ham_waiting 17 = .ok (.getfield 41, 3) := by decide +kernel
theorem d_Ham_waiting_20 : decode b_Ham_waiting 20 = .ok (.getfield 135, 3) := by decide +kernel
theorem d_Ham_waiting_23 : decode b_Ham_waiting 23 = .ok (.iload_n 1, 1) := by decide +kernel
theorem d_Ham_waiting_24 : decode b_Ham_waiting 24 = .ok (.iload_n 2, 1) := by decide +kernel
theorem d_Ham_waiting_25 : decode b_Ham_waiting 25 = .ok (.invokevirtual 146, 3) := by decide +kernel
theorem d_Ham_waiting_28 : decode b_Ham_waiting 28 = .ok (.ireturn, 1) := by decide +kernel
theorem d_Ham_would_0 : decode b_Ham_would 0 = .ok (.aload_n 0, 1) := by decide +kernel
theorem d_Ham_would_1 : decode b_Ham_would 1 = .ok (.getfield 10, 3) := by decide +kernel
theorem d_Ham_would_4 : decode b_Ham_would 4 = .ok (.getfield 41, 3) := by decide +kernel
theorem d_Ham_would_7 : decode b_Ham_would 7 = .ok (.astore_n 3, 1) := by decide +kernel
theorem d_Ham_would_8 : decode b_Ham_would 8 = .ok (.aload_n 3, 1) := by decide +kernel
theorem d_Ham_would_9 : decode b_Ham_would 9 = .ok (.getfield 122, 3) := by decide +kernel
theorem d_Ham_would_12 : decode b_Ham_would 12 = .ok (.iload_n 1, 1) := by decide +kernel
theorem d_Ham_would_13 : decode b_Ham_would 13 = .ok (.invokevirtual 126, 3) := by decide +kernel
theorem d_Ham_would_16 : decode b_Ham_would 16 = .ok (.ifCond .eq 12, 3) := by decide +kernel
theorem d_Ham_would_19 : decode b_Ham_would 19 = .ok (.iload_n 2, 1) := by decide +kernel
theorem d_Ham_would_20 : decode b_Ham_would 20 = .ok (.ifCond .lt 8, 3) := by decide +kernel
theorem d_Ham_would_23 : decode b_Ham_would 23 = .ok (.iload_n 2, 1) := by decide +kernel
theorem d_Ham_would_24 : decode b_Ham_would 24 = .ok (.iconst 2, 1) := by decide +kernel
theorem d_Ham_would_25 : decode b_Ham_would 25 = .ok (.if_icmp .le 5, 3) := by decide +kernel
theorem d_Ham_would_28 : decode b_Ham_would 28 = .ok (.iconst (-1), 1) := by decide +kernel
theorem d_Ham_would_29 : decode b_Ham_would 29 = .ok (.ireturn, 1) := by decide +kernel
theorem d_Ham_would_30 : decode b_Ham_would 30 = .ok (.aload_n 3, 1) := by decide +kernel
theorem d_Ham_would_31 : decode b_Ham_would 31 = .ok (.getfield 105, 3) := by decide +kernel
theorem d_Ham_would_34 : decode b_Ham_would 34 = .ok (.ifCond .eq 6, 3) := by decide +kernel
theorem d_Ham_would_37 : decode b_Ham_would 37 = .ok (.bipush (-2), 2) := by decide +kernel
theorem d_Ham_would_39 : decode b_Ham_would 39 = .ok (.ireturn, 1) := by decide +kernel
theorem d_Ham_would_40 : decode b_Ham_would 40 = .ok (.iload_n 2, 1) := by decide +kernel
theorem d_Ham_would_41 : decode b_Ham_would 41 = .ok (.ifCond .ne 9, 3) := by decide +kernel
theorem d_Ham_would_44 : decode b_Ham_would 44 = .ok (.aload_n 3, 1) := by decide +kernel
theorem d_Ham_would_45 : decode b_Ham_would 45 = .ok (.iload_n 1, 1) := by decide +kernel
theorem d_Ham_would_46 : decode b_Ham_would 46 = .ok (.invokevirtual 149, 3) := by decide +kernel
theorem d_Ham_would_49 : decode b_Ham_would 49 = .ok (.ireturn, 1) := by decide +kernel
theorem d_Ham_would_50 : decode b_Ham_would 50 = .ok (.aload_n 0, 1) := by decide +kernel
theorem d_Ham_would_51 : decode b_Ham_would 51 = .ok (.getfield 33, 3) := by decide +kernel
theorem d_Ham_would_54 : decode b_Ham_would 54 = .ok (.aload_n 3, 1) := by decide +kernel
theorem d_Ham_would_55 : decode b_Ham_would 55 = .ok (.invokevirtual 152, 3) := by decide +kernel
theorem d_Ham_would_58 : decode b_Ham_would 58 = .ok (.aload_n 0, 1) := by decide +kernel
theorem d_Ham_would_59 : decode b_Ham_would 59 = .ok (.getfield 33, 3) := by decide +kernel
theorem d_Ham_would_62 : decode b_Ham_would 62 = .ok (.invokevirtual 78, 3) := by decide +kernel
theorem d_Ham_would_65 : decode b_Ham_would 65 = .ok (.pop, 1) := by decide +kernel
theorem d_Ham_would_66 : decode b_Ham_would 66 = .ok (.iload_n 2, 1) := by decide +kernel
theorem d_Ham_would_67 : decode b_Ham_would 67 = .ok (.iconst 1, 1) := by decide +kernel
theorem d_Ham_would_68 : decode b_Ham_would 68 = .ok (.if_icmp .ne 16, 3) := by decide +kernel
theorem d_Ham_would_71 : decode b_Ham_would 71 = .ok (.aload_n 0, 1) := by decide +kernel
theorem d_Ham_would_72 : decode b_Ham_would 72 = .ok (.getfield 33, 3) := by decide +kernel
theorem d_Ham_would_75 : decode b_Ham_would 75 = .ok (.getfield 135, 3) := by decide +kernel
theorem d_Ham_would_78 : decode b_Ham_would 78 = .ok (.getfield 156, 3) := by decide +kernel
theorem d_Ham_would_81 : decode b_Ham_would 81 = .ok (.iload_n 1, 1) := by decide +kernel
theorem d_Ham_would_82 : decode b_Ham_would 82 = .ok (.iaload, 1) := by decide +kernel
theorem d_Ham_would_83 : decode b_Ham_would 83 = .ok (.ireturn, 1) := by decide +kernel
theorem d_Ham_would_84 : decode b_Ham_would 84 = .ok (.aload_n 0, 1) := by decide +kernel
theorem d_Ham_would_85 : decode b_Ham_would 85 = .ok (.getfield 33, 3) := by decide +kernel
theorem d_Ham_would_88 : decode b_Ham_would 88 = .ok (.getfield 122, 3) := by decide +kernel
theorem d_Ham_would_91 : decode b_Ham_would 91 = .ok (.getfield 160, 3) := by decide +kernel
theorem d_Ham_would_94 : decode b_Ham_would 94 = .ok (.iload_n 1, 1) := by decide +kernel
theorem d_Ham_would_95 : decode b_Ham_would 95 = .ok (.iaload, 1) := by decide +kernel
theorem d_Ham_would_96 : decode b_Ham_would 96 = .ok (.aload_n 3, 1) := by decide +kernel
theorem d_Ham_would_97 : decode b_Ham_would 97 = .ok (.getfield 122, 3) := by decide +kernel
theorem d_Ham_would_100 : decode b_Ham_would 100 = .ok (.getfield 160, 3) := by decide +kernel
theorem d_Ham_would_103 : decode b_Ham_would 103 = .ok (.iload_n 1, 1) := by decide +kernel
theorem d_Ham_would_104 : decode b_Ham_would 104 = .ok (.iaload, 1) := by decide +kernel
theorem d_Ham_would_105 : decode b_Ham_would 105 = .ok (.isub, 1) := by decide +kernel
theorem d_Ham_would_106 : decode b_Ham_would 106 = .ok (.ireturn, 1) := by decide +kernel
theorem d_Ham_bestKind_0 : decode b_Ham_bestKind 0 = .ok (.aload_n 0, 1) := by decide +kernel
theorem d_Ham_bestKind_1 : decode b_Ham_bestKind 1 = .ok (.getfield 10, 3) := by decide +kernel
theorem d_Ham_bestKind_4 : decode b_Ham_bestKind 4 = .ok (.getfield 41, 3) := by decide +kernel
theorem d_Ham_bestKind_7 : decode b_Ham_bestKind 7 = .ok (.astore_n 2, 1) := by decide +kernel
theorem d_Ham_bestKind_8 : decode b_Ham_bestKind 8 = .ok (.aload_n 2, 1) := by decide +kernel
theorem d_Ham_bestKind_9 : decode b_Ham_bestKind 9 = .ok (.getfield 122, 3) := by decide +kernel
theorem d_Ham_bestKind_12 : decode b_Ham_bestKind 12 = .ok (.iload_n 1, 1) := by decide +kernel
theorem d_Ham_bestKind_13 : decode b_Ham_bestKind 13 = .ok (.invokevirtual 126, 3) := by decide +kernel
theorem d_Ham_bestKind_16 : decode b_Ham_bestKind 16 = .ok (.ifCond .ne 5, 3) := by decide +kernel
theorem d_Ham_bestKind_19 : decode b_Ham_bestKind 19 = .ok (.iconst (-1), 1) := by decide +kernel
theorem d_Ham_bestKind_20 : decode b_Ham_bestKind 20 = .ok (.ireturn, 1) := by decide +kernel
theorem d_Ham_bestKind_21 : decode b_Ham_bestKind 21 = .ok (.aload_n 2, 1) := by decide +kernel
theorem d_Ham_bestKind_22 : decode b_Ham_bestKind 22 = .ok (.getfield 105, 3) := by decide +kernel
theorem d_Ham_bestKind_25 : decode b_Ham_bestKind 25 = .ok (.ifCond .eq 6, 3) := by decide +kernel
theorem d_Ham_bestKind_28 : decode b_Ham_bestKind 28 = .ok (.bipush (-2), 2) := by decide +kernel
theorem d_Ham_bestKind_30 : decode b_Ham_bestKind 30 = .ok (.ireturn, 1) := by decide +kernel
theorem d_Ham_bestKind_31 : decode b_Ham_bestKind 31 = .ok (.bipush (-9), 2) := by decide +kernel
theorem d_Ham_bestKind_33 : decode b_Ham_bestKind 33 = .ok (.istore_n 3, 1) := by decide +kernel
theorem d_Ham_bestKind_34 : decode b_Ham_bestKind 34 = .ok (.iconst 0, 1) := by decide +kernel
theorem d_Ham_bestKind_35 : decode b_Ham_bestKind 35 = .ok (.istore 4, 2) := by decide +kernel
theorem d_Ham_bestKind_37 : decode b_Ham_bestKind 37 = .ok (.iload 4, 2) := by decide +kernel
theorem d_Ham_bestKind_39 : decode b_Ham_bestKind 39 = .ok (.iconst 4, 1) := by decide +kernel
theorem d_Ham_bestKind_40 : decode b_Ham_bestKind 40 = .ok (.if_icmp .ge 62, 3) := by decide +kernel
theorem d_Ham_bestKind_43 : decode b_Ham_bestKind 43 = .ok (.iload_n 3, 1) := by decide +kernel
theorem d_Ham_bestKind_44 : decode b_Ham_bestKind 44 = .ok (.bipush (-9), 2) := by decide +kernel
theorem d_Ham_bestKind_46 : decode b_Ham_bestKind 46 = .ok (.if_icmp .eq 25, 3) := by decide +kernel
theorem d_Ham_bestKind_49 : decode b_Ham_bestKind 49 = .ok (.aload_n 2, 1) := by decide +kernel
theorem d_Ham_bestKind_50 : decode b_Ham_bestKind 50 = .ok (.getfield 135, 3) := by decide +kernel
theorem d_Ham_bestKind_53 : decode b_Ham_bestKind 53 = .ok (.getfield 163, 3) := by decide +kernel
theorem d_Ham_bestKind_56 : decode b_Ham_bestKind 56 = .ok (.iload 4, 2) := by decide +kernel
theorem d_Ham_bestKind_58 : decode b_Ham_bestKind 58 = .ok (.iaload, 1) := by decide +kernel
theorem d_Ham_bestKind_59 : decode b_Ham_bestKind 59 = .ok (.aload_n 2, 1) := by decide +kernel
theorem d_Ham_bestKind_60 : decode b_Ham_bestKind 60 = .ok (.getfield 135, 3) := by decide +kernel
theorem d_Ham_bestKind_63 : decode b_Ham_bestKind 63 = .ok (.getfield 163, 3) := by decide +kernel
theorem d_Ham_bestKind_66 : decode b_Ham_bestKind 66 = .ok (.iload_n 3, 1) := by decide +kernel
theorem d_Ham_bestKind_67 : decode b_Ham_bestKind 67 = .ok (.iaload, 1) := by decide +kernel
theorem d_Ham_bestKind_68 : decode b_Ham_bestKind 68 = .ok (.if_icmp .le 7, 3) := by decide +kernel
theorem d_Ham_bestKind_71 : decode b_Ham_bestKind 71 = .ok (.iconst 1, 1) := by decide +kernel
theorem d_Ham_bestKind_72 : decode b_Ham_bestKind 72 = .ok (.goto 4, 3) := by decide +kernel
theorem d_Ham_bestKind_75 : decode b_Ham_bestKind 75 = .ok (.iconst 0, 1) := by decide +kernel
theorem d_Ham_bestKind_76 : decode b_Ham_bestKind 76 = .ok (.istore 5, 2) := by decide +kernel
theorem d_Ham_bestKind_78 : decode b_Ham_bestKind 78 = .ok (.iload 5, 2) := by decide +kernel
theorem d_Ham_bestKind_80 : decode b_Ham_bestKind 80 = .ok (.ifCond .eq 16, 3) := by decide +kernel
theorem d_Ham_bestKind_83 : decode b_Ham_bestKind 83 = .ok (.aload_n 0, 1) := by decide +kernel
theorem d_Ham_bestKind_84 : decode b_Ham_bestKind 84 = .ok (.iload_n 1, 1) := by decide +kernel
theorem d_Ham_bestKind_85 : decode b_Ham_bestKind 85 = .ok (.iload 4, 2) := by decide +kernel
theorem d_Ham_bestKind_87 : decode b_Ham_bestKind 87 = .ok (.invokevirtual 166, 3) := by decide +kernel
theorem d_Ham_bestKind_90 : decode b_Ham_bestKind 90 = .ok (.ifCond .eq 6, 3) := by decide +kernel
theorem d_Ham_bestKind_93 : decode b_Ham_bestKind 93 = .ok (.iload 4, 2) := by decide +kernel
theorem d_Ham_bestKind_95 : decode b_Ham_bestKind 95 = .ok (.istore_n 3, 1) := by decide +kernel
theorem d_Ham_bestKind_96 : decode b_Ham_bestKind 96 = .ok (.iinc 4 1, 3) := by decide +kernel
theorem d_Ham_bestKind_99 : decode b_Ham_bestKind 99 = .ok (.goto (-62), 3) := by decide +kernel
theorem d_Ham_bestKind_102 : decode b_Ham_bestKind 102 = .ok (.iload_n 3, 1) := by decide +kernel
theorem d_Ham_bestKind_103 : decode b_Ham_bestKind 103 = .ok (.ireturn, 1) := by decide +kernel
theorem d_Ham_weeksFor_0 : decode b_Ham_weeksFor 0 = .ok (.aload_n 0, 1) := by decide +kernel
theorem d_Ham_weeksFor_1 : decode b_Ham_weeksFor 1 = .ok (.getfield 10, 3) := by decide +kernel
theorem d_Ham_weeksFor_4 : decode b_Ham_weeksFor 4 = .ok (.getfield 41, 3) := by decide +kernel
theorem d_Ham_weeksFor_7 : decode b_Ham_weeksFor 7 = .ok (.astore 4, 2) := by decide +kernel
theorem d_Ham_weeksFor_9 : decode b_Ham_weeksFor 9 = .ok (.aload 4, 2) := by decide +kernel
theorem d_Ham_weeksFor_11 : decode b_Ham_weeksFor 11 = .ok (.getfield 122, 3) := by decide +kernel
theorem d_Ham_weeksFor_14 : decode b_Ham_weeksFor 14 = .ok (.iload_n 1, 1) := by decide +kernel
theorem d_Ham_weeksFor_15 : decode b_Ham_weeksFor 15 = .ok (.invokevirtual 126, 3) := by decide +kernel
theorem d_Ham_weeksFor_18 : decode b_Ham_weeksFor 18 = .ok (.ifCond .eq 20, 3) := by decide +kernel
theorem d_Ham_weeksFor_21 : decode b_Ham_weeksFor 21 = .ok (.iload_n 2, 1) := by decide +kernel
theorem d_Ham_weeksFor_22 : decode b_Ham_weeksFor 22 = .ok (.invokestatic 143, 3) := by decide +kernel
theorem d_Ham_weeksFor_25 : decode b_Ham_weeksFor 25 = .ok (.ifCond .eq 13, 3) := by decide +kernel
theorem d_Ham_weeksFor_28 : decode b_Ham_weeksFor 28 = .ok (.iload_n 3, 1) := by decide +kernel
theorem d_Ham_weeksFor_29 : decode b_Ham_weeksFor 29 = .ok (.iconst 1, 1) := by decide +kernel
theorem d_Ham_weeksFor_30 : decode b_Ham_weeksFor 30 = .ok (.if_icmp .lt 8, 3) := by decide +kernel
theorem d_Ham_weeksFor_33 : decode b_Ham_weeksFor 33 = .ok (.iload_n 3, 1) := by decide +kernel
theorem d_Ham_weeksFor_34 : decode b_Ham_weeksFor 34 = .ok (.iconst 5, 1) := by decide +kernel
theorem d_Ham_weeksFor_35 : decode b_Ham_weeksFor 35 = .ok (.if_icmp .le 5, 3) := by decide +kernel
theorem d_Ham_weeksFor_38 : decode b_Ham_weeksFor 38 = .ok (.iconst (-1), 1) := by decide +kernel
theorem d_Ham_weeksFor_39 : decode b_Ham_weeksFor 39 = .ok (.ireturn, 1) := by decide +kernel
theorem d_Ham_weeksFor_40 : decode b_Ham_weeksFor 40 = .ok (.aload 4, 2) := by decide +kernel
theorem d_Ham_weeksFor_42 : decode b_Ham_weeksFor 42 = .ok (.getfield 122, 3) := by decide +kernel
theorem d_Ham_weeksFor_45 : decode b_Ham_weeksFor 45 = .ok (.iload_n 1, 1) := by decide +kernel
theorem d_Ham_weeksFor_46 : decode b_Ham_weeksFor 46 = .ok (.invokevirtual 169, 3) := by decide +kernel
theorem d_Ham_weeksFor_49 : decode b_Ham_weeksFor 49 = .ok (.ifCond .ne 6, 3) := by decide +kernel
theorem d_Ham_weeksFor_52 : decode b_Ham_weeksFor 52 = .ok (.bipush (-2), 2) := by decide +kernel
theorem d_Ham_weeksFor_54 : decode b_Ham_weeksFor 54 = .ok (.ireturn, 1) := by decide +kernel
theorem d_Ham_weeksFor_55 : decode b_Ham_weeksFor 55 = .ok (.aload 4, 2) := by decide +kernel
theorem d_Ham_weeksFor_57 : decode b_Ham_weeksFor 57 = .ok (.getfield 122, 3) := by decide +kernel
theorem d_Ham_weeksFor_60 : decode b_Ham_weeksFor 60 = .ok (.iload_n 1, 1) := by decide +kernel
theorem d_Ham_weeksFor_61 : decode b_Ham_weeksFor 61 = .ok (.aload 4, 2) := by decide +kernel
theorem d_Ham_weeksFor_63 : decode b_Ham_weeksFor 63 = .ok (.getfield 172, 3) := by decide +kernel
theorem d_Ham_weeksFor_66 : decode b_Ham_weeksFor 66 = .ok (.invokevirtual 131, 3) := by decide +kernel
theorem d_Ham_weeksFor_69 : decode b_Ham_weeksFor 69 = .ok (.ifCond .eq 7, 3) := by decide +kernel
theorem d_Ham_weeksFor_72 : decode b_Ham_weeksFor 72 = .ok (.iconst 0, 1) := by decide +kernel
theorem d_Ham_weeksFor_73 : decode b_Ham_weeksFor 73 = .ok (.goto 4, 3) := by decide +kernel
theorem d_Ham_weeksFor_76 : decode b_Ham_weeksFor 76 = .ok (.iload_n 3, 1) := by decide +kernel
theorem d_Ham_weeksFor_77 : decode b_Ham_weeksFor 77 = .ok (.istore 5, 2) := by decide +kernel
theorem d_Ham_weeksFor_79 : decode b_Ham_weeksFor 79 = .ok (.aload 4, 2) := by decide +kernel
theorem d_Ham_weeksFor_81 : decode b_Ham_weeksFor 81 = .ok (.getfield 135, 3) := by decide +kernel
theorem d_Ham_weeksFor_84 : decode b_Ham_weeksFor 84 = .ok (.getfield 163, 3) := by decide +kernel
theorem d_Ham_weeksFor_87 : decode b_Ham_weeksFor 87 = .ok (.iload_n 2, 1) := by decide +kernel
theorem d_Ham_weeksFor_88 : decode b_Ham_weeksFor 88 = .ok (.iaload, 1) := by decide +kernel
theorem d_Ham_weeksFor_89 : decode b_Ham_weeksFor 89 = .ok (.aload 4, 2) := by decide +kernel
theorem d_Ham_weeksFor_91 : decode b_Ham_weeksFor 91 = .ok (.getfield 122, 3) := by decide +kernel
theorem d_Ham_weeksFor_94 : decode b_Ham_weeksFor 94 = .ok (.getfield 175, 3) := by decide +kernel
theorem d_Ham_weeksFor_97 : decode b_Ham_weeksFor 97 = .ok (.iload_n 1, 1) := by decide +kernel
theorem d_Ham_weeksFor_98 : decode b_Ham_weeksFor 98 = .ok (.iaload, 1) := by decide +kernel
theorem d_Ham_weeksFor_99 : decode b_Ham_weeksFor 99 = .ok (.isub, 1) := by decide +kernel
theorem d_Ham_weeksFor_100 : decode b_Ham_weeksFor 100 = .ok (.iload 5, 2) := by decide +kernel
theorem d_Ham_weeksFor_102 : decode b_Ham_weeksFor 102 = .ok (.isub, 1) := by decide +kernel
theorem d_Ham_weeksFor_103 : decode b_Ham_weeksFor 103 = .ok (.istore 6, 2) := by decide +kernel
theorem d_Ham_weeksFor_105 : decode b_Ham_weeksFor 105 = .ok (.iload 6, 2) := by decide +kernel
theorem d_Ham_weeksFor_107 : decode b_Ham_weeksFor 107 = .ok (.ifCond .gt 7, 3) := by decide +kernel
theorem d_Ham_weeksFor_110 : decode b_Ham_weeksFor 110 = .ok (.iconst 0, 1) := by decide +kernel
theorem d_Ham_weeksFor_111 : decode b_Ham_weeksFor 111 = .ok (.goto 11, 3) := by decide +kernel
theorem d_Ham_weeksFor_114 : decode b_Ham_weeksFor 114 = .ok (.iload 6, 2) := by decide +kernel
theorem d_Ham_weeksFor_116 : decode b_Ham_weeksFor 116 = .ok (.iload_n 3, 1) := by decide +kernel
theorem d_Ham_weeksFor_117 : decode b_Ham_weeksFor 117 = .ok (.iadd, 1) := by decide +kernel
theorem d_Ham_weeksFor_118 : decode b_Ham_weeksFor 118 = .ok (.iconst 1, 1) := by decide +kernel
theorem d_Ham_weeksFor_119 : decode b_Ham_weeksFor 119 = .ok (.isub, 1) := by decide +kernel
theorem d_Ham_weeksFor_120 : decode b_Ham_weeksFor 120 = .ok (.iload_n 3, 1) := by decide +kernel
theorem d_Ham_weeksFor_121 : decode b_Ham_weeksFor 121 = .ok (.idiv, 1) := by decide +kernel
theorem d_Ham_weeksFor_122 : decode b_Ham_weeksFor 122 = .ok (.ireturn, 1) := by decide +kernel
theorem d_Ham_recorded_0 : decode b_Ham_recorded 0 = .ok (.iload_n 1, 1) := by decide +kernel
theorem d_Ham_recorded_1 : decode b_Ham_recorded 1 = .ok (.ifCond .lt 10, 3) := by decide +kernel
theorem d_Ham_recorded_4 : decode b_Ham_recorded 4 = .ok (.aload_n 0, 1) := by decide +kernel
theorem d_Ham_recorded_5 : decode b_Ham_recorded 5 = .ok (.getfield 19, 3) := by decide +kernel
theorem d_Ham_recorded_8 : decode b_Ham_recorded 8 = .ok (.invokevirtual 178, 3) := by decide +kernel
theorem d_Ham_recorded_11 : decode b_Ham_recorded 11 = .ok (.iload_n 1, 1) := by decide +kernel
theorem d_Ham_recorded_12 : decode b_Ham_recorded 12 = .ok (.ireturn, 1) := by decide +kernel
theorem d_Ham_wouldGet_0 : decode b_Ham_wouldGet 0 = .ok (.aload_n 0, 1) := by decide +kernel
theorem d_Ham_wouldGet_1 : decode b_Ham_wouldGet 1 = .ok (.getfield 33, 3) := by decide +kernel
theorem d_Ham_wouldGet_4 : decode b_Ham_wouldGet 4 = .ok (.aload_n 0, 1) := by decide +kernel
theorem d_Ham_wouldGet_5 : decode b_Ham_wouldGet 5 = .ok (.getfield 10, 3) := by decide +kernel
theorem d_Ham_wouldGet_8 : decode b_Ham_wouldGet 8 = .ok (.getfield 41, 3) := by decide +kernel
theorem d_Ham_wouldGet_11 : decode b_Ham_wouldGet 11 = .ok (.invokevirtual 152, 3) := by decide +kernel
theorem d_Ham_wouldGet_14 : decode b_Ham_wouldGet 14 = .ok (.aload_n 0, 1) := by decide +kernel
theorem d_Ham_wouldGet_15 : decode b_Ham_wouldGet 15 = .ok (.getfield 33, 3) := by decide +kernel
theorem d_Ham_wouldGet_18 : decode b_Ham_wouldGet 18 = .ok (.iload_n 1, 1) := by decide +kernel
theorem d_Ham_wouldGet_19 : decode b_Ham_wouldGet 19 = .ok (.iload_n 2, 1) := by decide +kernel
theorem d_Ham_wouldGet_20 : decode b_Ham_wouldGet 20 = .ok (.invokevirtual 69, 3) := by decide +kernel
theorem d_Ham_wouldGet_23 : decode b_Ham_wouldGet 23 = .ok (.pop, 1) := by decide +kernel
theorem d_Ham_wouldGet_24 : decode b_Ham_wouldGet 24 = .ok (.aload_n 0, 1) := by decide +kernel
theorem d_Ham_wouldGet_25 : decode b_Ham_wouldGet 25 = .ok (.getfield 33, 3) := by decide +kernel
theorem d_Ham_wouldGet_28 : decode b_Ham_wouldGet 28 = .ok (.invokevirtual 78, 3) := by decide +kernel
theorem d_Ham_wouldGet_31 : decode b_Ham_wouldGet 31 = .ok (.pop, 1) := by decide +kernel
theorem d_Ham_wouldGet_32 : decode b_Ham_wouldGet 32 = .ok (.aload_n 0, 1) := by decide +kernel
theorem d_Ham_wouldGet_33 : decode b_Ham_wouldGet 33 = .ok (.getfield 33, 3) := by decide +kernel
theorem d_Ham_wouldGet_36 : decode b_Ham_wouldGet 36 = .ok (.getfield 135, 3) := by decide +kernel
theorem d_Ham_wouldGet_39 : decode b_Ham_wouldGet 39 = .ok (.getfield 156, 3) := by decide +kernel
theorem d_Ham_wouldGet_42 : decode b_Ham_wouldGet 42 = .ok (.iload_n 1, 1) := by decide +kernel
theorem d_Ham_wouldGet_43 : decode b_Ham_wouldGet 43 = .ok (.iaload, 1) := by decide +kernel
theorem d_Ham_wouldGet_44 : decode b_Ham_wouldGet 44 = .ok (.iload_n 2, 1) := by decide +kernel
theorem d_Ham_wouldGet_45 : decode b_Ham_wouldGet 45 = .ok (.if_icmp .ne 7, 3) := by decide +kernel
theorem d_Ham_wouldGet_48 : decode b_Ham_wouldGet 48 = .ok (.iconst 1, 1) := by decide +kernel
theorem d_Ham_wouldGet_49 : decode b_Ham_wouldGet 49 = .ok (.goto 4, 3) := by decide +kernel
theorem d_Ham_wouldGet_52 : decode b_Ham_wouldGet 52 = .ok (.iconst 0, 1) := by decide +kernel
theorem d_Ham_wouldGet_53 : decode b_Ham_wouldGet 53 = .ok (.ireturn, 1) := by decide +kernel
theorem d_Ham_isKind_0 : decode b_Ham_isKind 0 = .ok (.iload_n 0, 1) := by decide +kernel
theorem d_Ham_isKind_1 : decode b_Ham_isKind 1 = .ok (.ifCond .lt 12, 3) := by decide +kernel
theorem d_Ham_isKind_4 : decode b_Ham_isKind 4 = .ok (.iload_n 0, 1) := by decide +kernel
theorem d_Ham_isKind_5 : decode b_Ham_isKind 5 = .ok (.iconst 4, 1) := by decide +kernel
theorem d_Ham_isKind_6 : decode b_Ham_isKind 6 = .ok (.if_icmp .ge 7, 3) := by decide +kernel
theorem d_Ham_isKind_9 : decode b_Ham_isKind 9 = .ok (.iconst 1, 1) := by decide +kernel
theorem d_Ham_isKind_10 : decode b_Ham_isKind 10 = .ok (.goto 4, 3) := by decide +kernel
theorem d_Ham_isKind_13 : decode b_Ham_isKind 13 = .ok (.iconst 0, 1) := by decide +kernel
theorem d_Ham_isKind_14 : decode b_Ham_isKind 14 = .ok (.ireturn, 1) := by decide +kernel
theorem d_Lng_bitCount_0 : decode b_Lng_bitCount 0 = .ok (.lload_n 0, 1) := by decide +kernel
theorem d_Lng_bitCount_1 : decode b_Lng_bitCount 1 = .ok (.lload_n 0, 1) := by decide +kernel
theorem d_Lng_bitCount_2 : decode b_Lng_bitCount 2 = .ok (.iconst 1, 1) := by decide +kernel
theorem d_Lng_bitCount_3 : decode b_Lng_bitCount 3 = .ok (.lushr, 1) := by decide +kernel
theorem d_Lng_bitCount_4 : decode b_Lng_bitCount 4 = .ok (.ldc2_w 314, 3) := by decide +kernel
theorem d_Lng_bitCount_7 : decode b_Lng_bitCount 7 = .ok (.land, 1) := by decide +kernel
theorem d_Lng_bitCount_8 : decode b_Lng_bitCount 8 = .ok (.lsub, 1) := by decide +kernel
theorem d_Lng_bitCount_9 : decode b_Lng_bitCount 9 = .ok (.lstore_n 0, 1) := by decide +kernel
theorem d_Lng_bitCount_10 : decode b_Lng_bitCount 10 = .ok (.lload_n 0, 1) := by decide +kernel
theorem d_Lng_bitCount_11 : decode b_Lng_bitCount 11 = .ok (.ldc2_w 316, 3) := by decide +kernel
theorem d_Lng_bitCount_14 : decode b_Lng_bitCount 14 = .ok (.land, 1) := by decide +kernel
theorem d_Lng_bitCount_15 : decode b_Lng_bitCount 15 = .ok (.lload_n 0, 1) := by decide +kernel
theorem d_Lng_bitCount_16 : decode b_Lng_bitCount 16 = .ok (.iconst 2, 1) := by decide +kernel
theorem d_Lng_bitCount_17 : decode b_Lng_bitCount 17 = .ok (.lushr, 1) := by decide +kernel
theorem d_Lng_bitCount_18 : decode b_Lng_bitCount 18 = .ok (.ldc2_w 316, 3) := by decide +kernel
theorem d_Lng_bitCount_21 : decode b_Lng_bitCount 21 = .ok (.land, 1) := by decide +kernel
theorem d_Lng_bitCount_22 : decode b_Lng_bitCount 22 = .ok (.ladd, 1) := by decide +kernel
theorem d_Lng_bitCount_23 : decode b_Lng_bitCount 23 = .ok (.lstore_n 0, 1) := by decide +kernel
theorem d_Lng_bitCount_24 : decode b_Lng_bitCount 24 = .ok (.lload_n 0, 1) := by decide +kernel
theorem d_Lng_bitCount_25 : decode b_Lng_bitCount 25 = .ok (.lload_n 0, 1) := by decide +kernel
theorem d_Lng_bitCount_26 : decode b_Lng_bitCount 26 = .ok (.iconst 4, 1) := by decide +kernel
theorem d_Lng_bitCount_27 : decode b_Lng_bitCount 27 = .ok (.lushr, 1) := by decide +kernel
theorem d_Lng_bitCount_28 : decode b_Lng_bitCount 28 = .ok (.ladd, 1) := by decide +kernel
theorem d_Lng_bitCount_29 : decode b_Lng_bitCount 29 = .ok (.ldc2_w 318, 3) := by decide +kernel
theorem d_Lng_bitCount_32 : decode b_Lng_bitCount 32 = .ok (.land, 1) := by decide +kernel
theorem d_Lng_bitCount_33 : decode b_Lng_bitCount 33 = .ok (.lstore_n 0, 1) := by decide +kernel
theorem d_Lng_bitCount_34 : decode b_Lng_bitCount 34 = .ok (.lload_n 0, 1) := by decide +kernel
theorem d_Lng_bitCount_35 : decode b_Lng_bitCount 35 = .ok (.lload_n 0, 1) := by decide +kernel
theorem d_Lng_bitCount_36 : decode b_Lng_bitCount 36 = .ok (.bipush 8, 2) := by decide +kernel
theorem d_Lng_bitCount_38 : decode b_Lng_bitCount 38 = .ok (.lushr, 1) := by decide +kernel
theorem d_Lng_bitCount_39 : decode b_Lng_bitCount 39 = .ok (.ladd, 1) := by decide +kernel
theorem d_Lng_bitCount_40 : decode b_Lng_bitCount 40 = .ok (.lstore_n 0, 1) := by decide +kernel
theorem d_Lng_bitCount_41 : decode b_Lng_bitCount 41 = .ok (.lload_n 0, 1) := by decide +kernel
theorem d_Lng_bitCount_42 : decode b_Lng_bitCount 42 = .ok (.lload_n 0, 1) := by decide +kernel
theorem d_Lng_bitCount_43 : decode b_Lng_bitCount 43 = .ok (.bipush 16, 2) := by decide +kernel
theorem d_Lng_bitCount_45 : decode b_Lng_bitCount 45 = .ok (.lushr, 1) := by decide +kernel
theorem d_Lng_bitCount_46 : decode b_Lng_bitCount 46 = .ok (.ladd, 1) := by decide +kernel
theorem d_Lng_bitCount_47 : decode b_Lng_bitCount 47 = .ok (.lstore_n 0, 1) := by decide +kernel
theorem d_Lng_bitCount_48 : decode b_Lng_bitCount 48 = .ok (.lload_n 0, 1) := by decide +kernel
theorem d_Lng_bitCount_49 : decode b_Lng_bitCount 49 = .ok (.lload_n 0, 1) := by decide +kernel
theorem d_Lng_bitCount_50 : decode b_Lng_bitCount 50 = .ok (.bipush 32, 2) := by decide +kernel
theorem d_Lng_bitCount_52 : decode b_Lng_bitCount 52 = .ok (.lushr, 1) := by decide +kernel
theorem d_Lng_bitCount_53 : decode b_Lng_bitCount 53 = .ok (.ladd, 1) := by decide +kernel
theorem d_Lng_bitCount_54 : decode b_Lng_bitCount 54 = .ok (.lstore_n 0, 1) := by decide +kernel
theorem d_Lng_bitCount_55 : decode b_Lng_bitCount 55 = .ok (.lload_n 0, 1) := by decide +kernel
theorem d_Lng_bitCount_56 : decode b_Lng_bitCount 56 = .ok (.l2i, 1) := by decide +kernel
theorem d_Lng_bitCount_57 : decode b_Lng_bitCount 57 = .ok (.bipush 127, 2) := by decide +kernel
theorem d_Lng_bitCount_59 : decode b_Lng_bitCount 59 = .ok (.iand, 1) := by decide +kernel
theorem d_Lng_bitCount_60 : decode b_Lng_bitCount 60 = .ok (.ireturn, 1) := by decide +kernel
theorem d_Mth_min_0 : decode b_Mth_min 0 = .ok (.iload_n 0, 1) := by decide +kernel
theorem d_Mth_min_1 : decode b_Mth_min 1 = .ok (.iload_n 1, 1) := by decide +kernel
theorem d_Mth_min_2 : decode b_Mth_min 2 = .ok (.if_icmp .gt 7, 3) := by decide +kernel
theorem d_Mth_min_5 : decode b_Mth_min 5 = .ok (.iload_n 0, 1) := by decide +kernel
theorem d_Mth_min_6 : decode b_Mth_min 6 = .ok (.goto 4, 3) := by decide +kernel
theorem d_Mth_min_9 : decode b_Mth_min 9 = .ok (.iload_n 1, 1) := by decide +kernel
theorem d_Mth_min_10 : decode b_Mth_min 10 = .ok (.ireturn, 1) := by decide +kernel
theorem d_Arr_fill_0 : decode b_Arr_fill 0 = .ok (.iconst 0, 1) := by decide +kernel
theorem d_Arr_fill_1 : decode b_Arr_fill 1 = .ok (.istore_n 2, 1) := by decide +kernel
theorem d_Arr_fill_2 : decode b_Arr_fill 2 = .ok (.aload_n 0, 1) := by decide +kernel
theorem d_Arr_fill_3 : decode b_Arr_fill 3 = .ok (.arraylength, 1) := by decide +kernel
theorem d_Arr_fill_4 : decode b_Arr_fill 4 = .ok (.istore_n 3, 1) := by decide +kernel
theorem d_Arr_fill_5 : decode b_Arr_fill 5 = .ok (.iload_n 2, 1) := by decide +kernel
theorem d_Arr_fill_6 : decode b_Arr_fill 6 = .ok (.iload_n 3, 1) := by decide +kernel
theorem d_Arr_fill_7 : decode b_Arr_fill 7 = .ok (.if_icmp .ge 13, 3) := by decide +kernel
theorem d_Arr_fill_10 : decode b_Arr_fill 10 = .ok (.aload_n 0, 1) := by decide +kernel
theorem d_Arr_fill_11 : decode b_Arr_fill 11 = .ok (.iload_n 2, 1) := by decide +kernel
theorem d_Arr_fill_12 : decode b_Arr_fill 12 = .ok (.iload_n 1, 1) := by decide +kernel
theorem d_Arr_fill_13 : decode b_Arr_fill 13 = .ok (.iastore, 1) := by decide +kernel
theorem d_Arr_fill_14 : decode b_Arr_fill 14 = .ok (.iinc 2 1, 3) := by decide +kernel
theorem d_Arr_fill_17 : decode b_Arr_fill 17 = .ok (.goto (-12), 3) := by decide +kernel
theorem d_Arr_fill_20 : decode b_Arr_fill 20 = .ok (.return_, 1) := by decide +kernel
theorem d_Law_cell_0 : decode b_Law_cell 0 = .ok (.iload_n 1, 1) := by decide +kernel
theorem d_Law_cell_1 : decode b_Law_cell 1 = .ok (.aload_n 0, 1) := by decide +kernel
theorem d_Law_cell_2 : decode b_Law_cell 2 = .ok (.arraylength, 1) := by decide +kernel
theorem d_Law_cell_3 : decode b_Law_cell 3 = .ok (.if_icmp .ge 9, 3) := by decide +kernel
theorem d_Law_cell_6 : decode b_Law_cell 6 = .ok (.aload_n 0, 1) := by decide +kernel
theorem d_Law_cell_7 : decode b_Law_cell 7 = .ok (.iload_n 1, 1) := by decide +kernel
theorem d_Law_cell_8 : decode b_Law_cell 8 = .ok (.iaload, 1) := by decide +kernel
theorem d_Law_cell_9 : decode b_Law_cell 9 = .ok (.goto 16, 3) := by decide +kernel
theorem d_Law_cell_12 : decode b_Law_cell 12 = .ok (.sipush 7919, 3) := by decide +kernel
theorem d_Law_cell_15 : decode b_Law_cell 15 = .ok (.iload_n 1, 1) := by decide +kernel
theorem d_Law_cell_16 : decode b_Law_cell 16 = .ok (.bipush 31, 2) := by decide +kernel
theorem d_Law_cell_18 : decode b_Law_cell 18 = .ok (.iadd, 1) := by decide +kernel
theorem d_Law_cell_19 : decode b_Law_cell 19 = .ok (.imul, 1) := by decide +kernel
theorem d_Law_cell_20 : decode b_Law_cell 20 = .ok (.iload_n 1, 1) := by decide +kernel
theorem d_Law_cell_21 : decode b_Law_cell 21 = .ok (.bipush 61, 2) := by decide +kernel
theorem d_Law_cell_23 : decode b_Law_cell 23 = .ok (.iadd, 1) := by decide +kernel
theorem d_Law_cell_24 : decode b_Law_cell 24 = .ok (.imul, 1) := by decide +kernel
theorem d_Law_cell_25 : decode b_Law_cell 25 = .ok (.ireturn, 1) := by decide +kernel
theorem d_Law_low_0 : decode b_Law_low 0 = .ok (.iload_n 0, 1) := by decide +kernel
theorem d_Law_low_1 : decode b_Law_low 1 = .ok (.ldc 7, 2) := by decide +kernel
theorem d_Law_low_3 : decode b_Law_low 3 = .ok (.iand, 1) := by decide +kernel
theorem d_Law_low_4 : decode b_Law_low 4 = .ok (.iload_n 1, 1) := by decide +kernel
theorem d_Law_low_5 : decode b_Law_low 5 = .ok (.irem, 1) := by decide +kernel
theorem d_Law_low_6 : decode b_Law_low 6 = .ok (.ireturn, 1) := by decide +kernel
theorem d_Law_all_0 : decode b_Law_all 0 = .ok (.ldc2_w 8, 3) := by decide +kernel
theorem d_Law_all_3 : decode b_Law_all 3 = .ok (.lstore_n 1, 1) := by decide +kernel
theorem d_Law_all_4 : decode b_Law_all 4 = .ok (.iconst 0, 1) := by decide +kernel
theorem d_Law_all_5 : decode b_Law_all 5 = .ok (.istore_n 3, 1) := by decide +kernel
theorem d_Law_all_6 : decode b_Law_all 6 = .ok (.iload_n 3, 1) := by decide +kernel
theorem d_Law_all_7 : decode b_Law_all 7 = .ok (.bipush 14, 2) := by decide +kernel
theorem d_Law_all_9 : decode b_Law_all 9 = .ok (.if_icmp .ge 22, 3) := by decide +kernel
theorem d_Law_all_12 : decode b_Law_all 12 = .ok (.ldc2_w 10, 3) := by decide +kernel
theorem d_Law_all_15 : decode b_Law_all 15 = .ok (.lload_n 1, 1) := by decide +kernel
theorem d_Law_all_16 : decode b_Law_all 16 = .ok (.lmul, 1) := by decide +kernel
theorem d_Law_all_17 : decode b_Law_all 17 = .ok (.aload_n 0, 1) := by decide +kernel
theorem d_Law_all_18 : decode b_Law_all 18 = .ok (.iload_n 3, 1) := by decide +kernel
theorem d_Law_all_19 : decode b_Law_all 19 = .ok (.invokevirtual 12, 3) := by decide +kernel
theorem d_Law_all_22 : decode b_Law_all 22 = .ok (.i2l, 1) := by decide +kernel
theorem d_Law_all_23 : decode b_Law_all 23 = .ok (.ladd, 1) := by decide +kernel
theorem d_Law_all_24 : decode b_Law_all 24 = .ok (.lstore_n 1, 1) := by decide +kernel
theorem d_Law_all_25 : decode b_Law_all 25 = .ok (.iinc 3 1, 3) := by decide +kernel
theorem d_Law_all_28 : decode b_Law_all 28 = .ok (.goto (-22), 3) := by decide +kernel
theorem d_Law_all_31 : decode b_Law_all 31 = .ok (.iconst 0, 1) := by decide +kernel
theorem d_Law_all_32 : decode b_Law_all 32 = .ok (.istore_n 3, 1) := by decide +kernel
theorem d_Law_all_33 : decode b_Law_all 33 = .ok (.iload_n 3, 1) := by decide +kernel
theorem d_Law_all_34 : decode b_Law_all 34 = .ok (.bipush 16, 2) := by decide +kernel
theorem d_Law_all_36 : decode b_Law_all 36 = .ok (.if_icmp .ge 27, 3) := by decide +kernel
theorem d_Law_all_39 : decode b_Law_all 39 = .ok (.ldc2_w 10, 3) := by decide +kernel
theorem d_Law_all_42 : decode b_Law_all 42 = .ok (.lload_n 1, 1) := by decide +kernel
theorem d_Law_all_43 : decode b_Law_all 43 = .ok (.lmul, 1) := by decide +kernel
theorem d_Law_all_44 : decode b_Law_all 44 = .ok (.aload_n 0, 1) := by decide +kernel
theorem d_Law_all_45 : decode b_Law_all 45 = .ok (.iload_n 3, 1) := by decide +kernel
theorem d_Law_all_46 : decode b_Law_all 46 = .ok (.iconst 4, 1) := by decide +kernel
theorem d_Law_all_47 : decode b_Law_all 47 = .ok (.idiv, 1) := by decide +kernel
theorem d_Law_all_48 : decode b_Law_all 48 = .ok (.iload_n 3, 1) := by decide +kernel
theorem d_Law_all_49 : decode b_Law_all 49 = .ok (.iconst 4, 1) := by decide +kernel
theorem d_Law_all_50 : decode b_Law_all 50 = .ok (.irem, 1) := by decide +kernel
theorem d_Law_all_51 : decode b_Law_all 51 = .ok (.invokevirtual 18, 3) := by decide +kernel
theorem d_Law_all_54 : decode b_Law_all 54 = .ok (.i2l, 1) := by decide +kernel
theorem d_Law_all_55 : decode b_Law_all 55 = .ok (.ladd, 1) := by decide +kernel
theorem d_Law_all_56 : decode b_Law_all 56 = .ok (.lstore_n 1, 1) := by decide +kernel
theorem d_Law_all_57 : decode b_Law_all 57 = .ok (.iinc 3 1, 3) := by decide +kernel
theorem d_Law_all_60 : decode b_Law_all 60 = .ok (.goto (-27), 3) := by decide +kernel
theorem d_Law_all_63 : decode b_Law_all 63 = .ok (.iconst 0, 1) := by decide +kernel
theorem d_Law_all_64 : decode b_Law_all 64 = .ok (.istore_n 3, 1) := by decide +kernel
theorem d_Law_all_65 : decode b_Law_all 65 = .ok (.iload_n 3, 1) := by decide +kernel
theorem d_Law_all_66 : decode b_Law_all 66 = .ok (.bipush 48, 2) := by decide +kernel
theorem d_Law_all_68 : decode b_Law_all 68 = .ok (.if_icmp .ge 29, 3) := by decide +kernel
theorem d_Law_all_71 : decode b_Law_all 71 = .ok (.ldc2_w 10, 3) := by decide +kernel
theorem d_Law_all_74 : decode b_Law_all 74 = .ok (.lload_n 1, 1) := by decide +kernel
theorem d_Law_all_75 : decode b_Law_all 75 = .ok (.lmul, 1) := by decide +kernel
theorem d_Law_all_76 : decode b_Law_all 76 = .ok (.aload_n 0, 1) := by decide +kernel
theorem d_Law_all_77 : decode b_Law_all 77 = .ok (.iload_n 3, 1) := by decide +kernel
theorem d_Law_all_78 : decode b_Law_all 78 = .ok (.bipush 12, 2) := by decide +kernel
theorem d_Law_all_80 : decode b_Law_all 80 = .ok (.idiv, 1) := by decide +kernel
theorem d_Law_all_81 : decode b_Law_all 81 = .ok (.iload_n 3, 1) := by decide +kernel
theorem d_Law_all_82 : decode b_Law_all 82 = .ok (.bipush 12, 2) := by decide +kernel
theorem d_Law_all_84 : decode b_Law_all 84 = .ok (.irem, 1) := by decide +kernel
theorem d_Law_all_85 : decode b_Law_all 85 = .ok (.invokevirtual 22, 3) := by decide +kernel
theorem d_Law_all_88 : decode b_Law_all 88 = .ok (.i2l, 1) := by decide +kernel
theorem d_Law_all_89 : decode b_Law_all 89 = .ok (.ladd, 1) := by decide +kernel
theorem d_Law_all_90 : decode b_Law_all 90 = .ok (.lstore_n 1, 1) := by decide +kernel
theorem d_Law_all_91 : decode b_Law_all 91 = .ok (.iinc 3 1, 3) := by decide +kernel
theorem d_Law_all_94 : decode b_Law_all 94 = .ok (.goto (-29), 3) := by decide +kernel
theorem d_Law_all_97 : decode b_Law_all 97 = .ok (.iconst 0, 1) := by decide +kernel
theorem d_Law_all_98 : decode b_Law_all 98 = .ok (.istore_n 3, 1) := by decide +kernel
theorem d_Law_all_99 : decode b_Law_all 99 = .ok (.iload_n 3, 1) := by decide +kernel
theorem d_Law_all_100 : decode b_Law_all 100 = .ok (.aload_n 0, 1) := by decide +kernel
theorem d_Law_all_101 : decode b_Law_all 101 = .ok (.iconst 1, 1) := by decide +kernel
theorem d_Law_all_102 : decode b_Law_all 102 = .ok (.invokevirtual 12, 3) := by decide +kernel
theorem d_Law_all_105 : decode b_Law_all 105 = .ok (.if_icmp .ge 71, 3) := by decide +kernel
theorem d_Law_all_108 : decode b_Law_all 108 = .ok (.iconst 0, 1) := by decide +kernel
theorem d_Law_all_109 : decode b_Law_all 109 = .ok (.istore 4, 2) := by decide +kernel
theorem d_Law_all_111 : decode b_Law_all 111 = .ok (.iload 4, 2) := by decide +kernel
theorem d_Law_all_113 : decode b_Law_all 113 = .ok (.bipush 11, 2) := by decide +kernel
theorem d_Law_all_115 : decode b_Law_all 115 = .ok (.if_icmp .ge 24, 3) := by decide +kernel
theorem d_Law_all_118 : decode b_Law_all 118 = .ok (.ldc2_w 10, 3) := by decide +kernel
theorem d_Law_all_121 : decode b_Law_all 121 = .ok (.lload_n 1, 1) := by decide +kernel
theorem d_Law_all_122 : decode b_Law_all 122 = .ok (.lmul, 1) := by decide +kernel
theorem d_Law_all_123 : decode b_Law_all 123 = .ok (.aload_n 0, 1) := by decide +kernel
theorem d_Law_all_124 : decode b_Law_all 124 = .ok (.iload_n 3, 1) := by decide +kernel
theorem d_Law_all_125 : decode b_Law_all 125 = .ok (.iload 4, 2) := by decide +kernel
theorem d_Law_all_127 : decode b_Law_all 127 = .ok (.invokevirtual 25, 3) := by decide +kernel
theorem d_Law_all_130 : decode b_Law_all 130 = .ok (.i2l, 1) := by decide +kernel
theorem d_Law_all_131 : decode b_Law_all 131 = .ok (.ladd, 1) := by decide +kernel
theorem d_Law_all_132 : decode b_Law_all 132 = .ok (.lstore_n 1, 1) := by decide +kernel
theorem d_Law_all_133 : decode b_Law_all 133 = .ok (.iinc 4 1, 3) := by decide +kernel
theorem d_Law_all_136 : decode b_Law_all 136 = .ok (.goto (-25), 3) := by decide +kernel
theorem d_Law_all_139 : decode b_Law_all 139 = .ok (.iconst 0, 1) := by decide +kernel
theorem d_Law_all_140 : decode b_Law_all 140 = .ok (.istore 4, 2) := by decide +kernel
theorem d_Law_all_142 : decode b_Law_all 142 = .ok (.iload 4, 2) := by decide +kernel
theorem d_Law_all_144 : decode b_Law_all 144 = .ok (.bipush 61, 2) := by decide +kernel
theorem d_Law_all_146 : decode b_Law_all 146 = .ok (.if_icmp .ge 24, 3) := by decide +kernel
theorem d_Law_all_149 : decode b_Law_all 149 = .ok (.ldc2_w 10, 3) := by decide +kernel
theorem d_Law_all_152 : decode b_Law_all 152 = .ok (.lload_n 1, 1) := by decide +kernel
theorem d_Law_all_153 : decode b_Law_all 153 = .ok (.lmul, 1) := by decide +kernel
theorem d_Law_all_154 : decode b_Law_all 154 = .ok (.aload_n 0, 1) := by decide +kernel
theorem d_Law_all_155 : decode b_Law_all 155 = .ok (.iload_n 3, 1) := by decide +kernel
theorem d_Law_all_156 : decode b_Law_all 156 = .ok (.iload 4, 2) := by decide +kernel
theorem d_Law_all_158 : decode b_Law_all 158 = .ok (.invokevirtual 28, 3) := by decide +kernel
theorem d_Law_all_161 : decode b_Law_all 161 = .ok (.i2l, 1) := by decide +kernel
theorem d_Law_all_162 : decode b_Law_all 162 = .ok (.ladd, 1) := by decide +kernel
theorem d_Law_all_163 : decode b_Law_all 163 = .ok (.lstore_n 1, 1) := by decide +kernel
theorem d_Law_all_164 : decode b_Law_all 164 = .ok (.iinc 4 1, 3) := by decide +kernel
theorem d_Law_all_167 : decode b_Law_all 167 = .ok (.goto (-25), 3) := by decide +kernel
theorem d_Law_all_170 : decode b_Law_all 170 = .ok (.iinc 3 1, 3) := by decide +kernel
theorem d_Law_all_173 : decode b_Law_all 173 = .ok (.goto (-74), 3) := by decide +kernel
theorem d_Law_all_176 : decode b_Law_all 176 = .ok (.lload_n 1, 1) := by decide +kernel
theorem d_Law_all_177 : decode b_Law_all 177 = .ok (.lreturn, 1) := by decide +kernel
theorem d_Law_isSound_0 : decode b_Law_isSound 0 = .ok (.iconst 0, 1) := by decide +kernel
theorem d_Law_isSound_1 : decode b_Law_isSound 1 = .ok (.istore_n 1, 1) := by decide +kernel
theorem d_Law_isSound_2 : decode b_Law_isSound 2 = .ok (.iconst 0, 1) := by decide +kernel
theorem d_Law_isSound_3 : decode b_Law_isSound 3 = .ok (.istore_n 2, 1) := by decide +kernel
theorem d_Law_isSound_4 : decode b_Law_isSound 4 = .ok (.iconst 0, 1) := by decide +kernel
theorem d_Law_isSound_5 : decode b_Law_isSound 5 = .ok (.istore_n 3, 1) := by decide +kernel
theorem d_Law_isSound_6 : decode b_Law_isSound 6 = .ok (.iconst 0, 1) := by decide +kernel
theorem d_Law_isSound_7 : decode b_Law_isSound 7 = .ok (.istore 4, 2) := by decide +kernel
theorem d_Law_isSound_9 : decode b_Law_isSound 9 = .ok (.iconst 0, 1) := by decide +kernel
theorem d_Law_isSound_10 : decode b_Law_isSound 10 = .ok (.istore 5, 2) := by decide +kernel
theorem d_Law_isSound_12 : decode b_Law_isSound 12 = .ok (.aload_n 0, 1) := by decide +kernel
theorem d_Law_isSound_13 : decode b_Law_isSound 13 = .ok (.iconst 2, 1) := by decide +kernel
theorem d_Law_isSound_14 : decode b_Law_isSound 14 = .ok (.invokevirtual 12, 3) := by decide +kernel
theorem d_Law_isSound_17 : decode b_Law_isSound 17 = .ok (.iconst 1, 1) := by decide +kernel
theorem d_Law_isSound_18 : decode b_Law_isSound 18 = .ok (.if_icmp .ne 7, 3) := by decide +kernel
theorem d_Law_isSound_21 : decode b_Law_isSound 21 = .ok (.iconst 1, 1) := by decide +kernel
theorem d_Law_isSound_22 : decode b_Law_isSound 22 = .ok (.goto 4, 3) := by decide +kernel
theorem d_Law_isSound_25 : decode b_Law_isSound 25 = .ok (.iconst 0, 1) := by decide +kernel
theorem d_Law_isSound_26 : decode b_Law_isSound 26 = .ok (.istore 6, 2) := by decide +kernel
theorem d_Law_isSound_28 : decode b_Law_isSound 28 = .ok (.iconst 0, 1) := by decide +kernel
theorem d_Law_isSound_29 : decode b_Law_isSound 29 = .ok (.istore 7, 2) := by decide +kernel
theorem d_Law_isSound_31 : decode b_Law_isSound 31 = .ok (.iload 7, 2) := by decide +kernel
theorem d_Law_isSound_33 : decode b_Law_isSound 33 = .ok (.aload_n 0, 1) := by decide +kernel
theorem d_Law_isSound_34 : decode b_Law_isSound 34 = .ok (.iconst 1, 1) := by decide +kernel
theorem d_Law_isSound_35 : decode b_Law_isSound 35 = .ok (.invokevirtual 12, 3) := by decide +kernel
theorem d_Law_isSound_38 : decode b_Law_isSound 38 = .ok (.if_icmp .ge 313, 3) := by decide +kernel
theorem d_Law_isSound_41 : decode b_Law_isSound 41 = .ok (.aload_n 0, 1) := by decide +kernel
theorem d_Law_isSound_42 : decode b_Law_isSound 42 = .ok (.iload 7, 2) := by decide +kernel
theorem d_Law_isSound_44 : decode b_Law_isSound 44 = .ok (.iconst 2, 1) := by decide +kernel
theorem d_Law_isSound_45 : decode b_Law_isSound 45 = .ok (.invokevirtual 25, 3) := by decide +kernel
theorem d_Law_isSound_48 : decode b_Law_isSound 48 = .ok (.istore 8, 2) := by decide +kernel
theorem d_Law_isSound_50 : decode b_Law_isSound 50 = .ok (.aload_n 0, 1) := by decide +kernel
theorem d_Law_isSound_51 : decode b_Law_isSound 51 = .ok (.iload 7, 2) := by decide +kernel
theorem d_Law_isSound_53 : decode b_Law_isSound 53 = .ok (.iconst 4, 1) := by decide +kernel
theorem d_Law_isSound_54 : decode b_Law_isSound 54 = .ok (.invokevirtual 25, 3) := by decide +kernel
theorem d_Law_isSound_57 : decode b_Law_isSound 57 = .ok (.istore 9, 2) := by decide +kernel
theorem d_Law_isSound_59 : decode b_Law_isSound 59 = .ok (.iconst 0, 1) := by decide +kernel
theorem d_Law_isSound_60 : decode b_Law_isSound 60 = .ok (.istore 10, 2) := by decide +kernel
theorem d_Law_isSound_62 : decode b_Law_isSound 62 = .ok (.bipush (-9), 2) := by decide +kernel
theorem d_Law_isSound_64 : decode b_Law_isSound 64 = .ok (.istore 11, 2) := by decide +kernel
theorem d_Law_isSound_66 : decode b_Law_isSound 66 = .ok (.iconst 0, 1) := by decide +kernel
theorem d_Law_isSound_67 : decode b_Law_isSound 67 = .ok (.istore 12, 2) := by decide +kernel
theorem d_Law_isSound_69 : decode b_Law_isSound 69 = .ok (.iload 12, 2) := by decide +kernel
theorem d_Law_isSound_71 : decode b_Law_isSound 71 = .ok (.bipush 61, 2) := by decide +kernel
theorem d_Law_isSound_73 : decode b_Law_isSound 73 = .ok (.if_icmp .ge 43, 3) := by decide +kernel
theorem d_Law_isSound_76 : decode b_Law_isSound 76 = .ok (.iload 10, 2) := by decide +kernel
theorem d_Law_isSound_78 : decode b_Law_isSound 78 = .ok (.aload_n 0, 1) := by decide +kernel
theorem d_Law_isSound_79 : decode b_Law_isSound 79 = .ok (.iload 7, 2) := by decide +kernel
theorem d_Law_isSound_81 : decode b_Law_isSound 81 = .ok (.iload 12, 2) := by decide +kernel
theorem d_Law_isSound_83 : decode b_Law_isSound 83 = .ok (.invokevirtual 28, 3) := by decide +kernel
theorem d_Law_isSound_86 : decode b_Law_isSound 86 = .ok (.iadd, 1) := by decide +kernel
theorem d_Law_isSound_87 : decode b_Law_isSound 87 = .ok (.istore 10, 2) := by decide +kernel
theorem d_Law_isSound_89 : decode b_Law_isSound 89 = .ok (.aload_n 0, 1) := by decide +kernel
theorem d_Law_isSound_90 : decode b_Law_isSound 90 = .ok (.iload 7, 2) := by decide +kernel
theorem d_Law_isSound_92 : decode b_Law_isSound 92 = .ok (.iload 12, 2) := by decide +kernel
theorem d_Law_isSound_94 : decode b_Law_isSound 94 = .ok (.invokevirtual 28, 3) := by decide +kernel
theorem d_Law_isSound_97 : decode b_Law_isSound 97 = .ok (.iconst 1, 1) := by decide +kernel
theorem d_Law_isSound_98 : decode b_Law_isSound 98 = .ok (.if_icmp .ne 8, 3) := by decide +kernel
theorem d_Law_isSound_101 : decode b_Law_isSound 101 = .ok (.iload 12, 2) := by decide +kernel
theorem d_Law_isSound_103 : decode b_Law_isSound 103 = .ok (.goto 5, 3) := by decide +kernel
theorem d_Law_isSound_106 : decode b_Law_isSound 106 = .ok (.iload 11, 2) := by decide +kernel
theorem d_Law_isSound_108 : decode b_Law_isSound 108 = .ok (.istore 11, 2) := by decide +kernel
theorem d_Law_isSound_110 : decode b_Law_isSound 110 = .ok (.iinc 12 1, 3) := by decide +kernel
theorem d_Law_isSound_113 : decode b_Law_isSound 113 = .ok (.goto (-44), 3) := by decide +kernel
theorem d_Law_isSound_116 : decode b_Law_isSound 116 = .ok (.iload_n 1, 1) := by decide +kernel
theorem d_Law_isSound_117 : decode b_Law_isSound 117 = .ok (.aload_n 0, 1) := by decide +kernel
theorem d_Law_isSound_118 : decode b_Law_isSound 118 = .ok (.iload 7, 2) := by decide +kernel
theorem d_Law_isSound_120 : decode b_Law_isSound 120 = .ok (.iconst 0, 1) := by decide +kernel
theorem d_Law_isSound_121 : decode b_Law_isSound 121 = .ok (.invokevirtual 25, 3) := by decide +kernel
theorem d_Law_isSound_124 : decode b_Law_isSound 124 = .ok (.iadd, 1) := by decide +kernel
theorem d_Law_isSound_125 : decode b_Law_isSound 125 = .ok (.istore_n 1, 1) := by decide +kernel
theorem d_Law_isSound_126 : decode b_Law_isSound 126 = .ok (.iload_n 2, 1) := by decide +kernel
theorem d_Law_isSound_127 : decode b_Law_isSound 127 = .ok (.aload_n 0, 1) := by decide +kernel
theorem d_Law_isSound_128 : decode b_Law_isSound 128 = .ok (.iload 7, 2) := by decide +kernel
theorem d_Law_isSound_130 : decode b_Law_isSound 130 = .ok (.bipush 9, 2) := by decide +kernel
theorem d_Law_isSound_132 : decode b_Law_isSound 132 = .ok (.invokevirtual 25, 3) := by decide +kernel
theorem d_Law_isSound_135 : decode b_Law_isSound 135 = .ok (.iadd, 1) := by decide +kernel
theorem d_Law_isSound_136 : decode b_Law_isSound 136 = .ok (.istore_n 2, 1) := by decide +kernel
theorem d_Law_isSound_137 : decode b_Law_isSound 137 = .ok (.iload_n 3, 1) := by decide +kernel
theorem d_Law_isSound_138 : decode b_Law_isSound 138 = .ok (.aload_n 0, 1) := by decide +kernel
theorem d_Law_isSound_139 : decode b_Law_isSound 139 = .ok (.iload 7, 2) := by decide +kernel
theorem d_Law_isSound_141 : decode b_Law_isSound 141 = .ok (.iconst 5, 1) := by decide +kernel
theorem d_Law_isSound_142 : decode b_Law_isSound 142 = .ok (.invokevirtual 25, 3) := by decide +kernel
theorem d_Law_isSound_145 : decode b_Law_isSound 145 = .ok (.iadd, 1) := by decide +kernel
theorem d_Law_isSound_146 : decode b_Law_isSound 146 = .ok (.istore_n 3, 1) := by decide +kernel
theorem d_Law_isSound_147 : decode b_Law_isSound 147 = .ok (.iload 4, 2) := by decide +kernel
theorem d_Law_isSound_149 : decode b_Law_isSound 149 = .ok (.aload_n 0, 1) := by decide +kernel
theorem d_Law_isSound_150 : decode b_Law_isSound 150 = .ok (.iload 7, 2) := by decide +kernel
theorem d_Law_isSound_152 : decode b_Law_isSound 152 = .ok (.iconst 1, 1) := by decide +kernel
theorem d_Law_isSound_153 : decode b_Law_isSound 153 = .ok (.invokevirtual 25, 3) := by decide +kernel
theorem d_Law_isSound_156 : decode b_Law_isSound 156 = .ok (.iconst 1, 1) := by decide +kernel
theorem d_Law_isSound_157 : decode b_Law_isSound 157 = .ok (.if_icmp .ne 7, 3) := by decide +kernel
theorem d_Law_isSound_160 : decode b_Law_isSound 160 = .ok (.iconst 1, 1) := by decide +kernel
theorem d_Law_isSound_161 : decode b_Law_isSound 161 = .ok (.goto 4, 3) := by decide +kernel
theorem d_Law_isSound_164 : decode b_Law_isSound 164 = .ok (.iconst 0, 1) := by decide +kernel
theorem d_Law_isSound_165 : decode b_Law_isSound 165 = .ok (.iadd, 1) := by decide +kernel
theorem d_Law_isSound_166 : decode b_Law_isSound 166 = .ok (.istore 4, 2) := by decide +kernel
theorem d_Law_isSound_168 : decode b_Law_isSound 168 = .ok (.iload 5, 2) := by decide +kernel
theorem d_Law_isSound_170 : decode b_Law_isSound 170 = .ok (.aload_n 0, 1) := by decide +kernel
theorem d_Law_isSound_171 : decode b_Law_isSound 171 = .ok (.iload 7, 2) := by decide +kernel
theorem d_Law_isSound_173 : decode b_Law_isSound 173 = .ok (.bipush 10, 2) := by decide +kernel
theorem d_Law_isSound_175 : decode b_Law_isSound 175 = .ok (.invokevirtual 25, 3) := by decide +kernel
theorem d_Law_isSound_178 : decode b_Law_isSound 178 = .ok (.ifCond .lt 7, 3) := by decide +kernel
theorem d_Law_isSound_181 : decode b_Law_isSound 181 = .ok (.iconst 1, 1) := by decide +kernel
theorem d_Law_isSound_182 : decode b_Law_isSound 182 = .ok (.goto 4, 3) := by decide +kernel
theorem d_Law_isSound_185 : decode b_Law_isSound 185 = .ok (.iconst 0, 1) := by decide +kernel
theorem d_Law_isSound_186 : decode b_Law_isSound 186 = .ok (.iadd, 1) := by decide +kernel
theorem d_Law_isSound_187 : decode b_Law_isSound 187 = .ok (.istore 5, 2) := by decide +kernel
theorem d_Law_isSound_189 : decode b_Law_isSound 189 = .ok (.iload 10, 2) := by decide +kernel
theorem d_Law_isSound_191 : decode b_Law_isSound 191 = .ok (.aload_n 0, 1) := by decide +kernel
theorem d_Law_isSound_192 : decode b_Law_isSound 192 = .ok (.iload 7, 2) := by decide +kernel
theorem d_Law_isSound_194 : decode b_Law_isSound 194 = .ok (.bipush 6, 2) := by decide +kernel
theorem d_Law_isSound_196 : decode b_Law_isSound 196 = .ok (.invokevirtual 25, 3) := by decide +kernel
theorem d_Law_isSound_199 : decode b_Law_isSound 199 = .ok (.if_icmp .ne 70, 3) := by decide +kernel
theorem d_Law_isSound_202 : decode b_Law_isSound 202 = .ok (.iload 11, 2) := by decide +kernel
theorem d_Law_isSound_204 : decode b_Law_isSound 204 = .ok (.aload_n 0, 1) := by decide +kernel
theorem d_Law_isSound_205 : decode b_Law_isSound 205 = .ok (.iload 7, 2) := by decide +kernel
theorem d_Law_isSound_207 : decode b_Law_isSound 207 = .ok (.bipush 8, 2) := by decide +kernel
theorem d_Law_isSound_209 : decode b_Law_isSound 209 = .ok (.invokevirtual 25, 3) := by decide +kernel
theorem d_Law_isSound_212 : decode b_Law_isSound 212 = .ok (.if_icmp .ne 57, 3) := by decide +kernel
theorem d_Law_isSound_215 : decode b_Law_isSound 215 = .ok (.iload 11, 2) := by decide +kernel
theorem d_Law_isSound_217 : decode b_Law_isSound 217 = .ok (.aload_n 0, 1) := by decide +kernel
theorem d_Law_isSound_218 : decode b_Law_isSound 218 = .ok (.iconst 0, 1) := by decide +kernel
theorem d_Law_isSound_219 : decode b_Law_isSound 219 = .ok (.invokevirtual 12, 3) := by decide +kernel
theorem d_Law_isSound_222 : decode b_Law_isSound 222 = .ok (.if_icmp .gt 47, 3) := by decide +kernel
theorem d_Law_isSound_225 : decode b_Law_isSound 225 = .ok (.aload_n 0, 1) := by decide +kernel
theorem d_Law_isSound_226 : decode b_Law_isSound 226 = .ok (.iload 7, 2) := by decide +kernel
theorem d_Law_isSound_228 : decode b_Law_isSound 228 = .ok (.bipush 7, 2) := by decide +kernel
theorem d_Law_isSound_230 : decode b_Law_isSound 230 = .ok (.invokevirtual 25, 3) := by decide +kernel
theorem d_Law_isSound_233 : decode b_Law_isSound 233 = .ok (.iload 10, 2) := by decide +kernel
theorem d_Law_isSound_235 : decode b_Law_isSound 235 = .ok (.if_icmp .gt 34, 3) := by decide +kernel
theorem d_Law_isSound_238 : decode b_Law_isSound 238 = .ok (.aload_n 0, 1) := by decide +kernel
theorem d_Law_isSound_239 : decode b_Law_isSound 239 = .ok (.iload 7, 2) := by decide +kernel
theorem d_Law_isSound_241 : decode b_Law_isSound 241 = .ok (.iconst 0, 1) := by decide +kernel
theorem d_Law_isSound_242 : decode b_Law_isSound 242 = .ok (.invokevirtual 25, 3) := by decide +kernel
theorem d_Law_isSound_245 : decode b_Law_isSound 245 = .ok (.ifCond .lt 24, 3) := by decide +kernel
theorem d_Law_isSound_248 : decode b_Law_isSound 248 = .ok (.iload 6, 2) := by decide +kernel
theorem d_Law_isSound_250 : decode b_Law_isSound 250 = .ok (.aload_n 0, 1) := by decide +kernel
theorem d_Law_isSound_251 : decode b_Law_isSound 251 = .ok (.iload 7, 2) := by decide +kernel
theorem d_Law_isSound_253 : decode b_Law_isSound 253 = .ok (.iconst 1, 1) := by decide +kernel
theorem d_Law_isSound_254 : decode b_Law_isSound 254 = .ok (.invokevirtual 25, 3) := by decide +kernel
theorem d_Law_isSound_257 : decode b_Law_isSound 257 = .ok (.iconst 2, 1) := by decide +kernel
theorem d_Law_isSound_258 : decode b_Law_isSound 258 = .ok (.if_icmp .ne 7, 3) := by decide +kernel
theorem d_Law_isSound_261 : decode b_Law_isSound 261 = .ok (.iconst 1, 1) := by decide +kernel
theorem d_Law_isSound_262 : decode b_Law_isSound 262 = .ok (.goto 4, 3) := by decide +kernel
theorem d_Law_isSound_265 : decode b_Law_isSound 265 = .ok (.iconst 0, 1) := by decide +kernel
theorem d_Law_isSound_266 : decode b_Law_isSound 266 = .ok (.if_icmp .eq 5, 3) := by decide +kernel
theorem d_Law_isSound_269 : decode b_Law_isSound 269 = .ok (.iconst 0, 1) := by decide +kernel
theorem d_Law_isSound_270 : decode b_Law_isSound 270 = .ok (.ireturn, 1) := by decide +kernel
theorem d_Law_isSound_271 : decode b_Law_isSound 271 = .ok (.iload 8, 2) := by decide +kernel
theorem d_Law_isSound_273 : decode b_Law_isSound 273 = .ok (.ifCond .ge 21, 3) := by decide +kernel
theorem d_Law_isSound_276 : decode b_Law_isSound 276 = .ok (.iload 9, 2) := by decide +kernel
theorem d_Law_isSound_278 : decode b_Law_isSound 278 = .ok (.ifCond .ne 65, 3) := by decide +kernel
theorem d_Law_isSound_281 : decode b_Law_isSound 281 = .ok (.aload_n 0, 1) := by decide +kernel
theorem d_Law_isSound_282 : decode b_Law_isSound 282 = .ok (.iload 7, 2) := by decide +kernel
theorem d_Law_isSound_284 : decode b_Law_isSound 284 = .ok (.iconst 3, 1) := by decide +kernel
theorem d_Law_isSound_285 : decode b_Law_isSound 285 = .ok (.invokevirtual 25, 3) := by decide +kernel
theorem d_Law_isSound_288 : decode b_Law_isSound 288 = .ok (.ifCond .eq 57, 3) := by decide +kernel
theorem d_Law_isSound_291 : decode b_Law_isSound 291 = .ok (.goto 52, 3) := by decide +kernel
theorem d_Law_isSound_294 : decode b_Law_isSound 294 = .ok (.iload 9, 2) := by decide +kernel
theorem d_Law_isSound_296 : decode b_Law_isSound 296 = .ok (.ifCond .ne 7, 3) := by decide +kernel
theorem d_Law_isSound_299 : decode b_Law_isSound 299 = .ok (.iconst 1, 1) := by decide +kernel
theorem d_Law_isSound_300 : decode b_Law_isSound 300 = .ok (.goto 4, 3) := by decide +kernel
theorem d_Law_isSound_303 : decode b_Law_isSound 303 = .ok (.iconst 0, 1) := by decide +kernel
theorem d_Law_isSound_304 : decode b_Law_isSound 304 = .ok (.aload_n 0, 1) := by decide +kernel
theorem d_Law_isSound_305 : decode b_Law_isSound 305 = .ok (.iload 7, 2) := by decide +kernel
theorem d_Law_isSound_307 : decode b_Law_isSound 307 = .ok (.iconst 3, 1) := by decide +kernel
theorem d_Law_isSound_308 : decode b_Law_isSound 308 = .ok (.invokevirtual 25, 3) := by decide +kernel
theorem d_Law_isSound_311 : decode b_Law_isSound 311 = .ok (.iconst 1, 1) := by decide +kernel
theorem d_Law_isSound_312 : decode b_Law_isSound 312 = .ok (.if_icmp .ne 7, 3) := by decide +kernel
theorem d_Law_isSound_315 : decode b_Law_isSound 315 = .ok (.iconst 1, 1) := by decide +kernel
theorem d_Law_isSound_316 : decode b_Law_isSound 316 = .ok (.goto 4, 3) := by decide +kernel
theorem d_Law_isSound_319 : decode b_Law_isSound 319 = .ok (.iconst 0, 1) := by decide +kernel
theorem d_Law_isSound_320 : decode b_Law_isSound 320 = .ok (.if_icmp .ne 23, 3) := by decide +kernel
theorem d_Law_isSound_323 : decode b_Law_isSound 323 = .ok (.iload 9, 2) := by decide +kernel
theorem d_Law_isSound_325 : decode b_Law_isSound 325 = .ok (.ifCond .le 20, 3) := by decide +kernel
theorem d_Law_isSound_328 : decode b_Law_isSound 328 = .ok (.aload_n 0, 1) := by decide +kernel
theorem d_Law_isSound_329 : decode b_Law_isSound 329 = .ok (.iload 8, 2) := by decide +kernel
theorem d_Law_isSound_331 : decode b_Law_isSound 331 = .ok (.iload 9, 2) := by decide +kernel
theorem d_Law_isSound_333 : decode b_Law_isSound 333 = .ok (.iconst 1, 1) := by decide +kernel
theorem d_Law_isSound_334 : decode b_Law_isSound 334 = .ok (.isub, 1) := by decide +kernel
theorem d_Law_isSound_335 : decode b_Law_isSound 335 = .ok (.invokevirtual 22, 3) := by decide +kernel
theorem d_Law_isSound_338 : decode b_Law_isSound 338 = .ok (.iload 7, 2) := by decide +kernel
theorem d_Law_isSound_340 : decode b_Law_isSound 340 = .ok (.if_icmp .eq 5, 3) := by decide +kernel
theorem d_Law_isSound_343 : decode b_Law_isSound 343 = .ok (.iconst 0, 1) := by decide +kernel
theorem d_Law_isSound_344 : decode b_Law_isSound 344 = .ok (.ireturn, 1) := by decide +kernel
theorem d_Law_isSound_345 : decode b_Law_isSound 345 = .ok (.iinc 7 1, 3) := by decide +kernel
theorem d_Law_isSound_348 : decode b_Law_isSound 348 = .ok (.goto (-317), 3) := by decide +kernel
theorem d_Law_isSound_351 : decode b_Law_isSound 351 = .ok (.iconst 0, 1) := by decide +kernel
theorem d_Law_isSound_352 : decode b_Law_isSound 352 = .ok (.istore 7, 2) := by decide +kernel
theorem d_Law_isSound_354 : decode b_Law_isSound 354 = .ok (.iload 7, 2) := by decide +kernel
theorem d_Law_isSound_356 : decode b_Law_isSound 356 = .ok (.iconst 4, 1) := by decide +kernel
theorem d_Law_isSound_357 : decode b_Law_isSound 357 = .ok (.if_icmp .ge 143, 3) := by decide +kernel
theorem d_Law_isSound_360 : decode b_Law_isSound 360 = .ok (.iconst 0, 1) := by decide +kernel
theorem d_Law_isSound_361 : decode b_Law_isSound 361 = .ok (.istore 8, 2) := by decide +kernel
theorem d_Law_isSound_363 : decode b_Law_isSound 363 = .ok (.iconst 0, 1) := by decide +kernel
theorem d_Law_isSound_364 : decode b_Law_isSound 364 = .ok (.istore 9, 2) := by decide +kernel
theorem d_Law_isSound_366 : decode b_Law_isSound 366 = .ok (.iconst 0, 1) := by decide +kernel
theorem d_Law_isSound_367 : decode b_Law_isSound 367 = .ok (.istore 10, 2) := by decide +kernel
theorem d_Law_isSound_369 : decode b_Law_isSound 369 = .ok (.iload 10, 2) := by decide +kernel
theorem d_Law_isSound_371 : decode b_Law_isSound 371 = .ok (.aload_n 0, 1) := by decide +kernel
theorem d_Law_isSound_372 : decode b_Law_isSound 372 = .ok (.iconst 1, 1) := by decide +kernel
theorem d_Law_isSound_373 : decode b_Law_isSound 373 = .ok (.invokevirtual 12, 3) := by decide +kernel
theorem d_Law_isSound_376 : decode b_Law_isSound 376 = .ok (.if_icmp .ge 69, 3) := by decide +kernel
theorem d_Law_isSound_379 : decode b_Law_isSound 379 = .ok (.iload 8, 2) := by decide +kernel
theorem d_Law_isSound_381 : decode b_Law_isSound 381 = .ok (.aload_n 0, 1) := by decide +kernel
theorem d_Law_isSound_382 : decode b_Law_isSound 382 = .ok (.iload 10, 2) := by decide +kernel
theorem d_Law_isSound_384 : decode b_Law_isSound 384 = .ok (.iconst 2, 1) := by decide +kernel
theorem d_Law_isSound_385 : decode b_Law_isSound 385 = .ok (.invokevirtual 25, 3) := by decide +kernel
theorem d_Law_isSound_388 : decode b_Law_isSound 388 = .ok (.iload 7, 2) := by decide +kernel
theorem d_Law_isSound_390 : decode b_Law_isSound 390 = .ok (.if_icmp .ne 13, 3) := by decide +kernel
theorem d_Law_isSound_393 : decode b_Law_isSound 393 = .ok (.aload_n 0, 1) := by decide +kernel
theorem d_Law_isSound_394 : decode b_Law_isSound 394 = .ok (.iload 10, 2) := by decide +kernel
theorem d_Law_isSound_396 : decode b_Law_isSound 396 = .ok (.iconst 3, 1) := by decide +kernel
theorem d_Law_isSound_397 : decode b_Law_isSound 397 = .ok (.invokevirtual 25, 3) := by decide +kernel
theorem d_Law_isSound_400 : decode b_Law_isSound 400 = .ok (.goto 4, 3) := by decide +kernel
theorem d_Law_isSound_403 : decode b_Law_isSound 403 = .ok (.iconst 0, 1) := by decide +kernel
theorem d_Law_isSound_404 : decode b_Law_isSound 404 = .ok (.iadd, 1) := by decide +kernel
theorem d_Law_isSound_405 : decode b_Law_isSound 405 = .ok (.istore 8, 2) := by decide +kernel
theorem d_Law_isSound_407 : decode b_Law_isSound 407 = .ok (.iload 9, 2) := by decide +kernel
theorem d_Law_isSound_409 : decode b_Law_isSound 409 = .ok (.aload_n 0, 1) := by decide +kernel
theorem d_Law_isSound_410 : decode b_Law_isSound 410 = .ok (.iload 10, 2) := by decide +kernel
theorem d_Law_isSound_412 : decode b_Law_isSound 412 = .ok (.iconst 2, 1) := by decide +kernel
theorem d_Law_isSound_413 : decode b_Law_isSound 413 = .ok (.invokevirtual 25, 3) := by decide +kernel
theorem d_Law_isSound_416 : decode b_Law_isSound 416 = .ok (.iload 7, 2) := by decide +kernel
theorem d_Law_isSound_418 : decode b_Law_isSound 418 = .ok (.if_icmp .ne 17, 3) := by decide +kernel
theorem d_Law_isSound_421 : decode b_Law_isSound 421 = .ok (.aload_n 0, 1) := by decide +kernel
theorem d_Law_isSound_422 : decode b_Law_isSound 422 = .ok (.iload 10, 2) := by decide +kernel
theorem d_Law_isSound_424 : decode b_Law_isSound 424 = .ok (.iconst 4, 1) := by decide +kernel
theorem d_Law_isSound_425 : decode b_Law_isSound 425 = .ok (.invokevirtual 25, 3) := by decide +kernel
theorem d_Law_isSound_428 : decode b_Law_isSound 428 = .ok (.ifCond .le 7, 3) := by decide +kernel
theorem d_Law_isSound_431 : decode b_Law_isSound 431 = .ok (.iconst 1, 1) := by decide +kernel
theorem d_Law_isSound_432 : decode b_Law_isSound 432 = .ok (.goto 4, 3) := by decide +kernel
theorem d_Law_isSound_435 : decode b_Law_isSound 435 = .ok (.iconst 0, 1) := by decide +kernel
theorem d_Law_isSound_436 : decode b_Law_isSound 436 = .ok (.iadd, 1) := by decide +kernel
theorem d_Law_isSound_437 : decode b_Law_isSound 437 = .ok (.istore 9, 2) := by decide +kernel
theorem d_Law_isSound_439 : decode b_Law_isSound 439 = .ok (.iinc 10 1, 3) := by decide +kernel
theorem d_Law_isSound_442 : decode b_Law_isSound 442 = .ok (.goto (-73), 3) := by decide +kernel
theorem d_Law_isSound_445 : decode b_Law_isSound 445 = .ok (.aload_n 0, 1) := by decide +kernel
theorem d_Law_isSound_446 : decode b_Law_isSound 446 = .ok (.iload 7, 2) := by decide +kernel
theorem d_Law_isSound_448 : decode b_Law_isSound 448 = .ok (.iconst 2, 1) := by decide +kernel
theorem d_Law_isSound_449 : decode b_Law_isSound 449 = .ok (.invokevirtual 18, 3) := by decide +kernel
theorem d_Law_isSound_452 : decode b_Law_isSound 452 = .ok (.iload 8, 2) := by decide +kernel
theorem d_Law_isSound_454 : decode b_Law_isSound 454 = .ok (.if_icmp .ne 38, 3) := by decide +kernel
theorem d_Law_isSound_457 : decode b_Law_isSound 457 = .ok (.aload_n 0, 1) := by decide +kernel
theorem d_Law_isSound_458 : decode b_Law_isSound 458 = .ok (.iload 7, 2) := by decide +kernel
theorem d_Law_isSound_460 : decode b_Law_isSound 460 = .ok (.iconst 3, 1) := by decide +kernel
theorem d_Law_isSound_461 : decode b_Law_isSound 461 = .ok (.invokevirtual 18, 3) := by decide +kernel
theorem d_Law_isSound_464 : decode b_Law_isSound 464 = .ok (.iload 9, 2) := by decide +kernel
theorem d_Law_isSound_466 : decode b_Law_isSound 466 = .ok (.if_icmp .ne 26, 3) := by decide +kernel
theorem d_Law_isSound_469 : decode b_Law_isSound 469 = .ok (.aload_n 0, 1) := by decide +kernel
theorem d_Law_isSound_470 : decode b_Law_isSound 470 = .ok (.iload 7, 2) := by decide +kernel
theorem d_Law_isSound_472 : decode b_Law_isSound 472 = .ok (.iconst 1, 1) := by decide +kernel
theorem d_Law_isSound_473 : decode b_Law_isSound 473 = .ok (.invokevirtual 18, 3) := by decide +kernel
theorem d_Law_isSound_476 : decode b_Law_isSound 476 = .ok (.ifCond .lt 16, 3) := by decide +kernel
theorem d_Law_isSound_479 : decode b_Law_isSound 479 = .ok (.aload_n 0, 1) := by decide +kernel
theorem d_Law_isSound_480 : decode b_Law_isSound 480 = .ok (.iload 7, 2) := by decide +kernel
theorem d_Law_isSound_482 : decode b_Law_isSound 482 = .ok (.iload 9, 2) := by decide +kernel
theorem d_Law_isSound_484 : decode b_Law_isSound 484 = .ok (.invokevirtual 22, 3) := by decide +kernel
theorem d_Law_isSound_487 : decode b_Law_isSound 487 = .ok (.bipush (-9), 2) := by decide +kernel
theorem d_Law_isSound_489 : decode b_Law_isSound 489 = .ok (.if_icmp .eq 5, 3) := by decide +kernel
theorem d_Law_isSound_492 : decode b_Law_isSound 492 = .ok (.iconst 0, 1) := by decide +kernel
theorem d_Law_isSound_493 : decode b_Law_isSound 493 = .ok (.ireturn, 1) := by decide +kernel
theorem d_Law_isSound_494 : decode b_Law_isSound 494 = .ok (.iinc 7 1, 3) := by decide +kernel
theorem d_Law_isSound_497 : decode b_Law_isSound 497 = .ok (.goto (-143), 3) := by decide +kernel
theorem d_Law_isSound_500 : decode b_Law_isSound 500 = .ok (.iload 6, 2) := by decide +kernel
theorem d_Law_isSound_502 : decode b_Law_isSound 502 = .ok (.ifCond .eq 31, 3) := by decide +kernel
theorem d_Law_isSound_505 : decode b_Law_isSound 505 = .ok (.iload_n 1, 1) := by decide +kernel
theorem d_Law_isSound_506 : decode b_Law_isSound 506 = .ok (.ifCond .ne 23, 3) := by decide +kernel
theorem d_Law_isSound_509 : decode b_Law_isSound 509 = .ok (.aload_n 0, 1) := by decide +kernel
theorem d_Law_isSound_510 : decode b_Law_isSound 510 = .ok (.iconst 4, 1) := by decide +kernel
theorem d_Law_isSound_511 : decode b_Law_isSound 511 = .ok (.invokevirtual 12, 3) := by decide +kernel
theorem d_Law_isSound_514 : decode b_Law_isSound 514 = .ok (.ifCond .ne 15, 3) := by decide +kernel
theorem d_Law_isSound_517 : decode b_Law_isSound 517 = .ok (.aload_n 0, 1) := by decide +kernel
theorem d_Law_isSound_518 : decode b_Law_isSound 518 = .ok (.iconst 3, 1) := by decide +kernel
theorem d_Law_isSound_519 : decode b_Law_isSound 519 = .ok (.invokevirtual 12, 3) := by decide +kernel
theorem d_Law_isSound_522 : decode b_Law_isSound 522 = .ok (.ifCond .lt 7, 3) := by decide +kernel
theorem d_Law_isSound_525 : decode b_Law_isSound 525 = .ok (.iconst 1, 1) := by decide +kernel
theorem d_Law_isSound_526 : decode b_Law_isSound 526 = .ok (.goto 30, 3) := by decide +kernel
theorem d_Law_isSound_529 : decode b_Law_isSound 529 = .ok (.iconst 0, 1) := by decide +kernel
theorem d_Law_isSound_530 : decode b_Law_isSound 530 = .ok (.goto 26, 3) := by decide +kernel
theorem d_Law_isSound_533 : decode b_Law_isSound 533 = .ok (.aload_n 0, 1) := by decide +kernel
theorem d_Law_isSound_534 : decode b_Law_isSound 534 = .ok (.iconst 3, 1) := by decide +kernel
theorem d_Law_isSound_535 : decode b_Law_isSound 535 = .ok (.invokevirtual 12, 3) := by decide +kernel
theorem d_Law_isSound_538 : decode b_Law_isSound 538 = .ok (.bipush 10, 2) := by decide +kernel
theorem d_Law_isSound_540 : decode b_Law_isSound 540 = .ok (.iload_n 1, 1) := by decide +kernel
theorem d_Law_isSound_541 : decode b_Law_isSound 541 = .ok (.imul, 1) := by decide +kernel
theorem d_Law_isSound_542 : decode b_Law_isSound 542 = .ok (.aload_n 0, 1) := by decide +kernel
theorem d_Law_isSound_543 : decode b_Law_isSound 543 = .ok (.iconst 4, 1) := by decide +kernel
theorem d_Law_isSound_544 : decode b_Law_isSound 544 = .ok (.invokevirtual 12, 3) := by decide +kernel
theorem d_Law_isSound_547 : decode b_Law_isSound 547 = .ok (.iadd, 1) := by decide +kernel
theorem d_Law_isSound_548 : decode b_Law_isSound 548 = .ok (.if_icmp .ne 7, 3) := by decide +kernel
theorem d_Law_isSound_551 : decode b_Law_isSound 551 = .ok (.iconst 1, 1) := by decide +kernel
theorem d_Law_isSound_552 : decode b_Law_isSound 552 = .ok (.goto 4, 3) := by decide +kernel
theorem d_Law_isSound_555 : decode b_Law_isSound 555 = .ok (.iconst 0, 1) := by decide +kernel
theorem d_Law_isSound_556 : decode b_Law_isSound 556 = .ok (.istore 7, 2) := by decide +kernel
theorem d_Law_isSound_558 : decode b_Law_isSound 558 = .ok (.iload 7, 2) := by decide +kernel
theorem d_Law_isSound_560 : decode b_Law_isSound 560 = .ok (.ifCond .eq 86, 3) := by decide +kernel
theorem d_Law_isSound_563 : decode b_Law_isSound 563 = .ok (.aload_n 0, 1) := by decide +kernel
theorem d_Law_isSound_564 : decode b_Law_isSound 564 = .ok (.bipush 6, 2) := by decide +kernel
theorem d_Law_isSound_566 : decode b_Law_isSound 566 = .ok (.invokevirtual 12, 3) := by decide +kernel
theorem d_Law_isSound_569 : decode b_Law_isSound 569 = .ok (.aload_n 0, 1) := by decide +kernel
theorem d_Law_isSound_570 : decode b_Law_isSound 570 = .ok (.iconst 3, 1) := by decide +kernel
theorem d_Law_isSound_571 : decode b_Law_isSound 571 = .ok (.invokevirtual 12, 3) := by decide +kernel
theorem d_Law_isSound_574 : decode b_Law_isSound 574 = .ok (.aload_n 0, 1) := by decide +kernel
theorem d_Law_isSound_575 : decode b_Law_isSound 575 = .ok (.bipush 7, 2) := by decide +kernel
theorem d_Law_isSound_577 : decode b_Law_isSound 577 = .ok (.invokevirtual 12, 3) := by decide +kernel
theorem d_Law_isSound_580 : decode b_Law_isSound 580 = .ok (.iadd, 1) := by decide +kernel
theorem d_Law_isSound_581 : decode b_Law_isSound 581 = .ok (.aload_n 0, 1) := by decide +kernel
theorem d_Law_isSound_582 : decode b_Law_isSound 582 = .ok (.bipush 8, 2) := by decide +kernel
theorem d_Law_isSound_584 : decode b_Law_isSound 584 = .ok (.invokevirtual 12, 3) := by decide +kernel
theorem d_Law_isSound_587 : decode b_Law_isSound 587 = .ok (.iadd, 1) := by decide +kernel
theorem d_Law_isSound_588 : decode b_Law_isSound 588 = .ok (.if_icmp .ne 58, 3) := by decide +kernel
theorem d_Law_isSound_591 : decode b_Law_isSound 591 = .ok (.aload_n 0, 1) := by decide +kernel
theorem d_Law_isSound_592 : decode b_Law_isSound 592 = .ok (.iconst 5, 1) := by decide +kernel
theorem d_Law_isSound_593 : decode b_Law_isSound 593 = .ok (.invokevirtual 12, 3) := by decide +kernel
theorem d_Law_isSound_596 : decode b_Law_isSound 596 = .ok (.iload_n 1, 1) := by decide +kernel
theorem d_Law_isSound_597 : decode b_Law_isSound 597 = .ok (.if_icmp .ne 49, 3) := by decide +kernel
theorem d_Law_isSound_600 : decode b_Law_isSound 600 = .ok (.aload_n 0, 1) := by decide +kernel
theorem d_Law_isSound_601 : decode b_Law_isSound 601 = .ok (.bipush 7, 2) := by decide +kernel
theorem d_Law_isSound_603 : decode b_Law_isSound 603 = .ok (.invokevirtual 12, 3) := by decide +kernel
theorem d_Law_isSound_606 : decode b_Law_isSound 606 = .ok (.iload_n 2, 1) := by decide +kernel
theorem d_Law_isSound_607 : decode b_Law_isSound 607 = .ok (.if_icmp .ne 39, 3) := by decide +kernel
theorem d_Law_isSound_610 : decode b_Law_isSound 610 = .ok (.aload_n 0, 1) := by decide +kernel
theorem d_Law_isSound_611 : decode b_Law_isSound 611 = .ok (.bipush 9, 2) := by decide +kernel
theorem d_Law_isSound_613 : decode b_Law_isSound 613 = .ok (.invokevirtual 12, 3) := by decide +kernel
theorem d_Law_isSound_616 : decode b_Law_isSound 616 = .ok (.iload 5, 2) := by decide +kernel
theorem d_Law_isSound_618 : decode b_Law_isSound 618 = .ok (.if_icmp .ne 28, 3) := by decide +kernel
theorem d_Law_isSound_621 : decode b_Law_isSound 621 = .ok (.aload_n 0, 1) := by decide +kernel
theorem d_Law_isSound_622 : decode b_Law_isSound 622 = .ok (.bipush 10, 2) := by decide +kernel
theorem d_Law_isSound_624 : decode b_Law_isSound 624 = .ok (.invokevirtual 12, 3) := by decide +kernel
theorem d_Law_isSound_627 : decode b_Law_isSound 627 = .ok (.iload 4, 2) := by decide +kernel
theorem d_Law_isSound_629 : decode b_Law_isSound 629 = .ok (.if_icmp .ne 17, 3) := by decide +kernel
theorem d_Law_isSound_632 : decode b_Law_isSound 632 = .ok (.aload_n 0, 1) := by decide +kernel
theorem d_Law_isSound_633 : decode b_Law_isSound 633 = .ok (.bipush 11, 2) := by decide +kernel
theorem d_Law_isSound_635 : decode b_Law_isSound 635 = .ok (.invokevirtual 12, 3) := by decide +kernel
theorem d_Law_isSound_638 : decode b_Law_isSound 638 = .ok (.iload_n 3, 1) := by decide +kernel
theorem d_Law_isSound_639 : decode b_Law_isSound 639 = .ok (.if_icmp .ne 7, 3) := by decide +kernel
theorem d_Law_isSound_642 : decode b_Law_isSound 642 = .ok (.iconst 1, 1) := by decide +kernel
theorem d_Law_isSound_643 : decode b_Law_isSound 643 = .ok (.goto 4, 3) := by decide +kernel
theorem d_Law_isSound_646 : decode b_Law_isSound 646 = .ok (.iconst 0, 1) := by decide +kernel
theorem d_Law_isSound_647 : decode b_Law_isSound 647 = .ok (.ireturn, 1) := by decide +kernel
theorem d_Law_isForetold_0 : decode b_Law_isForetold 0 = .ok (.aload_n 0, 1) := by decide +kernel
theorem d_Law_isForetold_1 : decode b_Law_isForetold 1 = .ok (.iconst 1, 1) := by decide +kernel
theorem d_Law_isForetold_2 : decode b_Law_isForetold 2 = .ok (.invokevirtual 12, 3) := by decide +kernel
theorem d_Law_isForetold_5 : decode b_Law_isForetold 5 = .ok (.istore_n 2, 1) := by decide +kernel
theorem d_Law_isForetold_6 : decode b_Law_isForetold 6 = .ok (.iload_n 2, 1) := by decide +kernel
theorem d_Law_isForetold_7 : decode b_Law_isForetold 7 = .ok (.ifCond .ne 28, 3) := by decide +kernel
theorem d_Law_isForetold_10 : decode b_Law_isForetold 10 = .ok (.aload_n 0, 1) := by decide +kernel
theorem d_Law_isForetold_11 : decode b_Law_isForetold 11 = .ok (.iconst 0, 1) := by decide +kernel
theorem d_Law_isForetold_12 : decode b_Law_isForetold 12 = .ok (.iconst 0, 1) := by decide +kernel
theorem d_Law_isForetold_13 : decode b_Law_isForetold 13 = .ok (.invokevirtual 33, 3) := by decide +kernel
theorem d_Law_isForetold_16 : decode b_Law_isForetold 16 = .ok (.iconst (-1), 1) := by decide +kernel
theorem d_Law_isForetold_17 : decode b_Law_isForetold 17 = .ok (.if_icmp .ne 16, 3) := by decide +kernel
theorem d_Law_isForetold_20 : decode b_Law_isForetold 20 = .ok (.aload_n 0, 1) := by decide +kernel
theorem d_Law_isForetold_21 : decode b_Law_isForetold 21 = .ok (.iconst 0, 1) := by decide +kernel
theorem d_Law_isForetold_22 : decode b_Law_isForetold 22 = .ok (.invokevirtual 36, 3) := by decide +kernel
theorem d_Law_isForetold_25 : decode b_Law_isForetold 25 = .ok (.iconst (-1), 1) := by decide +kernel
theorem d_Law_isForetold_26 : decode b_Law_isForetold 26 = .ok (.if_icmp .ne 7, 3) := by decide +kernel
theorem d_Law_isForetold_29 : decode b_Law_isForetold 29 = .ok (.iconst 1, 1) := by decide +kernel
theorem d_Law_isForetold_30 : decode b_Law_isForetold 30 = .ok (.goto 4, 3) := by decide +kernel
theorem d_Law_isForetold_33 : decode b_Law_isForetold 33 = .ok (.iconst 0, 1) := by decide +kernel
theorem d_Law_isForetold_34 : decode b_Law_isForetold 34 = .ok (.ireturn, 1) := by decide +kernel
theorem d_Law_isForetold_35 : decode b_Law_isForetold 35 = .ok (.iload_n 1, 1) := by decide +kernel
theorem d_Law_isForetold_36 : decode b_Law_isForetold 36 = .ok (.iload_n 2, 1) := by decide +kernel
theorem d_Law_isForetold_37 : decode b_Law_isForetold 37 = .ok (.invokestatic 39, 3) := by decide +kernel
theorem d_Law_isForetold_40 : decode b_Law_isForetold 40 = .ok (.istore_n 3, 1) := by decide +kernel
theorem d_Law_isForetold_41 : decode b_Law_isForetold 41 = .ok (.aload_n 0, 1) := by decide +kernel
theorem d_Law_isForetold_42 : decode b_Law_isForetold 42 = .ok (.invokestatic 42, 3) := by decide +kernel
theorem d_Law_isForetold_45 : decode b_Law_isForetold 45 = .ok (.lstore 4, 2) := by decide +kernel
theorem d_Law_isForetold_47 : decode b_Law_isForetold 47 = .ok (.aload_n 0, 1) := by decide +kernel
theorem d_Law_isForetold_48 : decode b_Law_isForetold 48 = .ok (.iload_n 3, 1) := by decide +kernel
theorem d_Law_isForetold_49 : decode b_Law_isForetold 49 = .ok (.iconst 0, 1) := by decide +kernel
theorem d_Law_isForetold_50 : decode b_Law_isForetold 50 = .ok (.invokevirtual 33, 3) := by decide +kernel
theorem d_Law_isForetold_53 : decode b_Law_isForetold 53 = .ok (.istore 6, 2) := by decide +kernel
theorem d_Law_isForetold_55 : decode b_Law_isForetold 55 = .ok (.aload_n 0, 1) := by decide +kernel
theorem d_Law_isForetold_56 : decode b_Law_isForetold 56 = .ok (.iload_n 3, 1) := by decide +kernel
theorem d_Law_isForetold_57 : decode b_Law_isForetold 57 = .ok (.iconst 1, 1) := by decide +kernel
theorem d_Law_isForetold_58 : decode b_Law_isForetold 58 = .ok (.invokevirtual 33, 3) := by decide +kernel
theorem d_Law_isForetold_61 : decode b_Law_isForetold 61 = .ok (.istore 7, 2) := by decide +kernel
theorem d_Law_isForetold_63 : decode b_Law_isForetold 63 = .ok (.aload_n 0, 1) := by decide +kernel
theorem d_Law_isForetold_64 : decode b_Law_isForetold 64 = .ok (.iload_n 3, 1) := by decide +kernel
theorem d_Law_isForetold_65 : decode b_Law_isForetold 65 = .ok (.iconst 2, 1) := by decide +kernel
theorem d_Law_isForetold_66 : decode b_Law_isForetold 66 = .ok (.invokevirtual 33, 3) := by decide +kernel
theorem d_Law_isForetold_69 : decode b_Law_isForetold 69 = .ok (.istore 8, 2) := by decide +kernel
theorem d_Law_isForetold_71 : decode b_Law_isForetold 71 = .ok (.aload_n 0, 1) := by decide +kernel
theorem d_Law_isForetold_72 : decode b_Law_isForetold 72 = .ok (.iload_n 3, 1) := by decide +kernel
theorem d_Law_isForetold_73 : decode b_Law_isForetold 73 = .ok (.invokevirtual 36, 3) := by decide +kernel
theorem d_Law_isForetold_76 : decode b_Law_isForetold 76 = .ok (.istore 9, 2) := by decide +kernel
theorem d_Law_isForetold_78 : decode b_Law_isForetold 78 = .ok (.aload_n 0, 1) := by decide +kernel
theorem d_Law_isForetold_79 : decode b_Law_isForetold 79 = .ok (.iconst 2, 1) := by decide +kernel
theorem d_Law_isForetold_80 : decode b_Law_isForetold 80 = .ok (.invokevirtual 12, 3) := by decide +kernel
theorem d_Law_isForetold_83 : decode b_Law_isForetold 83 = .ok (.iconst 1, 1) := by decide +kernel
theorem d_Law_isForetold_84 : decode b_Law_isForetold 84 = .ok (.if_icmp .ne 49, 3) := by decide +kernel
theorem d_Law_isForetold_87 : decode b_Law_isForetold 87 = .ok (.iload 6, 2) := by decide +kernel
theorem d_Law_isForetold_89 : decode b_Law_isForetold 89 = .ok (.bipush (-2), 2) := by decide +kernel
theorem d_Law_isForetold_91 : decode b_Law_isForetold 91 = .ok (.if_icmp .ne 40, 3) := by decide +kernel
theorem d_Law_isForetold_94 : decode b_Law_isForetold 94 = .ok (.iload 7, 2) := by decide +kernel
theorem d_Law_isForetold_96 : decode b_Law_isForetold 96 = .ok (.bipush (-2), 2) := by decide +kernel
theorem d_Law_isForetold_98 : decode b_Law_isForetold 98 = .ok (.if_icmp .ne 33, 3) := by decide +kernel
theorem d_Law_isForetold_101 : decode b_Law_isForetold 101 = .ok (.iload 9, 2) := by decide +kernel
theorem d_Law_isForetold_103 : decode b_Law_isForetold 103 = .ok (.bipush (-2), 2) := by decide +kernel
theorem d_Law_isForetold_105 : decode b_Law_isForetold 105 = .ok (.if_icmp .ne 26, 3) := by decide +kernel
theorem d_Law_isForetold_108 : decode b_Law_isForetold 108 = .ok (.aload_n 0, 1) := by decide +kernel
theorem d_Law_isForetold_109 : decode b_Law_isForetold 109 = .ok (.invokevirtual 46, 3) := by decide +kernel
theorem d_Law_isForetold_112 : decode b_Law_isForetold 112 = .ok (.bipush (-2), 2) := by decide +kernel
theorem d_Law_isForetold_114 : decode b_Law_isForetold 114 = .ok (.if_icmp .ne 17, 3) := by decide +kernel
theorem d_Law_isForetold_117 : decode b_Law_isForetold 117 = .ok (.aload_n 0, 1) := by decide +kernel
theorem d_Law_isForetold_118 : decode b_Law_isForetold 118 = .ok (.invokestatic 42, 3) := by decide +kernel
theorem d_Law_isForetold_121 : decode b_Law_isForetold 121 = .ok (.lload 4, 2) := by decide +kernel
theorem d_Law_isForetold_123 : decode b_Law_isForetold 123 = .ok (.lcmp, 1) := by decide +kernel
theorem d_Law_isForetold_124 : decode b_Law_isForetold 124 = .ok (.ifCond .ne 7, 3) := by decide +kernel
theorem d_Law_isForetold_127 : decode b_Law_isForetold 127 = .ok (.iconst 1, 1) := by decide +kernel
theorem d_Law_isForetold_128 : decode b_Law_isForetold 128 = .ok (.goto 4, 3) := by decide +kernel
theorem d_Law_isForetold_131 : decode b_Law_isForetold 131 = .ok (.iconst 0, 1) := by decide +kernel
theorem d_Law_isForetold_132 : decode b_Law_isForetold 132 = .ok (.ireturn, 1) := by decide +kernel
theorem d_Law_isForetold_133 : decode b_Law_isForetold 133 = .ok (.aload_n 0, 1) := by decide +kernel
theorem d_Law_isForetold_134 : decode b_Law_isForetold 134 = .ok (.invokestatic 42, 3) := by decide +kernel
theorem d_Law_isForetold_137 : decode b_Law_isForetold 137 = .ok (.lload 4, 2) := by decide +kernel
theorem d_Law_isForetold_139 : decode b_Law_isForetold 139 = .ok (.lcmp, 1) := by decide +kernel
theorem d_Law_isForetold_140 : decode b_Law_isForetold 140 = .ok (.ifCond .ne 50, 3) := by decide +kernel
theorem d_Law_isForetold_143 : decode b_Law_isForetold 143 = .ok (.iload 6, 2) := by decide +kernel
theorem d_Law_isForetold_145 : decode b_Law_isForetold 145 = .ok (.ifCond .lt 45, 3) := by decide +kernel
theorem d_Law_isForetold_148 : decode b_Law_isForetold 148 = .ok (.iload 6, 2) := by decide +kernel
theorem d_Law_isForetold_150 : decode b_Law_isForetold 150 = .ok (.aload_n 0, 1) := by decide +kernel
theorem d_Law_isForetold_151 : decode b_Law_isForetold 151 = .ok (.iconst 4, 1) := by decide +kernel
theorem d_Law_isForetold_152 : decode b_Law_isForetold 152 = .ok (.invokevirtual 12, 3) := by decide +kernel
theorem d_Law_isForetold_155 : decode b_Law_isForetold 155 = .ok (.if_icmp .gt 35, 3) := by decide +kernel
theorem d_Law_isForetold_158 : decode b_Law_isForetold 158 = .ok (.iload 8, 2) := by decide +kernel
theorem d_Law_isForetold_160 : decode b_Law_isForetold 160 = .ok (.iload 6, 2) := by decide +kernel
theorem d_Law_isForetold_162 : decode b_Law_isForetold 162 = .ok (.if_icmp .lt 28, 3) := by decide +kernel
theorem d_Law_isForetold_165 : decode b_Law_isForetold 165 = .ok (.aload_n 0, 1) := by decide +kernel
theorem d_Law_isForetold_166 : decode b_Law_isForetold 166 = .ok (.iload_n 3, 1) := by decide +kernel
theorem d_Law_isForetold_167 : decode b_Law_isForetold 167 = .ok (.iconst 5, 1) := by decide +kernel
theorem d_Law_isForetold_168 : decode b_Law_isForetold 168 = .ok (.invokevirtual 25, 3) := by decide +kernel
theorem d_Law_isForetold_171 : decode b_Law_isForetold 171 = .ok (.iconst 1, 1) := by decide +kernel
theorem d_Law_isForetold_172 : decode b_Law_isForetold 172 = .ok (.if_icmp .ne 8, 3) := by decide +kernel
theorem d_Law_isForetold_175 : decode b_Law_isForetold 175 = .ok (.iload 6, 2) := by decide +kernel
theorem d_Law_isForetold_177 : decode b_Law_isForetold 177 = .ok (.ifCond .ne 13, 3) := by decide +kernel
theorem d_Law_isForetold_180 : decode b_Law_isForetold 180 = .ok (.iload 7, 2) := by decide +kernel
theorem d_Law_isForetold_182 : decode b_Law_isForetold 182 = .ok (.ifCond .lt 10, 3) := by decide +kernel
theorem d_Law_isForetold_185 : decode b_Law_isForetold 185 = .ok (.iload 9, 2) := by decide +kernel
theorem d_Law_isForetold_187 : decode b_Law_isForetold 187 = .ok (.ifCond .ge 5, 3) := by decide +kernel
theorem d_Law_isForetold_190 : decode b_Law_isForetold 190 = .ok (.iconst 0, 1) := by decide +kernel
theorem d_Law_isForetold_191 : decode b_Law_isForetold 191 = .ok (.ireturn, 1) := by decide +kernel
theorem d_Law_isForetold_192 : decode b_Law_isForetold 192 = .ok (.aload_n 0, 1) := by decide +kernel
theorem d_Law_isForetold_193 : decode b_Law_isForetold 193 = .ok (.iload_n 3, 1) := by decide +kernel
theorem d_Law_isForetold_194 : decode b_Law_isForetold 194 = .ok (.bipush 9, 2) := by decide +kernel
theorem d_Law_isForetold_196 : decode b_Law_isForetold 196 = .ok (.invokevirtual 25, 3) := by decide +kernel
theorem d_Law_isForetold_199 : decode b_Law_isForetold 199 = .ok (.istore 10, 2) := by decide +kernel
theorem d_Law_isForetold_201 : decode b_Law_isForetold 201 = .ok (.bipush 10, 2) := by decide +kernel
theorem d_Law_isForetold_203 : decode b_Law_isForetold 203 = .ok (.aload_n 0, 1) := by decide +kernel
theorem d_Law_isForetold_204 : decode b_Law_isForetold 204 = .ok (.iload_n 3, 1) := by decide +kernel
theorem d_Law_isForetold_205 : decode b_Law_isForetold 205 = .ok (.iconst 0, 1) := by decide +kernel
theorem d_Law_isForetold_206 : decode b_Law_isForetold 206 = .ok (.invokevirtual 25, 3) := by decide +kernel
theorem d_Law_isForetold_209 : decode b_Law_isForetold 209 = .ok (.imul, 1) := by decide +kernel
theorem d_Law_isForetold_210 : decode b_Law_isForetold 210 = .ok (.iload 7, 2) := by decide +kernel
theorem d_Law_isForetold_212 : decode b_Law_isForetold 212 = .ok (.ifCond .ge 7, 3) := by decide +kernel
theorem d_Law_isForetold_215 : decode b_Law_isForetold 215 = .ok (.iconst 0, 1) := by decide +kernel
theorem d_Law_isForetold_216 : decode b_Law_isForetold 216 = .ok (.goto 13, 3) := by decide +kernel
theorem d_Law_isForetold_219 : decode b_Law_isForetold 219 = .ok (.bipush 10, 2) := by decide +kernel
theorem d_Law_isForetold_221 : decode b_Law_isForetold 221 = .ok (.aload_n 0, 1) := by decide +kernel
theorem d_Law_isForetold_222 : decode b_Law_isForetold 222 = .ok (.iload 7, 2) := by decide +kernel
theorem d_Law_isForetold_224 : decode b_Law_isForetold 224 = .ok (.iconst 0, 1) := by decide +kernel
theorem d_Law_isForetold_225 : decode b_Law_isForetold 225 = .ok (.invokevirtual 18, 3) := by decide +kernel
theorem d_Law_isForetold_228 : decode b_Law_isForetold 228 = .ok (.imul, 1) := by decide +kernel
theorem d_Law_isForetold_229 : decode b_Law_isForetold 229 = .ok (.isub, 1) := by decide +kernel
theorem d_Law_isForetold_230 : decode b_Law_isForetold 230 = .ok (.iload 6, 2) := by decide +kernel
theorem d_Law_isForetold_232 : decode b_Law_isForetold 232 = .ok (.iadd, 1) := by decide +kernel
theorem d_Law_isForetold_233 : decode b_Law_isForetold 233 = .ok (.istore 11, 2) := by decide +kernel
theorem d_Law_isForetold_235 : decode b_Law_isForetold 235 = .ok (.aload_n 0, 1) := by decide +kernel
theorem d_Law_isForetold_236 : decode b_Law_isForetold 236 = .ok (.iload_n 3, 1) := by decide +kernel
theorem d_Law_isForetold_237 : decode b_Law_isForetold 237 = .ok (.iconst 2, 1) := by decide +kernel
theorem d_Law_isForetold_238 : decode b_Law_isForetold 238 = .ok (.invokevirtual 25, 3) := by decide +kernel
theorem d_Law_isForetold_241 : decode b_Law_isForetold 241 = .ok (.istore 12, 2) := by decide +kernel
theorem d_Law_isForetold_243 : decode b_Law_isForetold 243 = .ok (.iload 8, 2) := by decide +kernel
theorem d_Law_isForetold_245 : decode b_Law_isForetold 245 = .ok (.iload 11, 2) := by decide +kernel
theorem d_Law_isForetold_247 : decode b_Law_isForetold 247 = .ok (.if_icmp .ne 63, 3) := by decide +kernel
theorem d_Law_isForetold_250 : decode b_Law_isForetold 250 = .ok (.iload 7, 2) := by decide +kernel
theorem d_Law_isForetold_252 : decode b_Law_isForetold 252 = .ok (.ifCond .lt 10, 3) := by decide +kernel
theorem d_Law_isForetold_255 : decode b_Law_isForetold 255 = .ok (.iload 7, 2) := by decide +kernel
theorem d_Law_isForetold_257 : decode b_Law_isForetold 257 = .ok (.iload 12, 2) := by decide +kernel
theorem d_Law_isForetold_259 : decode b_Law_isForetold 259 = .ok (.if_icmp .ne 51, 3) := by decide +kernel
theorem d_Law_isForetold_262 : decode b_Law_isForetold 262 = .ok (.aload_n 0, 1) := by decide +kernel
theorem d_Law_isForetold_263 : decode b_Law_isForetold 263 = .ok (.invokevirtual 46, 3) := by decide +kernel
theorem d_Law_isForetold_266 : decode b_Law_isForetold 266 = .ok (.ifCond .lt 44, 3) := by decide +kernel
theorem d_Law_isForetold_269 : decode b_Law_isForetold 269 = .ok (.aload_n 0, 1) := by decide +kernel
theorem d_Law_isForetold_270 : decode b_Law_isForetold 270 = .ok (.iload_n 3, 1) := by decide +kernel
theorem d_Law_isForetold_271 : decode b_Law_isForetold 271 = .ok (.bipush 9, 2) := by decide +kernel
theorem d_Law_isForetold_273 : decode b_Law_isForetold 273 = .ok (.invokevirtual 25, 3) := by decide +kernel
theorem d_Law_isForetold_276 : decode b_Law_isForetold 276 = .ok (.iload 10, 2) := by decide +kernel
theorem d_Law_isForetold_278 : decode b_Law_isForetold 278 = .ok (.iload 8, 2) := by decide +kernel
theorem d_Law_isForetold_280 : decode b_Law_isForetold 280 = .ok (.iadd, 1) := by decide +kernel
theorem d_Law_isForetold_281 : decode b_Law_isForetold 281 = .ok (.if_icmp .ne 29, 3) := by decide +kernel
theorem d_Law_isForetold_284 : decode b_Law_isForetold 284 = .ok (.aload_n 0, 1) := by decide +kernel
theorem d_Law_isForetold_285 : decode b_Law_isForetold 285 = .ok (.iload_n 3, 1) := by decide +kernel
theorem d_Law_isForetold_286 : decode b_Law_isForetold 286 = .ok (.bipush 10, 2) := by decide +kernel
theorem d_Law_isForetold_288 : decode b_Law_isForetold 288 = .ok (.invokevirtual 25, 3) := by decide +kernel
theorem d_Law_isForetold_291 : decode b_Law_isForetold 291 = .ok (.iload 7, 2) := by decide +kernel
theorem d_Law_isForetold_293 : decode b_Law_isForetold 293 = .ok (.if_icmp .ne 17, 3) := by decide +kernel
theorem d_Law_isForetold_296 : decode b_Law_isForetold 296 = .ok (.aload_n 0, 1) := by decide +kernel
theorem d_Law_isForetold_297 : decode b_Law_isForetold 297 = .ok (.invokestatic 50, 3) := by decide +kernel
theorem d_Law_isForetold_300 : decode b_Law_isForetold 300 = .ok (.ifCond .eq 10, 3) := by decide +kernel
theorem d_Law_isForetold_303 : decode b_Law_isForetold 303 = .ok (.aload_n 0, 1) := by decide +kernel
theorem d_Law_isForetold_304 : decode b_Law_isForetold 304 = .ok (.invokevirtual 54, 3) := by decide +kernel
theorem d_Law_isForetold_307 : decode b_Law_isForetold 307 = .ok (.ifCond .ge 5, 3) := by decide +kernel
theorem d_Law_isForetold_310 : decode b_Law_isForetold 310 = .ok (.iconst 0, 1) := by decide +kernel
theorem d_Law_isForetold_311 : decode b_Law_isForetold 311 = .ok (.ireturn, 1) := by decide +kernel
theorem d_Law_isForetold_312 : decode b_Law_isForetold 312 = .ok (.iconst 0, 1) := by decide +kernel
theorem d_Law_isForetold_313 : decode b_Law_isForetold 313 = .ok (.istore 13, 2) := by decide +kernel
theorem d_Law_isForetold_315 : decode b_Law_isForetold 315 = .ok (.iload 13, 2) := by decide +kernel
theorem d_Law_isForetold_317 : decode b_Law_isForetold 317 = .ok (.iconst 4, 1) := by decide +kernel
theorem d_Law_isForetold_318 : decode b_Law_isForetold 318 = .ok (.if_icmp .ge 152, 3) := by decide +kernel
theorem d_Law_isForetold_321 : decode b_Law_isForetold 321 = .ok (.iload 13, 2) := by decide +kernel
theorem d_Law_isForetold_323 : decode b_Law_isForetold 323 = .ok (.iload 12, 2) := by decide +kernel
theorem d_Law_isForetold_325 : decode b_Law_isForetold 325 = .ok (.if_icmp .eq 7, 3) := by decide +kernel
theorem d_Law_isForetold_328 : decode b_Law_isForetold 328 = .ok (.iconst 1, 1) := by decide +kernel
theorem d_Law_isForetold_329 : decode b_Law_isForetold 329 = .ok (.goto 4, 3) := by decide +kernel
theorem d_Law_isForetold_332 : decode b_Law_isForetold 332 = .ok (.iconst 0, 1) := by decide +kernel
theorem d_Law_isForetold_333 : decode b_Law_isForetold 333 = .ok (.istore 14, 2) := by decide +kernel
theorem d_Law_isForetold_335 : decode b_Law_isForetold 335 = .ok (.iload 14, 2) := by decide +kernel
theorem d_Law_isForetold_337 : decode b_Law_isForetold 337 = .ok (.ifCond .eq 15, 3) := by decide +kernel
theorem d_Law_isForetold_340 : decode b_Law_isForetold 340 = .ok (.aload_n 0, 1) := by decide +kernel
theorem d_Law_isForetold_341 : decode b_Law_isForetold 341 = .ok (.iload_n 3, 1) := by decide +kernel
theorem d_Law_isForetold_342 : decode b_Law_isForetold 342 = .ok (.iload 13, 2) := by decide +kernel
theorem d_Law_isForetold_344 : decode b_Law_isForetold 344 = .ok (.invokevirtual 57, 3) := by decide +kernel
theorem d_Law_isForetold_347 : decode b_Law_isForetold 347 = .ok (.ifCond .ge 5, 3) := by decide +kernel
theorem d_Law_isForetold_350 : decode b_Law_isForetold 350 = .ok (.iconst 0, 1) := by decide +kernel
theorem d_Law_isForetold_351 : decode b_Law_isForetold 351 = .ok (.ireturn, 1) := by decide +kernel
theorem d_Law_isForetold_352 : decode b_Law_isForetold 352 = .ok (.aload_n 0, 1) := by decide +kernel
theorem d_Law_isForetold_353 : decode b_Law_isForetold 353 = .ok (.iload_n 3, 1) := by decide +kernel
theorem d_Law_isForetold_354 : decode b_Law_isForetold 354 = .ok (.iconst 1, 1) := by decide +kernel
theorem d_Law_isForetold_355 : decode b_Law_isForetold 355 = .ok (.invokevirtual 33, 3) := by decide +kernel
theorem d_Law_isForetold_358 : decode b_Law_isForetold 358 = .ok (.iload 13, 2) := by decide +kernel
theorem d_Law_isForetold_360 : decode b_Law_isForetold 360 = .ok (.if_icmp .ne 7, 3) := by decide +kernel
theorem d_Law_isForetold_363 : decode b_Law_isForetold 363 = .ok (.iconst 1, 1) := by decide +kernel
theorem d_Law_isForetold_364 : decode b_Law_isForetold 364 = .ok (.goto 4, 3) := by decide +kernel
theorem d_Law_isForetold_367 : decode b_Law_isForetold 367 = .ok (.iconst 0, 1) := by decide +kernel
theorem d_Law_isForetold_368 : decode b_Law_isForetold 368 = .ok (.istore 15, 2) := by decide +kernel
theorem d_Law_isForetold_370 : decode b_Law_isForetold 370 = .ok (.iload 14, 2) := by decide +kernel
theorem d_Law_isForetold_372 : decode b_Law_isForetold 372 = .ok (.ifCond .eq 12, 3) := by decide +kernel
theorem d_Law_isForetold_375 : decode b_Law_isForetold 375 = .ok (.aload_n 0, 1) := by decide +kernel
theorem d_Law_isForetold_376 : decode b_Law_isForetold 376 = .ok (.invokevirtual 54, 3) := by decide +kernel
theorem d_Law_isForetold_379 : decode b_Law_isForetold 379 = .ok (.ifCond .ge 5, 3) := by decide +kernel
theorem d_Law_isForetold_382 : decode b_Law_isForetold 382 = .ok (.iconst 0, 1) := by decide +kernel
theorem d_Law_isForetold_383 : decode b_Law_isForetold 383 = .ok (.ireturn, 1) := by decide +kernel
theorem d_Law_isForetold_384 : decode b_Law_isForetold 384 = .ok (.iload 15, 2) := by decide +kernel
theorem d_Law_isForetold_386 : decode b_Law_isForetold 386 = .ok (.iload 9, 2) := by decide +kernel
theorem d_Law_isForetold_388 : decode b_Law_isForetold 388 = .ok (.ifCond .lt 7, 3) := by decide +kernel
theorem d_Law_isForetold_391 : decode b_Law_isForetold 391 = .ok (.iconst 1, 1) := by decide +kernel
theorem d_Law_isForetold_392 : decode b_Law_isForetold 392 = .ok (.goto 4, 3) := by decide +kernel
theorem d_Law_isForetold_395 : decode b_Law_isForetold 395 = .ok (.iconst 0, 1) := by decide +kernel
theorem d_Law_isForetold_396 : decode b_Law_isForetold 396 = .ok (.if_icmp .eq 8, 3) := by decide +kernel
theorem d_Law_isForetold_399 : decode b_Law_isForetold 399 = .ok (.iload 15, 2) := by decide +kernel
theorem d_Law_isForetold_401 : decode b_Law_isForetold 401 = .ok (.ifCond .ne 61, 3) := by decide +kernel
theorem d_Law_isForetold_404 : decode b_Law_isForetold 404 = .ok (.iload 13, 2) := by decide +kernel
theorem d_Law_isForetold_406 : decode b_Law_isForetold 406 = .ok (.iload 9, 2) := by decide +kernel
theorem d_Law_isForetold_408 : decode b_Law_isForetold 408 = .ok (.if_icmp .ne 8, 3) := by decide +kernel
theorem d_Law_isForetold_411 : decode b_Law_isForetold 411 = .ok (.iload 15, 2) := by decide +kernel
theorem d_Law_isForetold_413 : decode b_Law_isForetold 413 = .ok (.ifCond .eq 49, 3) := by decide +kernel
theorem d_Law_isForetold_416 : decode b_Law_isForetold 416 = .ok (.iload 15, 2) := by decide +kernel
theorem d_Law_isForetold_418 : decode b_Law_isForetold 418 = .ok (.ifCond .eq 46, 3) := by decide +kernel
theorem d_Law_isForetold_421 : decode b_Law_isForetold 421 = .ok (.aload_n 0, 1) := by decide +kernel
theorem d_Law_isForetold_422 : decode b_Law_isForetold 422 = .ok (.iload 13, 2) := by decide +kernel
theorem d_Law_isForetold_424 : decode b_Law_isForetold 424 = .ok (.iconst 0, 1) := by decide +kernel
theorem d_Law_isForetold_425 : decode b_Law_isForetold 425 = .ok (.invokevirtual 18, 3) := by decide +kernel
theorem d_Law_isForetold_428 : decode b_Law_isForetold 428 = .ok (.aload_n 0, 1) := by decide +kernel
theorem d_Law_isForetold_429 : decode b_Law_isForetold 429 = .ok (.iload 9, 2) := by decide +kernel
theorem d_Law_isForetold_431 : decode b_Law_isForetold 431 = .ok (.iconst 0, 1) := by decide +kernel
theorem d_Law_isForetold_432 : decode b_Law_isForetold 432 = .ok (.invokevirtual 18, 3) := by decide +kernel
theorem d_Law_isForetold_435 : decode b_Law_isForetold 435 = .ok (.if_icmp .gt 27, 3) := by decide +kernel
theorem d_Law_isForetold_438 : decode b_Law_isForetold 438 = .ok (.aload_n 0, 1) := by decide +kernel
theorem d_Law_isForetold_439 : decode b_Law_isForetold 439 = .ok (.iload 13, 2) := by decide +kernel
theorem d_Law_isForetold_441 : decode b_Law_isForetold 441 = .ok (.iconst 0, 1) := by decide +kernel
theorem d_Law_isForetold_442 : decode b_Law_isForetold 442 = .ok (.invokevirtual 18, 3) := by decide +kernel
theorem d_Law_isForetold_445 : decode b_Law_isForetold 445 = .ok (.aload_n 0, 1) := by decide +kernel
theorem d_Law_isForetold_446 : decode b_Law_isForetold 446 = .ok (.iload 9, 2) := by decide +kernel
theorem d_Law_isForetold_448 : decode b_Law_isForetold 448 = .ok (.iconst 0, 1) := by decide +kernel
theorem d_Law_isForetold_449 : decode b_Law_isForetold 449 = .ok (.invokevirtual 18, 3) := by decide +kernel
theorem d_Law_isForetold_452 : decode b_Law_isForetold 452 = .ok (.if_icmp .ne 12, 3) := by decide +kernel
theorem d_Law_isForetold_455 : decode b_Law_isForetold 455 = .ok (.iload 13, 2) := by decide +kernel
theorem d_Law_isForetold_457 : decode b_Law_isForetold 457 = .ok (.iload 9, 2) := by decide +kernel
theorem d_Law_isForetold_459 : decode b_Law_isForetold 459 = .ok (.if_icmp .ge 5, 3) := by decide +kernel
theorem d_Law_isForetold_462 : decode b_Law_isForetold 462 = .ok (.iconst 0, 1) := by decide +kernel
theorem d_Law_isForetold_463 : decode b_Law_isForetold 463 = .ok (.ireturn, 1) := by decide +kernel
theorem d_Law_isForetold_464 : decode b_Law_isForetold 464 = .ok (.iinc 13 1, 3) := by decide +kernel
theorem d_Law_isForetold_467 : decode b_Law_isForetold 467 = .ok (.goto (-152), 3) := by decide +kernel
theorem d_Law_isForetold_470 : decode b_Law_isForetold 470 = .ok (.aload_n 0, 1) := by decide +kernel
theorem d_Law_isForetold_471 : decode b_Law_isForetold 471 = .ok (.invokestatic 42, 3) := by decide +kernel
theorem d_Law_isForetold_474 : decode b_Law_isForetold 474 = .ok (.lload 4, 2) := by decide +kernel
theorem d_Law_isForetold_476 : decode b_Law_isForetold 476 = .ok (.lcmp, 1) := by decide +kernel
theorem d_Law_isForetold_477 : decode b_Law_isForetold 477 = .ok (.ifCond .ne 7, 3) := by decide +kernel
theorem d_Law_isForetold_480 : decode b_Law_isForetold 480 = .ok (.iconst 1, 1) := by decide +kernel
theorem d_Law_isForetold_481 : decode b_Law_isForetold 481 = .ok (.goto 4, 3) := by decide +kernel
theorem d_Law_isForetold_484 : decode b_Law_isForetold 484 = .ok (.iconst 0, 1) := by decide +kernel
theorem d_Law_isForetold_485 : decode b_Law_isForetold 485 = .ok (.ireturn, 1) := by decide +kernel
theorem d_Law_acts_0 : decode b_Law_acts 0 = .ok (.aload_n 0, 1) := by decide +kernel
theorem d_Law_acts_1 : decode b_Law_acts 1 = .ok (.iconst 1, 1) := by decide +kernel
theorem d_Law_acts_2 : decode b_Law_acts 2 = .ok (.invokevirtual 12, 3) := by decide +kernel
theorem d_Law_acts_5 : decode b_Law_acts 5 = .ok (.istore_n 2, 1) := by decide +kernel
theorem d_Law_acts_6 : decode b_Law_acts 6 = .ok (.iload_n 1, 1) := by decide +kernel
theorem d_Law_acts_7 : decode b_Law_acts 7 = .ok (.iconst 5, 1) := by decide +kernel
theorem d_Law_acts_8 : decode b_Law_acts 8 = .ok (.ishr, 1) := by decide +kernel
theorem d_Law_acts_9 : decode b_Law_acts 9 = .ok (.iload_n 1, 1) := by decide +kernel
theorem d_Law_acts_10 : decode b_Law_acts 10 = .ok (.bipush 26, 2) := by decide +kernel
theorem d_Law_acts_12 : decode b_Law_acts 12 = .ok (.ishr, 1) := by decide +kernel
theorem d_Law_acts_13 : decode b_Law_acts 13 = .ok (.bipush 7, 2) := by decide +kernel
theorem d_Law_acts_15 : decode b_Law_acts 15 = .ok (.iand, 1) := by decide +kernel
theorem d_Law_acts_16 : decode b_Law_acts 16 = .ok (.ifCond .eq 7, 3) := by decide +kernel
theorem d_Law_acts_19 : decode b_Law_acts 19 = .ok (.iload_n 2, 1) := by decide +kernel
theorem d_Law_acts_20 : decode b_Law_acts 20 = .ok (.ifCond .ne 9, 3) := by decide +kernel
theorem d_Law_acts_23 : decode b_Law_acts 23 = .ok (.iload_n 2, 1) := by decide +kernel
theorem d_Law_acts_24 : decode b_Law_acts 24 = .ok (.iconst 1, 1) := by decide +kernel
theorem d_Law_acts_25 : decode b_Law_acts 25 = .ok (.iadd, 1) := by decide +kernel
theorem d_Law_acts_26 : decode b_Law_acts 26 = .ok (.goto 4, 3) := by decide +kernel
theorem d_Law_acts_29 : decode b_Law_acts 29 = .ok (.iload_n 2, 1) := by decide +kernel
theorem d_Law_acts_30 : decode b_Law_acts 30 = .ok (.invokestatic 39, 3) := by decide +kernel
theorem d_Law_acts_33 : decode b_Law_acts 33 = .ok (.istore_n 3, 1) := by decide +kernel
theorem d_Law_acts_34 : decode b_Law_acts 34 = .ok (.iload_n 1, 1) := by decide +kernel
theorem d_Law_acts_35 : decode b_Law_acts 35 = .ok (.bipush 22, 2) := by decide +kernel
theorem d_Law_acts_37 : decode b_Law_acts 37 = .ok (.invokestatic 39, 3) := by decide +kernel
theorem d_Law_acts_40 : decode b_Law_acts 40 = .ok (.tableswitch 241 0 18 #[92, 92, 97, 97, 97, 97, 97, 114, 114, 131, 137, 143, 143, 143, 157, 163, 194, 207, 220], 92) := by decide +kernel
theorem d_Law_acts_132 : decode b_Law_acts 132 = .ok (.aload_n 0, 1) := by decide +kernel
theorem d_Law_acts_133 : decode b_Law_acts 133 = .ok (.invokevirtual 60, 3) := by decide +kernel
theorem d_Law_acts_136 : decode b_Law_acts 136 = .ok (.ireturn, 1) := by decide +kernel
theorem d_Law_acts_137 : decode b_Law_acts 137 = .ok (.aload_n 0, 1) := by decide +kernel
theorem d_Law_acts_138 : decode b_Law_acts 138 = .ok (.iload_n 3, 1) := by decide +kernel
theorem d_Law_acts_139 : decode b_Law_acts 139 = .ok (.iconst 1, 1) := by decide +kernel
theorem d_Law_acts_140 : decode b_Law_acts 140 = .ok (.iload_n 1, 1) := by decide +kernel
theorem d_Law_acts_141 : decode b_Law_acts 141 = .ok (.bipush 9, 2) := by decide +kernel
theorem d_Law_acts_143 : decode b_Law_acts 143 = .ok (.ishr, 1) := by decide +kernel
theorem d_Law_acts_144 : decode b_Law_acts 144 = .ok (.bipush 6, 2) := by decide +kernel
theorem d_Law_acts_146 : decode b_Law_acts 146 = .ok (.invokestatic 39, 3) := by decide +kernel
theorem d_Law_acts_149 : decode b_Law_acts 149 = .ok (.iadd, 1) := by decide +kernel
theorem d_Law_acts_150 : decode b_Law_acts 150 = .ok (.invokevirtual 63, 3) := by decide +kernel
theorem d_Law_acts_153 : decode b_Law_acts 153 = .ok (.ireturn, 1) := by decide +kernel
theorem d_Law_acts_154 : decode b_Law_acts 154 = .ok (.aload_n 0, 1) := by decide +kernel
theorem d_Law_acts_155 : decode b_Law_acts 155 = .ok (.iload_n 3, 1) := by decide +kernel
theorem d_Law_acts_156 : decode b_Law_acts 156 = .ok (.iconst 1, 1) := by decide +kernel
theorem d_Law_acts_157 : decode b_Law_acts 157 = .ok (.iload_n 1, 1) := by decide +kernel
theorem d_Law_acts_158 : decode b_Law_acts 158 = .ok (.bipush 9, 2) := by decide +kernel
theorem d_Law_acts_160 : decode b_Law_acts 160 = .ok (.ishr, 1) := by decide +kernel
theorem d_Law_acts_161 : decode b_Law_acts 161 = .ok (.bipush 25, 2) := by decide +kernel
theorem d_Law_acts_163 : decode b_Law_acts 163 = .ok (.invokestatic 39, 3) := by decide +kernel
theorem d_Law_acts_166 : decode b_Law_acts 166 = .ok (.iadd, 1) := by decide +kernel
theorem d_Law_acts_167 : decode b_Law_acts 167 = .ok (.invokevirtual 66, 3) := by decide +kernel
theorem d_Law_acts_170 : decode b_Law_acts 170 = .ok (.ireturn, 1) := by decide +kernel
theorem d_Law_acts_171 : decode b_Law_acts 171 = .ok (.aload_n 0, 1) := by decide +kernel
theorem d_Law_acts_172 : decode b_Law_acts 172 = .ok (.iload_n 3, 1) := by decide +kernel
theorem d_Law_acts_173 : decode b_Law_acts 173 = .ok (.invokevirtual 69, 3) := by decide +kernel
theorem d_Law_acts_176 : decode b_Law_acts 176 = .ok (.ireturn, 1) := by decide +kernel
theorem d_Law_acts_177 : decode b_Law_acts 177 = .ok (.aload_n 0, 1) := by decide +kernel
theorem d_Law_acts_178 : decode b_Law_acts 178 = .ok (.iload_n 3, 1) := by decide +kernel
theorem d_Law_acts_179 : decode b_Law_acts 179 = .ok (.invokevirtual 72, 3) := by decide +kernel
theorem d_Law_acts_182 : decode b_Law_acts 182 = .ok (.ireturn, 1) := by decide +kernel
theorem d_Law_acts_183 : decode b_Law_acts 183 = .ok (.aload_n 0, 1) := by decide +kernel
theorem d_Law_acts_184 : decode b_Law_acts 184 = .ok (.iload_n 3, 1) := by decide +kernel
theorem d_Law_acts_185 : decode b_Law_acts 185 = .ok (.iload_n 1, 1) := by decide +kernel
theorem d_Law_acts_186 : decode b_Law_acts 186 = .ok (.bipush 9, 2) := by decide +kernel
theorem d_Law_acts_188 : decode b_Law_acts 188 = .ok (.ishr, 1) := by decide +kernel
theorem d_Law_acts_189 : decode b_Law_acts 189 = .ok (.iconst 5, 1) := by decide +kernel
theorem d_Law_acts_190 : decode b_Law_acts 190 = .ok (.invokestatic 39, 3) := by decide +kernel
theorem d_Law_acts_193 : decode b_Law_acts 193 = .ok (.invokevirtual 57, 3) := by decide +kernel
theorem d_Law_acts_196 : decode b_Law_acts 196 = .ok (.ireturn, 1) := by decide +kernel
theorem d_Law_acts_197 : decode b_Law_acts 197 = .ok (.aload_n 0, 1) := by decide +kernel
theorem d_Law_acts_198 : decode b_Law_acts 198 = .ok (.iload_n 3, 1) := by decide +kernel
theorem d_Law_acts_199 : decode b_Law_acts 199 = .ok (.invokevirtual 75, 3) := by decide +kernel
theorem d_Law_acts_202 : decode b_Law_acts 202 = .ok (.ireturn, 1) := by decide +kernel
theorem d_Law_acts_203 : decode b_Law_acts 203 = .ok (.aload_n 0, 1) := by decide +kernel
theorem d_Law_acts_204 : decode b_Law_acts 204 = .ok (.iload_n 1, 1) := by decide +kernel
theorem d_Law_acts_205 : decode b_Law_acts 205 = .ok (.iconst 5, 1) := by decide +kernel
theorem d_Law_acts_206 : decode b_Law_acts 206 = .ok (.ishr, 1) := by decide +kernel
theorem d_Law_acts_207 : decode b_Law_acts 207 = .ok (.iconst 5, 1) := by decide +kernel
theorem d_Law_acts_208 : decode b_Law_acts 208 = .ok (.invokestatic 39, 3) := by decide +kernel
theorem d_Law_acts_211 : decode b_Law_acts 211 = .ok (.iconst 1, 1) := by decide +kernel
theorem d_Law_acts_212 : decode b_Law_acts 212 = .ok (.iload_n 1, 1) := by decide +kernel
theorem d_Law_acts_213 : decode b_Law_acts 213 = .ok (.bipush 9, 2) := by decide +kernel
theorem d_Law_acts_215 : decode b_Law_acts 215 = .ok (.ishr, 1) := by decide +kernel
theorem d_Law_acts_216 : decode b_Law_acts 216 = .ok (.bipush 25, 2) := by decide +kernel
theorem d_Law_acts_218 : decode b_Law_acts 218 = .ok (.invokestatic 39, 3) := by decide +kernel
theorem d_Law_acts_221 : decode b_Law_acts 221 = .ok (.iadd, 1) := by decide +kernel
theorem d_Law_acts_222 : decode b_Law_acts 222 = .ok (.iload_n 1, 1) := by decide +kernel
theorem d_Law_acts_223 : decode b_Law_acts 223 = .ok (.bipush 15, 2) := by decide +kernel
theorem d_Law_acts_225 : decode b_Law_acts 225 = .ok (.ishr, 1) := by decide +kernel
theorem d_Law_acts_226 : decode b_Law_acts 226 = .ok (.iconst 4, 1) := by decide +kernel
theorem d_Law_acts_227 : decode b_Law_acts 227 = .ok (.invokestatic 39, 3) := by decide +kernel
theorem d_Law_acts_230 : decode b_Law_acts 230 = .ok (.invokevirtual 78, 3) := by decide +kernel
theorem d_Law_acts_233 : decode b_Law_acts 233 = .ok (.ireturn, 1) := by decide +kernel
theorem d_Law_acts_234 : decode b_Law_acts 234 = .ok (.aload_n 0, 1) := by decide +kernel
theorem d_Law_acts_235 : decode b_Law_acts 235 = .ok (.iload_n 1, 1) := by decide +kernel
theorem d_Law_acts_236 : decode b_Law_acts 236 = .ok (.bipush 9, 2) := by decide +kernel
theorem d_Law_acts_238 : decode b_Law_acts 238 = .ok (.ishr, 1) := by decide +kernel
theorem d_Law_acts_239 : decode b_Law_acts 239 = .ok (.iconst 3, 1) := by decide +kernel
theorem d_Law_acts_240 : decode b_Law_acts 240 = .ok (.invokestatic 39, 3) := by decide +kernel
theorem d_Law_acts_243 : decode b_Law_acts 243 = .ok (.invokevirtual 82, 3) := by decide +kernel
theorem d_Law_acts_246 : decode b_Law_acts 246 = .ok (.ireturn, 1) := by decide +kernel
theorem d_Law_acts_247 : decode b_Law_acts 247 = .ok (.aload_n 0, 1) := by decide +kernel
theorem d_Law_acts_248 : decode b_Law_acts 248 = .ok (.iload_n 1, 1) := by decide +kernel
theorem d_Law_acts_249 : decode b_Law_acts 249 = .ok (.bipush 9, 2) := by decide +kernel
theorem d_Law_acts_251 : decode b_Law_acts 251 = .ok (.ishr, 1) := by decide +kernel
theorem d_Law_acts_252 : decode b_Law_acts 252 = .ok (.iconst 3, 1) := by decide +kernel
theorem d_Law_acts_253 : decode b_Law_acts 253 = .ok (.invokestatic 39, 3) := by decide +kernel
theorem d_Law_acts_256 : decode b_Law_acts 256 = .ok (.invokevirtual 85, 3) := by decide +kernel
theorem d_Law_acts_259 : decode b_Law_acts 259 = .ok (.ireturn, 1) := by decide +kernel
theorem d_Law_acts_260 : decode b_Law_acts 260 = .ok (.iload_n 1, 1) := by decide +kernel
theorem d_Law_acts_261 : decode b_Law_acts 261 = .ok (.bipush 9, 2) := by decide +kernel
theorem d_Law_acts_263 : decode b_Law_acts 263 = .ok (.ishr, 1) := by decide +kernel
theorem d_Law_acts_264 : decode b_Law_acts 264 = .ok (.iconst 3, 1) := by decide +kernel
theorem d_Law_acts_265 : decode b_Law_acts 265 = .ok (.iand, 1) := by decide +kernel
theorem d_Law_acts_266 : decode b_Law_acts 266 = .ok (.ifCond .ne 10, 3) := by decide +kernel
theorem d_Law_acts_269 : decode b_Law_acts 269 = .ok (.aload_n 0, 1) := by decide +kernel
theorem d_Law_acts_270 : decode b_Law_acts 270 = .ok (.invokevirtual 46, 3) := by decide +kernel
theorem d_Law_acts_273 : decode b_Law_acts 273 = .ok (.goto 7, 3) := by decide +kernel
theorem d_Law_acts_276 : decode b_Law_acts 276 = .ok (.aload_n 0, 1) := by decide +kernel
theorem d_Law_acts_277 : decode b_Law_acts 277 = .ok (.invokevirtual 88, 3) := by decide +kernel
theorem d_Law_acts_280 : decode b_Law_acts 280 = .ok (.ireturn, 1) := by decide +kernel
theorem d_Law_acts_281 : decode b_Law_acts 281 = .ok (.aload_n 0, 1) := by decide +kernel
theorem d_Law_acts_282 : decode b_Law_acts 282 = .ok (.invokevirtual 91, 3) := by decide +kernel
theorem d_Law_acts_285 : decode b_Law_acts 285 = .ok (.ireturn, 1) := by decide +kernel
theorem d_Law_law_0 : decode code 0 = .ok (.new 13, 3) := by decide +kernel
theorem d_Law_law_3 : decode code 3 = .ok (.dup, 1) := by decide +kernel
theorem d_Law_law_4 : decode code 4 = .ok (.invokespecial 94, 3) := by decide +kernel
theorem d_Law_law_7 : decode code 7 = .ok (.astore_n 1, 1) := by decide +kernel
theorem d_Law_law_8 : decode code 8 = .ok (.aload_n 0, 1) := by decide +kernel
theorem d_Law_law_9 : decode code 9 = .ok (.iconst 0, 1) := by decide +kernel
theorem d_Law_law_10 : decode code 10 = .ok (.invokestatic 95, 3) := by decide +kernel
theorem d_Law_law_13 : decode code 13 = .ok (.istore_n 2, 1) := by decide +kernel
theorem d_Law_law_14 : decode code 14 = .ok (.iconst 0, 1) := by decide +kernel
theorem d_Law_law_15 : decode code 15 = .ok (.istore_n 3, 1) := by decide +kernel
theorem d_Law_law_16 : decode code 16 = .ok (.iload_n 3, 1) := by decide +kernel
theorem d_Law_law_17 : decode code 17 = .ok (.iconst 2, 1) := by decide +kernel
theorem d_Law_law_18 : decode code 18 = .ok (.iload_n 2, 1) := by decide +kernel
theorem d_Law_law_19 : decode code 19 = .ok (.iconst 3, 1) := by decide +kernel
theorem d_Law_law_20 : decode code 20 = .ok (.invokestatic 39, 3) := by decide +kernel
theorem d_Law_law_23 : decode code 23 = .ok (.iadd, 1) := by decide +kernel
theorem d_Law_law_24 : decode code 24 = .ok (.if_icmp .ge 43, 3) := by decide +kernel
theorem d_Law_law_27 : decode code 27 = .ok (.aload_n 1, 1) := by decide +kernel
theorem d_Law_law_28 : decode code 28 = .ok (.invokevirtual 60, 3) := by decide +kernel
theorem d_Law_law_31 : decode code 31 = .ok (.pop, 1) := by decide +kernel
theorem d_Law_law_32 : decode code 32 = .ok (.aload_n 1, 1) := by decide +kernel
theorem d_Law_law_33 : decode code 33 = .ok (.iload_n 3, 1) := by decide +kernel
theorem d_Law_law_34 : decode code 34 = .ok (.iconst 4, 1) := by decide +kernel
theorem d_Law_law_35 : decode code 35 = .ok (.irem, 1) := by decide +kernel
theorem d_Law_law_36 : decode code 36 = .ok (.iconst 1, 1) := by decide +kernel
theorem d_Law_law_37 : decode code 37 = .ok (.iload_n 2, 1) := by decide +kernel
theorem d_Law_law_38 : decode code 38 = .ok (.iconst 3, 1) := by decide +kernel
theorem d_Law_law_39 : decode code 39 = .ok (.iload_n 3, 1) := by decide +kernel
theorem d_Law_law_40 : decode code 40 = .ok (.imul, 1) := by decide +kernel
theorem d_Law_law_41 : decode code 41 = .ok (.ishr, 1) := by decide +kernel
theorem d_Law_law_42 : decode code 42 = .ok (.bipush 12, 2) := by decide +kernel
theorem d_Law_law_44 : decode code 44 = .ok (.invokestatic 39, 3) := by decide +kernel
theorem d_Law_law_47 : decode code 47 = .ok (.iadd, 1) := by decide +kernel
theorem d_Law_law_48 : decode code 48 = .ok (.iload_n 2, 1) := by decide +kernel
theorem d_Law_law_49 : decode code 49 = .ok (.iconst 4, 1) := by decide +kernel
theorem d_Law_law_50 : decode code 50 = .ok (.iload_n 3, 1) := by decide +kernel
theorem d_Law_law_51 : decode code 51 = .ok (.iadd, 1) := by decide +kernel
theorem d_Law_law_52 : decode code 52 = .ok (.ishr, 1) := by decide +kernel
theorem d_Law_law_53 : decode code 53 = .ok (.iconst 3, 1) := by decide +kernel
theorem d_Law_law_54 : decode code 54 = .ok (.invokestatic 39, 3) := by decide +kernel
theorem d_Law_law_57 : decode code 57 = .ok (.invokevirtual 78, 3) := by decide +kernel
theorem d_Law_law_60 : decode code 60 = .ok (.pop, 1) := by decide +kernel
theorem d_Law_law_61 : decode code 61 = .ok (.iinc 3 1, 3) := by decide +kernel
theorem d_Law_law_64 : decode code 64 = .ok (.goto (-48), 3) := by decide +kernel
theorem d_Law_law_67 : decode code 67 = .ok (.aload_n 1, 1) := by decide +kernel
theorem d_Law_law_68 : decode code 68 = .ok (.bipush 48, 2) := by decide +kernel
theorem d_Law_law_70 : decode code 70 = .ok (.invokevirtual 99, 3) := by decide +kernel
theorem d_Law_law_73 : decode code 73 = .ok (.pop, 1) := by decide +kernel
theorem d_Law_law_74 : decode code 74 = .ok (.aload_n 1, 1) := by decide +kernel
theorem d_Law_law_75 : decode code 75 = .ok (.bipush 43, 2) := by decide +kernel
theorem d_Law_law_77 : decode code 77 = .ok (.invokevirtual 99, 3) := by decide +kernel
theorem d_Law_law_80 : decode code 80 = .ok (.pop, 1) := by decide +kernel
theorem d_Law_law_81 : decode code 81 = .ok (.aload_n 1, 1) := by decide +kernel
theorem d_Law_law_82 : decode code 82 = .ok (.bipush 51, 2) := by decide +kernel
theorem d_Law_law_84 : decode code 84 = .ok (.invokevirtual 99, 3) := by decide +kernel
theorem d_Law_law_87 : decode code 87 = .ok (.pop, 1) := by decide +kernel
theorem d_Law_law_88 : decode code 88 = .ok (.iconst 0, 1) := by decide +kernel
theorem d_Law_law_89 : decode code 89 = .ok (.istore_n 3, 1) := by decide +kernel
theorem d_Law_law_90 : decode code 90 = .ok (.iload_n 3, 1) := by decide +kernel
theorem d_Law_law_91 : decode code 91 = .ok (.bipush 26, 2) := by decide +kernel
theorem d_Law_law_93 : decode code 93 = .ok (.if_icmp .ge 118, 3) := by decide +kernel
theorem d_Law_law_96 : decode code 96 = .ok (.aload_n 0, 1) := by decide +kernel
theorem d_Law_law_97 : decode code 97 = .ok (.iconst 1, 1) := by decide +kernel
theorem d_Law_law_98 : decode code 98 = .ok (.iload_n 3, 1) := by decide +kernel
theorem d_Law_law_99 : decode code 99 = .ok (.iadd, 1) := by decide +kernel
theorem d_Law_law_100 : decode code 100 = .ok (.invokestatic 95, 3) := by decide +kernel
theorem d_Law_law_103 : decode code 103 = .ok (.istore 4, 2) := by decide +kernel
theorem d_Law_law_105 : decode code 105 = .ok (.aload_n 1, 1) := by decide +kernel
theorem d_Law_law_106 : decode code 106 = .ok (.invokestatic 42, 3) := by decide +kernel
theorem d_Law_law_109 : decode code 109 = .ok (.lstore 5, 2) := by decide +kernel
theorem d_Law_law_111 : decode code 111 = .ok (.aload_n 1, 1) := by decide +kernel
theorem d_Law_law_112 : decode code 112 = .ok (.iload 4, 2) := by decide +kernel
theorem d_Law_law_114 : decode code 114 = .ok (.invokestatic 102, 3) := by decide +kernel
theorem d_Law_law_117 : decode code 117 = .ok (.istore 7, 2) := by decide +kernel
theorem d_Law_law_119 : decode code 119 = .ok (.iload 7, 2) := by decide +kernel
theorem d_Law_law_121 : decode code 121 = .ok (.ifCond .ge 15, 3) := by decide +kernel
theorem d_Law_law_124 : decode code 124 = .ok (.aload_n 1, 1) := by decide +kernel
theorem d_Law_law_125 : decode code 125 = .ok (.invokestatic 42, 3) := by decide +kernel
theorem d_Law_law_128 : decode code 128 = .ok (.lload 5, 2) := by decide +kernel
theorem d_Law_law_130 : decode code 130 = .ok (.lcmp, 1) := by decide +kernel
theorem d_Law_law_131 : decode code 131 = .ok (.ifCond .eq 5, 3) := by decide +kernel
theorem d_Law_law_134 : decode code 134 = .ok (.iconst 0, 1) := by decide +kernel
theorem d_Law_law_135 : decode code 135 = .ok (.ireturn, 1) := by decide +kernel
theorem d_Law_law_136 : decode code 136 = .ok (.iload 7, 2) := by decide +kernel
theorem d_Law_law_138 : decode code 138 = .ok (.ifCond .lt 32, 3) := by decide +kernel
theorem d_Law_law_141 : decode code 141 = .ok (.iload 4, 2) := by decide +kernel
theorem d_Law_law_143 : decode code 143 = .ok (.bipush 28, 2) := by decide +kernel
theorem d_Law_law_145 : decode code 145 = .ok (.ishr, 1) := by decide +kernel
theorem d_Law_law_146 : decode code 146 = .ok (.iconst 3, 1) := by decide +kernel
theorem d_Law_law_147 : decode code 147 = .ok (.iand, 1) := by decide +kernel
theorem d_Law_law_148 : decode code 148 = .ok (.ifCond .ne 22, 3) := by decide +kernel
theorem d_Law_law_151 : decode code 151 = .ok (.aload_n 1, 1) := by decide +kernel
theorem d_Law_law_152 : decode code 152 = .ok (.invokevirtual 54, 3) := by decide +kernel
theorem d_Law_law_155 : decode code 155 = .ok (.ifCond .lt 13, 3) := by decide +kernel
theorem d_Law_law_158 : decode code 158 = .ok (.aload_n 1, 1) := by decide +kernel
theorem d_Law_law_159 : decode code 159 = .ok (.invokestatic 42, 3) := by decide +kernel
theorem d_Law_law_162 : decode code 162 = .ok (.lload 5, 2) := by decide +kernel
theorem d_Law_law_164 : decode code 164 = .ok (.lcmp, 1) := by decide +kernel
theorem d_Law_law_165 : decode code 165 = .ok (.ifCond .eq 5, 3) := by decide +kernel
theorem d_Law_law_168 : decode code 168 = .ok (.iconst 0, 1) := by decide +kernel
theorem d_Law_law_169 : decode code 169 = .ok (.ireturn, 1) := by decide +kernel
theorem d_Law_law_170 : decode code 170 = .ok (.iload_n 3, 1) := by decide +kernel
theorem d_Law_law_171 : decode code 171 = .ok (.iconst 2, 1) := by decide +kernel
theorem d_Law_law_172 : decode code 172 = .ok (.irem, 1) := by decide +kernel
theorem d_Law_law_173 : decode code 173 = .ok (.iconst 1, 1) := by decide +kernel
theorem d_Law_law_174 : decode code 174 = .ok (.if_icmp .ne 10, 3) := by decide +kernel
theorem d_Law_law_177 : decode code 177 = .ok (.aload_n 1, 1) := by decide +kernel
theorem d_Law_law_178 : decode code 178 = .ok (.invokestatic 50, 3) := by decide +kernel
theorem d_Law_law_181 : decode code 181 = .ok (.ifCond .eq 22, 3) := by decide +kernel
theorem d_Law_law_184 : decode code 184 = .ok (.iload_n 3, 1) := by decide +kernel
theorem d_Law_law_185 : decode code 185 = .ok (.iconst 4, 1) := by decide +kernel
theorem d_Law_law_186 : decode code 186 = .ok (.irem, 1) := by decide +kernel
theorem d_Law_law_187 : decode code 187 = .ok (.iconst 2, 1) := by decide +kernel
theorem d_Law_law_188 : decode code 188 = .ok (.if_icmp .ne 17, 3) := by decide +kernel
theorem d_Law_law_191 : decode code 191 = .ok (.aload_n 1, 1) := by decide +kernel
theorem d_Law_law_192 : decode code 192 = .ok (.iload 4, 2) := by decide +kernel
theorem d_Law_law_194 : decode code 194 = .ok (.bipush 7, 2) := by decide +kernel
theorem d_Law_law_196 : decode code 196 = .ok (.ishr, 1) := by decide +kernel
theorem d_Law_law_197 : decode code 197 = .ok (.invokestatic 106, 3) := by decide +kernel
theorem d_Law_law_200 : decode code 200 = .ok (.ifCond .ne 5, 3) := by decide +kernel
theorem d_Law_law_203 : decode code 203 = .ok (.iconst 0, 1) := by decide +kernel
theorem d_Law_law_204 : decode code 204 = .ok (.ireturn, 1) := by decide +kernel
theorem d_Law_law_205 : decode code 205 = .ok (.iinc 3 1, 3) := by decide +kernel
theorem d_Law_law_208 : decode code 208 = .ok (.goto (-118), 3) := by decide +kernel
theorem d_Law_law_211 : decode code 211 = .ok (.aload_n 1, 1) := by decide +kernel
theorem d_Law_law_212 : decode code 212 = .ok (.iconst 0, 1) := by decide +kernel
theorem d_Law_law_213 : decode code 213 = .ok (.invokevirtual 82, 3) := by decide +kernel
theorem d_Law_law_216 : decode code 216 = .ok (.aload_n 1, 1) := by decide +kernel
theorem d_Law_law_217 : decode code 217 = .ok (.iconst 0, 1) := by decide +kernel
theorem d_Law_law_218 : decode code 218 = .ok (.invokevirtual 12, 3) := by decide +kernel
theorem d_Law_law_221 : decode code 221 = .ok (.if_icmp .eq 5, 3) := by decide +kernel
theorem d_Law_law_224 : decode code 224 = .ok (.iconst 0, 1) := by decide +kernel
theorem d_Law_law_225 : decode code 225 = .ok (.ireturn, 1) := by decide +kernel
theorem d_Law_law_226 : decode code 226 = .ok (.aload_n 1, 1) := by decide +kernel
theorem d_Law_law_227 : decode code 227 = .ok (.invokestatic 42, 3) := by decide +kernel
theorem d_Law_law_230 : decode code 230 = .ok (.lstore_n 3, 1) := by decide +kernel
theorem d_Law_law_231 : decode code 231 = .ok (.aload_n 1, 1) := by decide +kernel
theorem d_Law_law_232 : decode code 232 = .ok (.iconst 0, 1) := by decide +kernel
theorem d_Law_law_233 : decode code 233 = .ok (.iconst 1, 1) := by decide +kernel
theorem d_Law_law_234 : decode code 234 = .ok (.invokevirtual 63, 3) := by decide +kernel
theorem d_Law_law_237 : decode code 237 = .ok (.pop, 1) := by decide +kernel
theorem d_Law_law_238 : decode code 238 = .ok (.aload_n 1, 1) := by decide +kernel
theorem d_Law_law_239 : decode code 239 = .ok (.invokevirtual 91, 3) := by decide +kernel
theorem d_Law_law_242 : decode code 242 = .ok (.pop, 1) := by decide +kernel
theorem d_Law_law_243 : decode code 243 = .ok (.aload_n 1, 1) := by decide +kernel
theorem d_Law_law_244 : decode code 244 = .ok (.iconst 0, 1) := by decide +kernel
theorem d_Law_law_245 : decode code 245 = .ok (.iconst 3, 1) := by decide +kernel
theorem d_Law_law_246 : decode code 246 = .ok (.invokevirtual 57, 3) := by decide +kernel
theorem d_Law_law_249 : decode code 249 = .ok (.pop, 1) := by decide +kernel
theorem d_Law_law_250 : decode code 250 = .ok (.aload_n 1, 1) := by decide +kernel
theorem d_Law_law_251 : decode code 251 = .ok (.iconst 0, 1) := by decide +kernel
theorem d_Law_law_252 : decode code 252 = .ok (.invokevirtual 85, 3) := by decide +kernel
theorem d_Law_law_255 : decode code 255 = .ok (.aload_n 1, 1) := by decide +kernel
theorem d_Law_law_256 : decode code 256 = .ok (.iconst 0, 1) := by decide +kernel
theorem d_Law_law_257 : decode code 257 = .ok (.invokevirtual 12, 3) := by decide +kernel
theorem d_Law_law_260 : decode code 260 = .ok (.if_icmp .ne 112, 3) := by decide +kernel
theorem d_Law_law_263 : decode code 263 = .ok (.aload_n 1, 1) := by decide +kernel
theorem d_Law_law_264 : decode code 264 = .ok (.invokestatic 42, 3) := by decide +kernel
theorem d_Law_law_267 : decode code 267 = .ok (.lload_n 3, 1) := by decide +kernel
theorem d_Law_law_268 : decode code 268 = .ok (.lcmp, 1) := by decide +kernel
theorem d_Law_law_269 : decode code 269 = .ok (.ifCond .ne 103, 3) := by decide +kernel
theorem d_Law_law_272 : decode code 272 = .ok (.aload_n 1, 1) := by decide +kernel
theorem d_Law_law_273 : decode code 273 = .ok (.invokevirtual 54, 3) := by decide +kernel
theorem d_Law_law_276 : decode code 276 = .ok (.ifCond .lt 96, 3) := by decide +kernel
theorem d_Law_law_279 : decode code 279 = .ok (.aload_n 1, 1) := by decide +kernel
theorem d_Law_law_280 : decode code 280 = .ok (.iconst 0, 1) := by decide +kernel
theorem d_Law_law_281 : decode code 281 = .ok (.invokevirtual 85, 3) := by decide +kernel
theorem d_Law_law_284 : decode code 284 = .ok (.ifCond .lt 88, 3) := by decide +kernel
theorem d_Law_law_287 : decode code 287 = .ok (.aload_n 1, 1) := by decide +kernel
theorem d_Law_law_288 : decode code 288 = .ok (.invokestatic 42, 3) := by decide +kernel
theorem d_Law_law_291 : decode code 291 = .ok (.lload_n 3, 1) := by decide +kernel
theorem d_Law_law_292 : decode code 292 = .ok (.lcmp, 1) := by decide +kernel
theorem d_Law_law_293 : decode code 293 = .ok (.ifCond .ne 79, 3) := by decide +kernel
theorem d_Law_law_296 : decode code 296 = .ok (.aload_n 1, 1) := by decide +kernel
theorem d_Law_law_297 : decode code 297 = .ok (.iconst 2, 1) := by decide +kernel
theorem d_Law_law_298 : decode code 298 = .ok (.invokevirtual 82, 3) := by decide +kernel
theorem d_Law_law_301 : decode code 301 = .ok (.iconst (-1), 1) := by decide +kernel
theorem d_Law_law_302 : decode code 302 = .ok (.if_icmp .ne 70, 3) := by decide +kernel
theorem d_Law_law_305 : decode code 305 = .ok (.aload_n 1, 1) := by decide +kernel
theorem d_Law_law_306 : decode code 306 = .ok (.iconst (-1), 1) := by decide +kernel
theorem d_Law_law_307 : decode code 307 = .ok (.invokevirtual 85, 3) := by decide +kernel
theorem d_Law_law_310 : decode code 310 = .ok (.iconst (-1), 1) := by decide +kernel
theorem d_Law_law_311 : decode code 311 = .ok (.if_icmp .ne 61, 3) := by decide +kernel
theorem d_Law_law_314 : decode code 314 = .ok (.aload_n 1, 1) := by decide +kernel
theorem d_Law_law_315 : decode code 315 = .ok (.bipush 16, 2) := by decide +kernel
theorem d_Law_law_317 : decode code 317 = .ok (.invokevirtual 12, 3) := by decide +kernel
theorem d_Law_law_320 : decode code 320 = .ok (.iconst (-1), 1) := by decide +kernel
theorem d_Law_law_321 : decode code 321 = .ok (.if_icmp .ne 51, 3) := by decide +kernel
theorem d_Law_law_324 : decode code 324 = .ok (.aload_n 1, 1) := by decide +kernel
theorem d_Law_law_325 : decode code 325 = .ok (.bipush 12, 2) := by decide +kernel
theorem d_Law_law_327 : decode code 327 = .ok (.iconst 0, 1) := by decide +kernel
theorem d_Law_law_328 : decode code 328 = .ok (.invokevirtual 25, 3) := by decide +kernel
theorem d_Law_law_331 : decode code 331 = .ok (.iconst (-1), 1) := by decide +kernel
theorem d_Law_law_332 : decode code 332 = .ok (.if_icmp .ne 40, 3) := by decide +kernel
theorem d_Law_law_335 : decode code 335 = .ok (.aload_n 1, 1) := by decide +kernel
theorem d_Law_law_336 : decode code 336 = .ok (.iconst 0, 1) := by decide +kernel
theorem d_Law_law_337 : decode code 337 = .ok (.iconst 3, 1) := by decide +kernel
theorem d_Law_law_338 : decode code 338 = .ok (.invokevirtual 33, 3) := by decide +kernel
theorem d_Law_law_341 : decode code 341 = .ok (.iconst (-1), 1) := by decide +kernel
theorem d_Law_law_342 : decode code 342 = .ok (.if_icmp .ne 30, 3) := by decide +kernel
theorem d_Law_law_345 : decode code 345 = .ok (.aload_n 1, 1) := by decide +kernel
theorem d_Law_law_346 : decode code 346 = .ok (.iconst 0, 1) := by decide +kernel
theorem d_Law_law_347 : decode code 347 = .ok (.iconst 4, 1) := by decide +kernel
theorem d_Law_law_348 : decode code 348 = .ok (.iconst 1, 1) := by decide +kernel
theorem d_Law_law_349 : decode code 349 = .ok (.invokevirtual 110, 3) := by decide +kernel
theorem d_Law_law_352 : decode code 352 = .ok (.iconst (-1), 1) := by decide +kernel
theorem d_Law_law_353 : decode code 353 = .ok (.if_icmp .ne 19, 3) := by decide +kernel
theorem d_Law_law_356 : decode code 356 = .ok (.aload_n 1, 1) := by decide +kernel
theorem d_Law_law_357 : decode code 357 = .ok (.iconst 0, 1) := by decide +kernel
theorem d_Law_law_358 : decode code 358 = .ok (.iconst 0, 1) := by decide +kernel
theorem d_Law_law_359 : decode code 359 = .ok (.bipush 6, 2) := by decide +kernel
theorem d_Law_law_361 : decode code 361 = .ok (.invokevirtual 110, 3) := by decide +kernel
theorem d_Law_law_364 : decode code 364 = .ok (.iconst (-1), 1) := by decide +kernel
theorem d_Law_law_365 : decode code 365 = .ok (.if_icmp .ne 7, 3) := by decide +kernel
theorem d_Law_law_368 : decode code 368 = .ok (.iconst 1, 1) := by decide +kernel
theorem d_Law_law_369 : decode code 369 = .ok (.goto 4, 3) := by decide +kernel
theorem d_Law_law_372 : decode code 372 = .ok (.iconst 0, 1) := by decide +kernel
theorem d_Law_law_373 : decode code 373 = .ok (.ireturn, 1) := by decide +kernel
