/-! The decode rows, written by a program. -/
theorem d_Acc_init_0 : decode b_Acc_init 0 = .ok (.aload_n 0, 1) := by decide +kernel
theorem d_Acc_init_1 : decode b_Acc_init 1 = .ok (.invokespecial 1, 3) := by decide +kernel
theorem d_Acc_init_4 : decode b_Acc_init 4 = .ok (.return_, 1) := by decide +kernel
theorem d_Acc_copyFrom_0 : decode b_Acc_copyFrom 0 = .ok (.aload_n 0, 1) := by decide +kernel
theorem d_Acc_copyFrom_1 : decode b_Acc_copyFrom 1 = .ok (.aload_n 1, 1) := by decide +kernel
theorem d_Acc_copyFrom_2 : decode b_Acc_copyFrom 2 = .ok (.getfield 7, 3) := by decide +kernel
theorem d_Acc_copyFrom_5 : decode b_Acc_copyFrom 5 = .ok (.putfield 7, 3) := by decide +kernel
theorem d_Acc_copyFrom_8 : decode b_Acc_copyFrom 8 = .ok (.aload_n 0, 1) := by decide +kernel
theorem d_Acc_copyFrom_9 : decode b_Acc_copyFrom 9 = .ok (.aload_n 1, 1) := by decide +kernel
theorem d_Acc_copyFrom_10 : decode b_Acc_copyFrom 10 = .ok (.getfield 13, 3) := by decide +kernel
theorem d_Acc_copyFrom_13 : decode b_Acc_copyFrom 13 = .ok (.putfield 13, 3) := by decide +kernel
theorem d_Acc_copyFrom_16 : decode b_Acc_copyFrom 16 = .ok (.aload_n 0, 1) := by decide +kernel
theorem d_Acc_copyFrom_17 : decode b_Acc_copyFrom 17 = .ok (.aload_n 1, 1) := by decide +kernel
theorem d_Acc_copyFrom_18 : decode b_Acc_copyFrom 18 = .ok (.getfield 16, 3) := by decide +kernel
theorem d_Acc_copyFrom_21 : decode b_Acc_copyFrom 21 = .ok (.putfield 16, 3) := by decide +kernel
theorem d_Acc_copyFrom_24 : decode b_Acc_copyFrom 24 = .ok (.aload_n 0, 1) := by decide +kernel
theorem d_Acc_copyFrom_25 : decode b_Acc_copyFrom 25 = .ok (.aload_n 1, 1) := by decide +kernel
theorem d_Acc_copyFrom_26 : decode b_Acc_copyFrom 26 = .ok (.getfield 19, 3) := by decide +kernel
theorem d_Acc_copyFrom_29 : decode b_Acc_copyFrom 29 = .ok (.putfield 19, 3) := by decide +kernel
theorem d_Acc_copyFrom_32 : decode b_Acc_copyFrom 32 = .ok (.aload_n 0, 1) := by decide +kernel
theorem d_Acc_copyFrom_33 : decode b_Acc_copyFrom 33 = .ok (.aload_n 1, 1) := by decide +kernel
theorem d_Acc_copyFrom_34 : decode b_Acc_copyFrom 34 = .ok (.getfield 22, 3) := by decide +kernel
theorem d_Acc_copyFrom_37 : decode b_Acc_copyFrom 37 = .ok (.putfield 22, 3) := by decide +kernel
theorem d_Acc_copyFrom_40 : decode b_Acc_copyFrom 40 = .ok (.return_, 1) := by decide +kernel
theorem d_Acc_takeIn_0 : decode b_Acc_takeIn 0 = .ok (.aload_n 0, 1) := by decide +kernel
theorem d_Acc_takeIn_1 : decode b_Acc_takeIn 1 = .ok (.dup, 1) := by decide +kernel
theorem d_Acc_takeIn_2 : decode b_Acc_takeIn 2 = .ok (.getfield 7, 3) := by decide +kernel
theorem d_Acc_takeIn_5 : decode b_Acc_takeIn 5 = .ok (.iload_n 1, 1) := by decide +kernel
theorem d_Acc_takeIn_6 : decode b_Acc_takeIn 6 = .ok (.iadd, 1) := by decide +kernel
theorem d_Acc_takeIn_7 : decode b_Acc_takeIn 7 = .ok (.putfield 7, 3) := by decide +kernel
theorem d_Acc_takeIn_10 : decode b_Acc_takeIn 10 = .ok (.aload_n 0, 1) := by decide +kernel
theorem d_Acc_takeIn_11 : decode b_Acc_takeIn 11 = .ok (.dup, 1) := by decide +kernel
theorem d_Acc_takeIn_12 : decode b_Acc_takeIn 12 = .ok (.getfield 16, 3) := by decide +kernel
theorem d_Acc_takeIn_15 : decode b_Acc_takeIn 15 = .ok (.iload_n 1, 1) := by decide +kernel
theorem d_Acc_takeIn_16 : decode b_Acc_takeIn 16 = .ok (.iadd, 1) := by decide +kernel
theorem d_Acc_takeIn_17 : decode b_Acc_takeIn 17 = .ok (.putfield 16, 3) := by decide +kernel
theorem d_Acc_takeIn_20 : decode b_Acc_takeIn 20 = .ok (.return_, 1) := by decide +kernel
theorem d_Acc_payOut_0 : decode b_Acc_payOut 0 = .ok (.aload_n 0, 1) := by decide +kernel
theorem d_Acc_payOut_1 : decode b_Acc_payOut 1 = .ok (.dup, 1) := by decide +kernel
theorem d_Acc_payOut_2 : decode b_Acc_payOut 2 = .ok (.getfield 7, 3) := by decide +kernel
theorem d_Acc_payOut_5 : decode b_Acc_payOut 5 = .ok (.iload_n 1, 1) := by decide +kernel
theorem d_Acc_payOut_6 : decode b_Acc_payOut 6 = .ok (.isub, 1) := by decide +kernel
theorem d_Acc_payOut_7 : decode b_Acc_payOut 7 = .ok (.putfield 7, 3) := by decide +kernel
theorem d_Acc_payOut_10 : decode b_Acc_payOut 10 = .ok (.aload_n 0, 1) := by decide +kernel
theorem d_Acc_payOut_11 : decode b_Acc_payOut 11 = .ok (.dup, 1) := by decide +kernel
theorem d_Acc_payOut_12 : decode b_Acc_payOut 12 = .ok (.getfield 19, 3) := by decide +kernel
theorem d_Acc_payOut_15 : decode b_Acc_payOut 15 = .ok (.iload_n 1, 1) := by decide +kernel
theorem d_Acc_payOut_16 : decode b_Acc_payOut 16 = .ok (.iadd, 1) := by decide +kernel
theorem d_Acc_payOut_17 : decode b_Acc_payOut 17 = .ok (.putfield 19, 3) := by decide +kernel
theorem d_Acc_payOut_20 : decode b_Acc_payOut 20 = .ok (.return_, 1) := by decide +kernel
theorem d_Acc_payShop_0 : decode b_Acc_payShop 0 = .ok (.aload_n 0, 1) := by decide +kernel
theorem d_Acc_payShop_1 : decode b_Acc_payShop 1 = .ok (.dup, 1) := by decide +kernel
theorem d_Acc_payShop_2 : decode b_Acc_payShop 2 = .ok (.getfield 7, 3) := by decide +kernel
theorem d_Acc_payShop_5 : decode b_Acc_payShop 5 = .ok (.iload_n 1, 1) := by decide +kernel
theorem d_Acc_payShop_6 : decode b_Acc_payShop 6 = .ok (.isub, 1) := by decide +kernel
theorem d_Acc_payShop_7 : decode b_Acc_payShop 7 = .ok (.putfield 7, 3) := by decide +kernel
theorem d_Acc_payShop_10 : decode b_Acc_payShop 10 = .ok (.aload_n 0, 1) := by decide +kernel
theorem d_Acc_payShop_11 : decode b_Acc_payShop 11 = .ok (.dup, 1) := by decide +kernel
theorem d_Acc_payShop_12 : decode b_Acc_payShop 12 = .ok (.getfield 22, 3) := by decide +kernel
theorem d_Acc_payShop_15 : decode b_Acc_payShop 15 = .ok (.iload_n 1, 1) := by decide +kernel
theorem d_Acc_payShop_16 : decode b_Acc_payShop 16 = .ok (.iadd, 1) := by decide +kernel
theorem d_Acc_payShop_17 : decode b_Acc_payShop 17 = .ok (.putfield 22, 3) := by decide +kernel
theorem d_Acc_payShop_20 : decode b_Acc_payShop 20 = .ok (.return_, 1) := by decide +kernel
theorem d_Crd_init_0 : decode b_Crd_init 0 = .ok (.aload_n 0, 1) := by decide +kernel
theorem d_Crd_init_1 : decode b_Crd_init 1 = .ok (.invokespecial 3, 3) := by decide +kernel
theorem d_Crd_init_4 : decode b_Crd_init 4 = .ok (.aload_n 0, 1) := by decide +kernel
theorem d_Crd_init_5 : decode b_Crd_init 5 = .ok (.bipush 12, 2) := by decide +kernel
theorem d_Crd_init_7 : decode b_Crd_init 7 = .ok (.newarray .int, 2) := by decide +kernel
theorem d_Crd_init_9 : decode b_Crd_init 9 = .ok (.putfield 9, 3) := by decide +kernel
theorem d_Crd_init_12 : decode b_Crd_init 12 = .ok (.aload_n 0, 1) := by decide +kernel
theorem d_Crd_init_13 : decode b_Crd_init 13 = .ok (.bipush 12, 2) := by decide +kernel
theorem d_Crd_init_15 : decode b_Crd_init 15 = .ok (.newarray .int, 2) := by decide +kernel
theorem d_Crd_init_17 : decode b_Crd_init 17 = .ok (.putfield 15, 3) := by decide +kernel
theorem d_Crd_init_20 : decode b_Crd_init 20 = .ok (.aload_n 0, 1) := by decide +kernel
theorem d_Crd_init_21 : decode b_Crd_init 21 = .ok (.bipush 12, 2) := by decide +kernel
theorem d_Crd_init_23 : decode b_Crd_init 23 = .ok (.newarray .int, 2) := by decide +kernel
theorem d_Crd_init_25 : decode b_Crd_init 25 = .ok (.putfield 18, 3) := by decide +kernel
theorem d_Crd_init_28 : decode b_Crd_init 28 = .ok (.aload_n 0, 1) := by decide +kernel
theorem d_Crd_init_29 : decode b_Crd_init 29 = .ok (.bipush 12, 2) := by decide +kernel
theorem d_Crd_init_31 : decode b_Crd_init 31 = .ok (.newarray .int, 2) := by decide +kernel
theorem d_Crd_init_33 : decode b_Crd_init 33 = .ok (.putfield 21, 3) := by decide +kernel
theorem d_Crd_init_36 : decode b_Crd_init 36 = .ok (.aload_n 0, 1) := by decide +kernel
theorem d_Crd_init_37 : decode b_Crd_init 37 = .ok (.bipush 12, 2) := by decide +kernel
theorem d_Crd_init_39 : decode b_Crd_init 39 = .ok (.newarray .int, 2) := by decide +kernel
theorem d_Crd_init_41 : decode b_Crd_init 41 = .ok (.putfield 24, 3) := by decide +kernel
theorem d_Crd_init_44 : decode b_Crd_init 44 = .ok (.aload_n 0, 1) := by decide +kernel
theorem d_Crd_init_45 : decode b_Crd_init 45 = .ok (.bipush 12, 2) := by decide +kernel
theorem d_Crd_init_47 : decode b_Crd_init 47 = .ok (.newarray .int, 2) := by decide +kernel
theorem d_Crd_init_49 : decode b_Crd_init 49 = .ok (.putfield 27, 3) := by decide +kernel
theorem d_Crd_init_52 : decode b_Crd_init 52 = .ok (.aload_n 0, 1) := by decide +kernel
theorem d_Crd_init_53 : decode b_Crd_init 53 = .ok (.bipush 12, 2) := by decide +kernel
theorem d_Crd_init_55 : decode b_Crd_init 55 = .ok (.newarray .long, 2) := by decide +kernel
theorem d_Crd_init_57 : decode b_Crd_init 57 = .ok (.putfield 30, 3) := by decide +kernel
theorem d_Crd_init_60 : decode b_Crd_init 60 = .ok (.aload_n 0, 1) := by decide +kernel
theorem d_Crd_init_61 : decode b_Crd_init 61 = .ok (.bipush 12, 2) := by decide +kernel
theorem d_Crd_init_63 : decode b_Crd_init 63 = .ok (.newarray .int, 2) := by decide +kernel
theorem d_Crd_init_65 : decode b_Crd_init 65 = .ok (.putfield 34, 3) := by decide +kernel
theorem d_Crd_init_68 : decode b_Crd_init 68 = .ok (.aload_n 0, 1) := by decide +kernel
theorem d_Crd_init_69 : decode b_Crd_init 69 = .ok (.getfield 34, 3) := by decide +kernel
theorem d_Crd_init_72 : decode b_Crd_init 72 = .ok (.bipush (-9), 2) := by decide +kernel
theorem d_Crd_init_74 : decode b_Crd_init 74 = .ok (.invokestatic 37, 3) := by decide +kernel
theorem d_Crd_init_77 : decode b_Crd_init 77 = .ok (.return_, 1) := by decide +kernel
theorem d_Crd_copyFrom_0 : decode b_Crd_copyFrom 0 = .ok (.aload_n 0, 1) := by decide +kernel
theorem d_Crd_copyFrom_1 : decode b_Crd_copyFrom 1 = .ok (.aload_n 1, 1) := by decide +kernel
theorem d_Crd_copyFrom_2 : decode b_Crd_copyFrom 2 = .ok (.getfield 43, 3) := by decide +kernel
theorem d_Crd_copyFrom_5 : decode b_Crd_copyFrom 5 = .ok (.putfield 43, 3) := by decide +kernel
theorem d_Crd_copyFrom_8 : decode b_Crd_copyFrom 8 = .ok (.aload_n 1, 1) := by decide +kernel
theorem d_Crd_copyFrom_9 : decode b_Crd_copyFrom 9 = .ok (.getfield 9, 3) := by decide +kernel
theorem d_Crd_copyFrom_12 : decode b_Crd_copyFrom 12 = .ok (.iconst 0, 1) := by decide +kernel
theorem d_Crd_copyFrom_13 : decode b_Crd_copyFrom 13 = .ok (.aload_n 0, 1) := by decide +kernel
theorem d_Crd_copyFrom_14 : decode b_Crd_copyFrom 14 = .ok (.getfield 9, 3) := by decide +kernel
theorem d_Crd_copyFrom_17 : decode b_Crd_copyFrom 17 = .ok (.iconst 0, 1) := by decide +kernel
theorem d_Crd_copyFrom_18 : decode b_Crd_copyFrom 18 = .ok (.bipush 12, 2) := by decide +kernel
theorem d_Crd_copyFrom_20 : decode b_Crd_copyFrom 20 = .ok (.invokestatic 47, 3) := by decide +kernel
theorem d_Crd_copyFrom_23 : decode b_Crd_copyFrom 23 = .ok (.aload_n 1, 1) := by decide +kernel
theorem d_Crd_copyFrom_24 : decode b_Crd_copyFrom 24 = .ok (.getfield 15, 3) := by decide +kernel
theorem d_Crd_copyFrom_27 : decode b_Crd_copyFrom 27 = .ok (.iconst 0, 1) := by decide +kernel
theorem d_Crd_copyFrom_28 : decode b_Crd_copyFrom 28 = .ok (.aload_n 0, 1) := by decide +kernel
theorem d_Crd_copyFrom_29 : decode b_Crd_copyFrom 29 = .ok (.getfield 15, 3) := by decide +kernel
theorem d_Crd_copyFrom_32 : decode b_Crd_copyFrom 32 = .ok (.iconst 0, 1) := by decide +kernel
theorem d_Crd_copyFrom_33 : decode b_Crd_copyFrom 33 = .ok (.bipush 12, 2) := by decide +kernel
theorem d_Crd_copyFrom_35 : decode b_Crd_copyFrom 35 = .ok (.invokestatic 47, 3) := by decide +kernel
theorem d_Crd_copyFrom_38 : decode b_Crd_copyFrom 38 = .ok (.aload_n 1, 1) := by decide +kernel
theorem d_Crd_copyFrom_39 : decode b_Crd_copyFrom 39 = .ok (.getfield 18, 3) := by decide +kernel
theorem d_Crd_copyFrom_42 : decode b_Crd_copyFrom 42 = .ok (.iconst 0, 1) := by decide +kernel
theorem d_Crd_copyFrom_43 : decode b_Crd_copyFrom 43 = .ok (.aload_n 0, 1) := by decide +kernel
theorem d_Crd_copyFrom_44 : decode b_Crd_copyFrom 44 = .ok (.getfield 18, 3) := by decide +kernel
theorem d_Crd_copyFrom_47 : decode b_Crd_copyFrom 47 = .ok (.iconst 0, 1) := by decide +kernel
theorem d_Crd_copyFrom_48 : decode b_Crd_copyFrom 48 = .ok (.bipush 12, 2) := by decide +kernel
theorem d_Crd_copyFrom_50 : decode b_Crd_copyFrom 50 = .ok (.invokestatic 47, 3) := by decide +kernel
theorem d_Crd_copyFrom_53 : decode b_Crd_copyFrom 53 = .ok (.aload_n 1, 1) := by decide +kernel
theorem d_Crd_copyFrom_54 : decode b_Crd_copyFrom 54 = .ok (.getfield 21, 3) := by decide +kernel
theorem d_Crd_copyFrom_57 : decode b_Crd_copyFrom 57 = .ok (.iconst 0, 1) := by decide +kernel
theorem d_Crd_copyFrom_58 : decode b_Crd_copyFrom 58 = .ok (.aload_n 0, 1) := by decide +kernel
theorem d_Crd_copyFrom_59 : decode b_Crd_copyFrom 59 = .ok (.getfield 21, 3) := by decide +kernel
theorem d_Crd_copyFrom_62 : decode b_Crd_copyFrom 62 = .ok (.iconst 0, 1) := by decide +kernel
theorem d_Crd_copyFrom_63 : decode b_Crd_copyFrom 63 = .ok (.bipush 12, 2) := by decide +kernel
theorem d_Crd_copyFrom_65 : decode b_Crd_copyFrom 65 = .ok (.invokestatic 47, 3) := by decide +kernel
theorem d_Crd_copyFrom_68 : decode b_Crd_copyFrom 68 = .ok (.aload_n 1, 1) := by decide +kernel
theorem d_Crd_copyFrom_69 : decode b_Crd_copyFrom 69 = .ok (.getfield 24, 3) := by decide +kernel
theorem d_Crd_copyFrom_72 : decode b_Crd_copyFrom 72 = .ok (.iconst 0, 1) := by decide +kernel
theorem d_Crd_copyFrom_73 : decode b_Crd_copyFrom 73 = .ok (.aload_n 0, 1) := by decide +kernel
theorem d_Crd_copyFrom_74 : decode b_Crd_copyFrom 74 = .ok (.getfield 24, 3) := by decide +kernel
theorem d_Crd_copyFrom_77 : decode b_Crd_copyFrom 77 = .ok (.iconst 0, 1) := by decide +kernel
theorem d_Crd_copyFrom_78 : decode b_Crd_copyFrom 78 = .ok (.bipush 12, 2) := by decide +kernel
theorem d_Crd_copyFrom_80 : decode b_Crd_copyFrom 80 = .ok (.invokestatic 47, 3) := by decide +kernel
theorem d_Crd_copyFrom_83 : decode b_Crd_copyFrom 83 = .ok (.aload_n 1, 1) := by decide +kernel
theorem d_Crd_copyFrom_84 : decode b_Crd_copyFrom 84 = .ok (.getfield 27, 3) := by decide +kernel
theorem d_Crd_copyFrom_87 : decode b_Crd_copyFrom 87 = .ok (.iconst 0, 1) := by decide +kernel
theorem d_Crd_copyFrom_88 : decode b_Crd_copyFrom 88 = .ok (.aload_n 0, 1) := by decide +kernel
theorem d_Crd_copyFrom_89 : decode b_Crd_copyFrom 89 = .ok (.getfield 27, 3) := by decide +kernel
theorem d_Crd_copyFrom_92 : decode b_Crd_copyFrom 92 = .ok (.iconst 0, 1) := by decide +kernel
theorem d_Crd_copyFrom_93 : decode b_Crd_copyFrom 93 = .ok (.bipush 12, 2) := by decide +kernel
theorem d_Crd_copyFrom_95 : decode b_Crd_copyFrom 95 = .ok (.invokestatic 47, 3) := by decide +kernel
theorem d_Crd_copyFrom_98 : decode b_Crd_copyFrom 98 = .ok (.aload_n 1, 1) := by decide +kernel
theorem d_Crd_copyFrom_99 : decode b_Crd_copyFrom 99 = .ok (.getfield 30, 3) := by decide +kernel
theorem d_Crd_copyFrom_102 : decode b_Crd_copyFrom 102 = .ok (.iconst 0, 1) := by decide +kernel
theorem d_Crd_copyFrom_103 : decode b_Crd_copyFrom 103 = .ok (.aload_n 0, 1) := by decide +kernel
theorem d_Crd_copyFrom_104 : decode b_Crd_copyFrom 104 = .ok (.getfield 30, 3) := by decide +kernel
theorem d_Crd_copyFrom_107 : decode b_Crd_copyFrom 107 = .ok (.iconst 0, 1) := by decide +kernel
theorem d_Crd_copyFrom_108 : decode b_Crd_copyFrom 108 = .ok (.bipush 12, 2) := by decide +kernel
theorem d_Crd_copyFrom_110 : decode b_Crd_copyFrom 110 = .ok (.invokestatic 47, 3) := by decide +kernel
theorem d_Crd_copyFrom_113 : decode b_Crd_copyFrom 113 = .ok (.aload_n 1, 1) := by decide +kernel
theorem d_Crd_copyFrom_114 : decode b_Crd_copyFrom 114 = .ok (.getfield 34, 3) := by decide +kernel
theorem d_Crd_copyFrom_117 : decode b_Crd_copyFrom 117 = .ok (.iconst 0, 1) := by decide +kernel
theorem d_Crd_copyFrom_118 : decode b_Crd_copyFrom 118 = .ok (.aload_n 0, 1) := by decide +kernel
theorem d_Crd_copyFrom_119 : decode b_Crd_copyFrom 119 = .ok (.getfield 34, 3) := by decide +kernel
theorem d_Crd_copyFrom_122 : decode b_Crd_copyFrom 122 = .ok (.iconst 0, 1) := by decide +kernel
theorem d_Crd_copyFrom_123 : decode b_Crd_copyFrom 123 = .ok (.bipush 12, 2) := by decide +kernel
theorem d_Crd_copyFrom_125 : decode b_Crd_copyFrom 125 = .ok (.invokestatic 47, 3) := by decide +kernel
theorem d_Crd_copyFrom_128 : decode b_Crd_copyFrom 128 = .ok (.return_, 1) := by decide +kernel
theorem d_Crd_exists_0 : decode b_Crd_exists 0 = .ok (.iload_n 1, 1) := by decide +kernel
theorem d_Crd_exists_1 : decode b_Crd_exists 1 = .ok (.ifCond .lt 15, 3) := by decide +kernel
theorem d_Crd_exists_4 : decode b_Crd_exists 4 = .ok (.iload_n 1, 1) := by decide +kernel
theorem d_Crd_exists_5 : decode b_Crd_exists 5 = .ok (.aload_n 0, 1) := by decide +kernel
theorem d_Crd_exists_6 : decode b_Crd_exists 6 = .ok (.getfield 43, 3) := by decide +kernel
theorem d_Crd_exists_9 : decode b_Crd_exists 9 = .ok (.if_icmp .ge 7, 3) := by decide +kernel
theorem d_Crd_exists_12 : decode b_Crd_exists 12 = .ok (.iconst 1, 1) := by decide +kernel
theorem d_Crd_exists_13 : decode b_Crd_exists 13 = .ok (.goto 4, 3) := by decide +kernel
theorem d_Crd_exists_16 : decode b_Crd_exists 16 = .ok (.iconst 0, 1) := by decide +kernel
theorem d_Crd_exists_17 : decode b_Crd_exists 17 = .ok (.ireturn, 1) := by decide +kernel
theorem d_Crd_isInHand_0 : decode b_Crd_isInHand 0 = .ok (.aload_n 0, 1) := by decide +kernel
theorem d_Crd_isInHand_1 : decode b_Crd_isInHand 1 = .ok (.getfield 15, 3) := by decide +kernel
theorem d_Crd_isInHand_4 : decode b_Crd_isInHand 4 = .ok (.iload_n 1, 1) := by decide +kernel
theorem d_Crd_isInHand_5 : decode b_Crd_isInHand 5 = .ok (.iaload, 1) := by decide +kernel
theorem d_Crd_isInHand_6 : decode b_Crd_isInHand 6 = .ok (.ifCond .ne 7, 3) := by decide +kernel
theorem d_Crd_isInHand_9 : decode b_Crd_isInHand 9 = .ok (.iconst 1, 1) := by decide +kernel
theorem d_Crd_isInHand_10 : decode b_Crd_isInHand 10 = .ok (.goto 4, 3) := by decide +kernel
theorem d_Crd_isInHand_13 : decode b_Crd_isInHand 13 = .ok (.iconst 0, 1) := by decide +kernel
theorem d_Crd_isInHand_14 : decode b_Crd_isInHand 14 = .ok (.ireturn, 1) := by decide +kernel
theorem d_Crd_isGoodIn_0 : decode b_Crd_isGoodIn 0 = .ok (.aload_n 0, 1) := by decide +kernel
theorem d_Crd_isGoodIn_1 : decode b_Crd_isGoodIn 1 = .ok (.getfield 30, 3) := by decide +kernel
theorem d_Crd_isGoodIn_4 : decode b_Crd_isGoodIn 4 = .ok (.iload_n 1, 1) := by decide +kernel
theorem d_Crd_isGoodIn_5 : decode b_Crd_isGoodIn 5 = .ok (.laload, 1) := by decide +kernel
theorem d_Crd_isGoodIn_6 : decode b_Crd_isGoodIn 6 = .ok (.iload_n 2, 1) := by decide +kernel
theorem d_Crd_isGoodIn_7 : decode b_Crd_isGoodIn 7 = .ok (.lshr, 1) := by decide +kernel
theorem d_Crd_isGoodIn_8 : decode b_Crd_isGoodIn 8 = .ok (.lconst 1, 1) := by decide +kernel
theorem d_Crd_isGoodIn_9 : decode b_Crd_isGoodIn 9 = .ok (.land, 1) := by decide +kernel
theorem d_Crd_isGoodIn_10 : decode b_Crd_isGoodIn 10 = .ok (.lconst 1, 1) := by decide +kernel
theorem d_Crd_isGoodIn_11 : decode b_Crd_isGoodIn 11 = .ok (.lcmp, 1) := by decide +kernel
theorem d_Crd_isGoodIn_12 : decode b_Crd_isGoodIn 12 = .ok (.ifCond .ne 7, 3) := by decide +kernel
theorem d_Crd_isGoodIn_15 : decode b_Crd_isGoodIn 15 = .ok (.iconst 1, 1) := by decide +kernel
theorem d_Crd_isGoodIn_16 : decode b_Crd_isGoodIn 16 = .ok (.goto 4, 3) := by decide +kernel
theorem d_Crd_isGoodIn_19 : decode b_Crd_isGoodIn 19 = .ok (.iconst 0, 1) := by decide +kernel
theorem d_Crd_isGoodIn_20 : decode b_Crd_isGoodIn 20 = .ok (.ireturn, 1) := by decide +kernel
theorem d_Crd_shares_0 : decode b_Crd_shares 0 = .ok (.aload_n 0, 1) := by decide +kernel
theorem d_Crd_shares_1 : decode b_Crd_shares 1 = .ok (.getfield 27, 3) := by decide +kernel
theorem d_Crd_shares_4 : decode b_Crd_shares 4 = .ok (.iload_n 1, 1) := by decide +kernel
theorem d_Crd_shares_5 : decode b_Crd_shares 5 = .ok (.iaload, 1) := by decide +kernel
theorem d_Crd_shares_6 : decode b_Crd_shares 6 = .ok (.ifCond .ne 17, 3) := by decide +kernel
theorem d_Crd_shares_9 : decode b_Crd_shares 9 = .ok (.aload_n 0, 1) := by decide +kernel
theorem d_Crd_shares_10 : decode b_Crd_shares 10 = .ok (.getfield 9, 3) := by decide +kernel
theorem d_Crd_shares_13 : decode b_Crd_shares 13 = .ok (.iload_n 1, 1) := by decide +kernel
theorem d_Crd_shares_14 : decode b_Crd_shares 14 = .ok (.iaload, 1) := by decide +kernel
theorem d_Crd_shares_15 : decode b_Crd_shares 15 = .ok (.iconst 1, 1) := by decide +kernel
theorem d_Crd_shares_16 : decode b_Crd_shares 16 = .ok (.if_icmp .lt 7, 3) := by decide +kernel
theorem d_Crd_shares_19 : decode b_Crd_shares 19 = .ok (.iconst 1, 1) := by decide +kernel
theorem d_Crd_shares_20 : decode b_Crd_shares 20 = .ok (.goto 4, 3) := by decide +kernel
theorem d_Crd_shares_23 : decode b_Crd_shares 23 = .ok (.iconst 0, 1) := by decide +kernel
theorem d_Crd_shares_24 : decode b_Crd_shares 24 = .ok (.ireturn, 1) := by decide +kernel
theorem d_Crd_sharedStamps_0 : decode b_Crd_sharedStamps 0 = .ok (.iconst 0, 1) := by decide +kernel
theorem d_Crd_sharedStamps_1 : decode b_Crd_sharedStamps 1 = .ok (.istore_n 1, 1) := by decide +kernel
theorem d_Crd_sharedStamps_2 : decode b_Crd_sharedStamps 2 = .ok (.iconst 0, 1) := by decide +kernel
theorem d_Crd_sharedStamps_3 : decode b_Crd_sharedStamps 3 = .ok (.istore_n 2, 1) := by decide +kernel
theorem d_Crd_sharedStamps_4 : decode b_Crd_sharedStamps 4 = .ok (.iload_n 2, 1) := by decide +kernel
theorem d_Crd_sharedStamps_5 : decode b_Crd_sharedStamps 5 = .ok (.aload_n 0, 1) := by decide +kernel
theorem d_Crd_sharedStamps_6 : decode b_Crd_sharedStamps 6 = .ok (.getfield 43, 3) := by decide +kernel
theorem d_Crd_sharedStamps_9 : decode b_Crd_sharedStamps 9 = .ok (.if_icmp .ge 30, 3) := by decide +kernel
theorem d_Crd_sharedStamps_12 : decode b_Crd_sharedStamps 12 = .ok (.iload_n 1, 1) := by decide +kernel
theorem d_Crd_sharedStamps_13 : decode b_Crd_sharedStamps 13 = .ok (.aload_n 0, 1) := by decide +kernel
theorem d_Crd_sharedStamps_14 : decode b_Crd_sharedStamps 14 = .ok (.iload_n 2, 1) := by decide +kernel
theorem d_Crd_sharedStamps_15 : decode b_Crd_sharedStamps 15 = .ok (.invokevirtual 53, 3) := by decide +kernel
theorem d_Crd_sharedStamps_18 : decode b_Crd_sharedStamps 18 = .ok (.ifCond .eq 12, 3) := by decide +kernel
theorem d_Crd_sharedStamps_21 : decode b_Crd_sharedStamps 21 = .ok (.aload_n 0, 1) := by decide +kernel
theorem d_Crd_sharedStamps_22 : decode b_Crd_sharedStamps 22 = .ok (.getfield 9, 3) := by decide +kernel
theorem d_Crd_sharedStamps_25 : decode b_Crd_sharedStamps 25 = .ok (.iload_n 2, 1) := by decide +kernel
theorem d_Crd_sharedStamps_26 : decode b_Crd_sharedStamps 26 = .ok (.iaload, 1) := by decide +kernel
theorem d_Crd_sharedStamps_27 : decode b_Crd_sharedStamps 27 = .ok (.goto 4, 3) := by decide +kernel
theorem d_Crd_sharedStamps_30 : decode b_Crd_sharedStamps 30 = .ok (.iconst 0, 1) := by decide +kernel
theorem d_Crd_sharedStamps_31 : decode b_Crd_sharedStamps 31 = .ok (.iadd, 1) := by decide +kernel
theorem d_Crd_sharedStamps_32 : decode b_Crd_sharedStamps 32 = .ok (.istore_n 1, 1) := by decide +kernel
theorem d_Crd_sharedStamps_33 : decode b_Crd_sharedStamps 33 = .ok (.iinc 2 1, 3) := by decide +kernel
theorem d_Crd_sharedStamps_36 : decode b_Crd_sharedStamps 36 = .ok (.goto (-32), 3) := by decide +kernel
theorem d_Crd_sharedStamps_39 : decode b_Crd_sharedStamps 39 = .ok (.iload_n 1, 1) := by decide +kernel
theorem d_Crd_sharedStamps_40 : decode b_Crd_sharedStamps 40 = .ok (.ireturn, 1) := by decide +kernel
theorem d_Crd_allStamps_0 : decode b_Crd_allStamps 0 = .ok (.iconst 0, 1) := by decide +kernel
theorem d_Crd_allStamps_1 : decode b_Crd_allStamps 1 = .ok (.istore_n 1, 1) := by decide +kernel
theorem d_Crd_allStamps_2 : decode b_Crd_allStamps 2 = .ok (.iconst 0, 1) := by decide +kernel
theorem d_Crd_allStamps_3 : decode b_Crd_allStamps 3 = .ok (.istore_n 2, 1) := by decide +kernel
theorem d_Crd_allStamps_4 : decode b_Crd_allStamps 4 = .ok (.iload_n 2, 1) := by decide +kernel
theorem d_Crd_allStamps_5 : decode b_Crd_allStamps 5 = .ok (.aload_n 0, 1) := by decide +kernel
theorem d_Crd_allStamps_6 : decode b_Crd_allStamps 6 = .ok (.getfield 43, 3) := by decide +kernel
theorem d_Crd_allStamps_9 : decode b_Crd_allStamps 9 = .ok (.if_icmp .ge 18, 3) := by decide +kernel
theorem d_Crd_allStamps_12 : decode b_Crd_allStamps 12 = .ok (.iload_n 1, 1) := by decide +kernel
theorem d_Crd_allStamps_13 : decode b_Crd_allStamps 13 = .ok (.aload_n 0, 1) := by decide +kernel
theorem d_Crd_allStamps_14 : decode b_Crd_allStamps 14 = .ok (.getfield 9, 3) := by decide +kernel
theorem d_Crd_allStamps_17 : decode b_Crd_allStamps 17 = .ok (.iload_n 2, 1) := by decide +kernel
theorem d_Crd_allStamps_18 : decode b_Crd_allStamps 18 = .ok (.iaload, 1) := by decide +kernel
theorem d_Crd_allStamps_19 : decode b_Crd_allStamps 19 = .ok (.iadd, 1) := by decide +kernel
theorem d_Crd_allStamps_20 : decode b_Crd_allStamps 20 = .ok (.istore_n 1, 1) := by decide +kernel
theorem d_Crd_allStamps_21 : decode b_Crd_allStamps 21 = .ok (.iinc 2 1, 3) := by decide +kernel
theorem d_Crd_allStamps_24 : decode b_Crd_allStamps 24 = .ok (.goto (-20), 3) := by decide +kernel
theorem d_Crd_allStamps_27 : decode b_Crd_allStamps 27 = .ok (.iload_n 1, 1) := by decide +kernel
theorem d_Crd_allStamps_28 : decode b_Crd_allStamps 28 = .ok (.ireturn, 1) := by decide +kernel
theorem d_Crd_mislaidCards_0 : decode b_Crd_mislaidCards 0 = .ok (.iconst 0, 1) := by decide +kernel
theorem d_Crd_mislaidCards_1 : decode b_Crd_mislaidCards 1 = .ok (.istore_n 1, 1) := by decide +kernel
theorem d_Crd_mislaidCards_2 : decode b_Crd_mislaidCards 2 = .ok (.iconst 0, 1) := by decide +kernel
theorem d_Crd_mislaidCards_3 : decode b_Crd_mislaidCards 3 = .ok (.istore_n 2, 1) := by decide +kernel
theorem d_Crd_mislaidCards_4 : decode b_Crd_mislaidCards 4 = .ok (.iload_n 2, 1) := by decide +kernel
theorem d_Crd_mislaidCards_5 : decode b_Crd_mislaidCards 5 = .ok (.aload_n 0, 1) := by decide +kernel
theorem d_Crd_mislaidCards_6 : decode b_Crd_mislaidCards 6 = .ok (.getfield 43, 3) := by decide +kernel
theorem d_Crd_mislaidCards_9 : decode b_Crd_mislaidCards 9 = .ok (.if_icmp .ge 27, 3) := by decide +kernel
theorem d_Crd_mislaidCards_12 : decode b_Crd_mislaidCards 12 = .ok (.iload_n 1, 1) := by decide +kernel
theorem d_Crd_mislaidCards_13 : decode b_Crd_mislaidCards 13 = .ok (.aload_n 0, 1) := by decide +kernel
theorem d_Crd_mislaidCards_14 : decode b_Crd_mislaidCards 14 = .ok (.getfield 15, 3) := by decide +kernel
theorem d_Crd_mislaidCards_17 : decode b_Crd_mislaidCards 17 = .ok (.iload_n 2, 1) := by decide +kernel
theorem d_Crd_mislaidCards_18 : decode b_Crd_mislaidCards 18 = .ok (.iaload, 1) := by decide +kernel
theorem d_Crd_mislaidCards_19 : decode b_Crd_mislaidCards 19 = .ok (.iconst 1, 1) := by decide +kernel
theorem d_Crd_mislaidCards_20 : decode b_Crd_mislaidCards 20 = .ok (.if_icmp .ne 7, 3) := by decide +kernel
theorem d_Crd_mislaidCards_23 : decode b_Crd_mislaidCards 23 = .ok (.iconst 1, 1) := by decide +kernel
theorem d_Crd_mislaidCards_24 : decode b_Crd_mislaidCards 24 = .ok (.goto 4, 3) := by decide +kernel
theorem d_Crd_mislaidCards_27 : decode b_Crd_mislaidCards 27 = .ok (.iconst 0, 1) := by decide +kernel
theorem d_Crd_mislaidCards_28 : decode b_Crd_mislaidCards 28 = .ok (.iadd, 1) := by decide +kernel
theorem d_Crd_mislaidCards_29 : decode b_Crd_mislaidCards 29 = .ok (.istore_n 1, 1) := by decide +kernel
theorem d_Crd_mislaidCards_30 : decode b_Crd_mislaidCards 30 = .ok (.iinc 2 1, 3) := by decide +kernel
theorem d_Crd_mislaidCards_33 : decode b_Crd_mislaidCards 33 = .ok (.goto (-29), 3) := by decide +kernel
theorem d_Crd_mislaidCards_36 : decode b_Crd_mislaidCards 36 = .ok (.iload_n 1, 1) := by decide +kernel
theorem d_Crd_mislaidCards_37 : decode b_Crd_mislaidCards 37 = .ok (.ireturn, 1) := by decide +kernel
theorem d_Crd_drawnMembers_0 : decode b_Crd_drawnMembers 0 = .ok (.iconst 0, 1) := by decide +kernel
theorem d_Crd_drawnMembers_1 : decode b_Crd_drawnMembers 1 = .ok (.istore_n 1, 1) := by decide +kernel
theorem d_Crd_drawnMembers_2 : decode b_Crd_drawnMembers 2 = .ok (.iconst 0, 1) := by decide +kernel
theorem d_Crd_drawnMembers_3 : decode b_Crd_drawnMembers 3 = .ok (.istore_n 2, 1) := by decide +kernel
theorem d_Crd_drawnMembers_4 : decode b_Crd_drawnMembers 4 = .ok (.iload_n 2, 1) := by decide +kernel
theorem d_Crd_drawnMembers_5 : decode b_Crd_drawnMembers 5 = .ok (.aload_n 0, 1) := by decide +kernel
theorem d_Crd_drawnMembers_6 : decode b_Crd_drawnMembers 6 = .ok (.getfield 43, 3) := by decide +kernel
theorem d_Crd_drawnMembers_9 : decode b_Crd_drawnMembers 9 = .ok (.if_icmp .ge 18, 3) := by decide +kernel
theorem d_Crd_drawnMembers_12 : decode b_Crd_drawnMembers 12 = .ok (.iload_n 1, 1) := by decide +kernel
theorem d_Crd_drawnMembers_13 : decode b_Crd_drawnMembers 13 = .ok (.aload_n 0, 1) := by decide +kernel
theorem d_Crd_drawnMembers_14 : decode b_Crd_drawnMembers 14 = .ok (.getfield 27, 3) := by decide +kernel
theorem d_Crd_drawnMembers_17 : decode b_Crd_drawnMembers 17 = .ok (.iload_n 2, 1) := by decide +kernel
theorem d_Crd_drawnMembers_18 : decode b_Crd_drawnMembers 18 = .ok (.iaload, 1) := by decide +kernel
theorem d_Crd_drawnMembers_19 : decode b_Crd_drawnMembers 19 = .ok (.iadd, 1) := by decide +kernel
theorem d_Crd_drawnMembers_20 : decode b_Crd_drawnMembers 20 = .ok (.istore_n 1, 1) := by decide +kernel
theorem d_Crd_drawnMembers_21 : decode b_Crd_drawnMembers 21 = .ok (.iinc 2 1, 3) := by decide +kernel
theorem d_Crd_drawnMembers_24 : decode b_Crd_drawnMembers 24 = .ok (.goto (-20), 3) := by decide +kernel
theorem d_Crd_drawnMembers_27 : decode b_Crd_drawnMembers 27 = .ok (.iload_n 1, 1) := by decide +kernel
theorem d_Crd_drawnMembers_28 : decode b_Crd_drawnMembers 28 = .ok (.ireturn, 1) := by decide +kernel
theorem d_Crd_makeGood_0 : decode b_Crd_makeGood 0 = .ok (.aload_n 0, 1) := by decide +kernel
theorem d_Crd_makeGood_1 : decode b_Crd_makeGood 1 = .ok (.getfield 30, 3) := by decide +kernel
theorem d_Crd_makeGood_4 : decode b_Crd_makeGood 4 = .ok (.iload_n 1, 1) := by decide +kernel
theorem d_Crd_makeGood_5 : decode b_Crd_makeGood 5 = .ok (.dup2, 1) := by decide +kernel
theorem d_Crd_makeGood_6 : decode b_Crd_makeGood 6 = .ok (.laload, 1) := by decide +kernel
theorem d_Crd_makeGood_7 : decode b_Crd_makeGood 7 = .ok (.lconst 1, 1) := by decide +kernel
theorem d_Crd_makeGood_8 : decode b_Crd_makeGood 8 = .ok (.iload_n 2, 1) := by decide +kernel
theorem d_Crd_makeGood_9 : decode b_Crd_makeGood 9 = .ok (.lshl, 1) := by decide +kernel
theorem d_Crd_makeGood_10 : decode b_Crd_makeGood 10 = .ok (.lor, 1) := by decide +kernel
theorem d_Crd_makeGood_11 : decode b_Crd_makeGood 11 = .ok (.lastore, 1) := by decide +kernel
theorem d_Crd_makeGood_12 : decode b_Crd_makeGood 12 = .ok (.aload_n 0, 1) := by decide +kernel
theorem d_Crd_makeGood_13 : decode b_Crd_makeGood 13 = .ok (.getfield 34, 3) := by decide +kernel
theorem d_Crd_makeGood_16 : decode b_Crd_makeGood 16 = .ok (.iload_n 1, 1) := by decide +kernel
theorem d_Crd_makeGood_17 : decode b_Crd_makeGood 17 = .ok (.iload_n 2, 1) := by decide +kernel
theorem d_Crd_makeGood_18 : decode b_Crd_makeGood 18 = .ok (.iastore, 1) := by decide +kernel
theorem d_Crd_makeGood_19 : decode b_Crd_makeGood 19 = .ok (.return_, 1) := by decide +kernel
theorem d_Crd_rowOfGoodWeeks_0 : decode b_Crd_rowOfGoodWeeks 0 = .ok (.aload_n 0, 1) := by decide +kernel
theorem d_Crd_rowOfGoodWeeks_1 : decode b_Crd_rowOfGoodWeeks 1 = .ok (.iload_n 1, 1) := by decide +kernel
theorem d_Crd_rowOfGoodWeeks_2 : decode b_Crd_rowOfGoodWeeks 2 = .ok (.iload_n 2, 1) := by decide +kernel
theorem d_Crd_rowOfGoodWeeks_3 : decode b_Crd_rowOfGoodWeeks 3 = .ok (.invokevirtual 57, 3) := by decide +kernel
theorem d_Crd_rowOfGoodWeeks_6 : decode b_Crd_rowOfGoodWeeks 6 = .ok (.ifCond .eq 7, 3) := by decide +kernel
theorem d_Crd_rowOfGoodWeeks_9 : decode b_Crd_rowOfGoodWeeks 9 = .ok (.iload_n 2, 1) := by decide +kernel
theorem d_Crd_rowOfGoodWeeks_10 : decode b_Crd_rowOfGoodWeeks 10 = .ok (.goto 6, 3) := by decide +kernel
theorem d_Crd_rowOfGoodWeeks_13 : decode b_Crd_rowOfGoodWeeks 13 = .ok (.iload_n 2, 1) := by decide +kernel
theorem d_Crd_rowOfGoodWeeks_14 : decode b_Crd_rowOfGoodWeeks 14 = .ok (.iconst 1, 1) := by decide +kernel
theorem d_Crd_rowOfGoodWeeks_15 : decode b_Crd_rowOfGoodWeeks 15 = .ok (.isub, 1) := by decide +kernel
theorem d_Crd_rowOfGoodWeeks_16 : decode b_Crd_rowOfGoodWeeks 16 = .ok (.istore_n 3, 1) := by decide +kernel
theorem d_Crd_rowOfGoodWeeks_17 : decode b_Crd_rowOfGoodWeeks 17 = .ok (.iconst 0, 1) := by decide +kernel
theorem d_Crd_rowOfGoodWeeks_18 : decode b_Crd_rowOfGoodWeeks 18 = .ok (.istore 4, 2) := by decide +kernel
theorem d_Crd_rowOfGoodWeeks_20 : decode b_Crd_rowOfGoodWeeks 20 = .ok (.iload_n 3, 1) := by decide +kernel
theorem d_Crd_rowOfGoodWeeks_21 : decode b_Crd_rowOfGoodWeeks 21 = .ok (.istore 5, 2) := by decide +kernel
theorem d_Crd_rowOfGoodWeeks_23 : decode b_Crd_rowOfGoodWeeks 23 = .ok (.iload 5, 2) := by decide +kernel
theorem d_Crd_rowOfGoodWeeks_25 : decode b_Crd_rowOfGoodWeeks 25 = .ok (.ifCond .lt 22, 3) := by decide +kernel
theorem d_Crd_rowOfGoodWeeks_28 : decode b_Crd_rowOfGoodWeeks 28 = .ok (.aload_n 0, 1) := by decide +kernel
theorem d_Crd_rowOfGoodWeeks_29 : decode b_Crd_rowOfGoodWeeks 29 = .ok (.iload_n 1, 1) := by decide +kernel
theorem d_Crd_rowOfGoodWeeks_30 : decode b_Crd_rowOfGoodWeeks 30 = .ok (.iload 5, 2) := by decide +kernel
theorem d_Crd_rowOfGoodWeeks_32 : decode b_Crd_rowOfGoodWeeks 32 = .ok (.invokevirtual 57, 3) := by decide +kernel
theorem d_Crd_rowOfGoodWeeks_35 : decode b_Crd_rowOfGoodWeeks 35 = .ok (.ifCond .eq 12, 3) := by decide +kernel
theorem d_Crd_rowOfGoodWeeks_38 : decode b_Crd_rowOfGoodWeeks 38 = .ok (.iinc 4 1, 3) := by decide +kernel
theorem d_Crd_rowOfGoodWeeks_41 : decode b_Crd_rowOfGoodWeeks 41 = .ok (.iinc 5 (-1), 3) := by decide +kernel
theorem d_Crd_rowOfGoodWeeks_44 : decode b_Crd_rowOfGoodWeeks 44 = .ok (.goto (-21), 3) := by decide +kernel
theorem d_Crd_rowOfGoodWeeks_47 : decode b_Crd_rowOfGoodWeeks 47 = .ok (.iload 4, 2) := by decide +kernel
theorem d_Crd_rowOfGoodWeeks_49 : decode b_Crd_rowOfGoodWeeks 49 = .ok (.ireturn, 1) := by decide +kernel
theorem d_Crd_hasLapsed_0 : decode b_Crd_hasLapsed 0 = .ok (.aload_n 0, 1) := by decide +kernel
theorem d_Crd_hasLapsed_1 : decode b_Crd_hasLapsed 1 = .ok (.getfield 34, 3) := by decide +kernel
theorem d_Crd_hasLapsed_4 : decode b_Crd_hasLapsed 4 = .ok (.iload_n 1, 1) := by decide +kernel
theorem d_Crd_hasLapsed_5 : decode b_Crd_hasLapsed 5 = .ok (.iaload, 1) := by decide +kernel
theorem d_Crd_hasLapsed_6 : decode b_Crd_hasLapsed 6 = .ok (.bipush (-9), 2) := by decide +kernel
theorem d_Crd_hasLapsed_8 : decode b_Crd_hasLapsed 8 = .ok (.if_icmp .ne 12, 3) := by decide +kernel
theorem d_Crd_hasLapsed_11 : decode b_Crd_hasLapsed 11 = .ok (.aload_n 0, 1) := by decide +kernel
theorem d_Crd_hasLapsed_12 : decode b_Crd_hasLapsed 12 = .ok (.getfield 21, 3) := by decide +kernel
theorem d_Crd_hasLapsed_15 : decode b_Crd_hasLapsed 15 = .ok (.iload_n 1, 1) := by decide +kernel
theorem d_Crd_hasLapsed_16 : decode b_Crd_hasLapsed 16 = .ok (.iaload, 1) := by decide +kernel
theorem d_Crd_hasLapsed_17 : decode b_Crd_hasLapsed 17 = .ok (.goto 9, 3) := by decide +kernel
theorem d_Crd_hasLapsed_20 : decode b_Crd_hasLapsed 20 = .ok (.aload_n 0, 1) := by decide +kernel
theorem d_Crd_hasLapsed_21 : decode b_Crd_hasLapsed 21 = .ok (.getfield 34, 3) := by decide +kernel
theorem d_Crd_hasLapsed_24 : decode b_Crd_hasLapsed 24 = .ok (.iload_n 1, 1) := by decide +kernel
theorem d_Crd_hasLapsed_25 : decode b_Crd_hasLapsed 25 = .ok (.iaload, 1) := by decide +kernel
theorem d_Crd_hasLapsed_26 : decode b_Crd_hasLapsed 26 = .ok (.istore_n 3, 1) := by decide +kernel
theorem d_Crd_hasLapsed_27 : decode b_Crd_hasLapsed 27 = .ok (.iload_n 2, 1) := by decide +kernel
theorem d_Crd_hasLapsed_28 : decode b_Crd_hasLapsed 28 = .ok (.iload_n 3, 1) := by decide +kernel
theorem d_Crd_hasLapsed_29 : decode b_Crd_hasLapsed 29 = .ok (.isub, 1) := by decide +kernel
theorem d_Crd_hasLapsed_30 : decode b_Crd_hasLapsed 30 = .ok (.iconst 4, 1) := by decide +kernel
theorem d_Crd_hasLapsed_31 : decode b_Crd_hasLapsed 31 = .ok (.if_icmp .le 7, 3) := by decide +kernel
theorem d_Crd_hasLapsed_34 : decode b_Crd_hasLapsed 34 = .ok (.iconst 1, 1) := by decide +kernel
theorem d_Crd_hasLapsed_35 : decode b_Crd_hasLapsed 35 = .ok (.goto 4, 3) := by decide +kernel
theorem d_Crd_hasLapsed_38 : decode b_Crd_hasLapsed 38 = .ok (.iconst 0, 1) := by decide +kernel
theorem d_Crd_hasLapsed_39 : decode b_Crd_hasLapsed 39 = .ok (.ireturn, 1) := by decide +kernel
theorem d_Clb_init_0 : decode b_Clb_init 0 = .ok (.aload_n 0, 1) := by decide +kernel
theorem d_Clb_init_1 : decode b_Clb_init 1 = .ok (.invokespecial 3, 3) := by decide +kernel
theorem d_Clb_init_4 : decode b_Clb_init 4 = .ok (.aload_n 0, 1) := by decide +kernel
theorem d_Clb_init_5 : decode b_Clb_init 5 = .ok (.new 9, 3) := by decide +kernel
theorem d_Clb_init_8 : decode b_Clb_init 8 = .ok (.dup, 1) := by decide +kernel
theorem d_Clb_init_9 : decode b_Clb_init 9 = .ok (.invokespecial 11, 3) := by decide +kernel
theorem d_Clb_init_12 : decode b_Clb_init 12 = .ok (.putfield 12, 3) := by decide +kernel
theorem d_Clb_init_15 : decode b_Clb_init 15 = .ok (.aload_n 0, 1) := by decide +kernel
theorem d_Clb_init_16 : decode b_Clb_init 16 = .ok (.new 18, 3) := by decide +kernel
theorem d_Clb_init_19 : decode b_Clb_init 19 = .ok (.dup, 1) := by decide +kernel
theorem d_Clb_init_20 : decode b_Clb_init 20 = .ok (.invokespecial 20, 3) := by decide +kernel
theorem d_Clb_init_23 : decode b_Clb_init 23 = .ok (.putfield 21, 3) := by decide +kernel
theorem d_Clb_init_26 : decode b_Clb_init 26 = .ok (.aload_n 0, 1) := by decide +kernel
theorem d_Clb_init_27 : decode b_Clb_init 27 = .ok (.new 25, 3) := by decide +kernel
theorem d_Clb_init_30 : decode b_Clb_init 30 = .ok (.dup, 1) := by decide +kernel
theorem d_Clb_init_31 : decode b_Clb_init 31 = .ok (.invokespecial 27, 3) := by decide +kernel
theorem d_Clb_init_34 : decode b_Clb_init 34 = .ok (.putfield 28, 3) := by decide +kernel
theorem d_Clb_init_37 : decode b_Clb_init 37 = .ok (.return_, 1) := by decide +kernel
theorem d_Clb_copyFrom_0 : decode b_Clb_copyFrom 0 = .ok (.aload_n 0, 1) := by decide +kernel
theorem d_Clb_copyFrom_1 : decode b_Clb_copyFrom 1 = .ok (.aload_n 1, 1) := by decide +kernel
theorem d_Clb_copyFrom_2 : decode b_Clb_copyFrom 2 = .ok (.getfield 32, 3) := by decide +kernel
theorem d_Clb_copyFrom_5 : decode b_Clb_copyFrom 5 = .ok (.putfield 32, 3) := by decide +kernel
theorem d_Clb_copyFrom_8 : decode b_Clb_copyFrom 8 = .ok (.aload_n 0, 1) := by decide +kernel
theorem d_Clb_copyFrom_9 : decode b_Clb_copyFrom 9 = .ok (.aload_n 1, 1) := by decide +kernel
theorem d_Clb_copyFrom_10 : decode b_Clb_copyFrom 10 = .ok (.getfield 36, 3) := by decide +kernel
theorem d_Clb_copyFrom_13 : decode b_Clb_copyFrom 13 = .ok (.putfield 36, 3) := by decide +kernel
theorem d_Clb_copyFrom_16 : decode b_Clb_copyFrom 16 = .ok (.aload_n 0, 1) := by decide +kernel
theorem d_Clb_copyFrom_17 : decode b_Clb_copyFrom 17 = .ok (.aload_n 1, 1) := by decide +kernel
theorem d_Clb_copyFrom_18 : decode b_Clb_copyFrom 18 = .ok (.getfield 40, 3) := by decide +kernel
theorem d_Clb_copyFrom_21 : decode b_Clb_copyFrom 21 = .ok (.putfield 40, 3) := by decide +kernel
theorem d_Clb_copyFrom_24 : decode b_Clb_copyFrom 24 = .ok (.aload_n 0, 1) := by decide +kernel
theorem d_Clb_copyFrom_25 : decode b_Clb_copyFrom 25 = .ok (.aload_n 1, 1) := by decide +kernel
theorem d_Clb_copyFrom_26 : decode b_Clb_copyFrom 26 = .ok (.getfield 43, 3) := by decide +kernel
theorem d_Clb_copyFrom_29 : decode b_Clb_copyFrom 29 = .ok (.putfield 43, 3) := by decide +kernel
theorem d_Clb_copyFrom_32 : decode b_Clb_copyFrom 32 = .ok (.aload_n 0, 1) := by decide +kernel
theorem d_Clb_copyFrom_33 : decode b_Clb_copyFrom 33 = .ok (.getfield 12, 3) := by decide +kernel
theorem d_Clb_copyFrom_36 : decode b_Clb_copyFrom 36 = .ok (.aload_n 1, 1) := by decide +kernel
theorem d_Clb_copyFrom_37 : decode b_Clb_copyFrom 37 = .ok (.getfield 12, 3) := by decide +kernel
theorem d_Clb_copyFrom_40 : decode b_Clb_copyFrom 40 = .ok (.invokevirtual 46, 3) := by decide +kernel
theorem d_Clb_copyFrom_43 : decode b_Clb_copyFrom 43 = .ok (.aload_n 0, 1) := by decide +kernel
theorem d_Clb_copyFrom_44 : decode b_Clb_copyFrom 44 = .ok (.getfield 21, 3) := by decide +kernel
theorem d_Clb_copyFrom_47 : decode b_Clb_copyFrom 47 = .ok (.aload_n 1, 1) := by decide +kernel
theorem d_Clb_copyFrom_48 : decode b_Clb_copyFrom 48 = .ok (.getfield 21, 3) := by decide +kernel
theorem d_Clb_copyFrom_51 : decode b_Clb_copyFrom 51 = .ok (.invokevirtual 50, 3) := by decide +kernel
theorem d_Clb_copyFrom_54 : decode b_Clb_copyFrom 54 = .ok (.aload_n 0, 1) := by decide +kernel
theorem d_Clb_copyFrom_55 : decode b_Clb_copyFrom 55 = .ok (.getfield 28, 3) := by decide +kernel
theorem d_Clb_copyFrom_58 : decode b_Clb_copyFrom 58 = .ok (.aload_n 1, 1) := by decide +kernel
theorem d_Clb_copyFrom_59 : decode b_Clb_copyFrom 59 = .ok (.getfield 28, 3) := by decide +kernel
theorem d_Clb_copyFrom_62 : decode b_Clb_copyFrom 62 = .ok (.invokevirtual 53, 3) := by decide +kernel
theorem d_Clb_copyFrom_65 : decode b_Clb_copyFrom 65 = .ok (.return_, 1) := by decide +kernel
theorem d_Clb_addMember_0 : decode b_Clb_addMember 0 = .ok (.aload_n 0, 1) := by decide +kernel
theorem d_Clb_addMember_1 : decode b_Clb_addMember 1 = .ok (.getfield 36, 3) := by decide +kernel
theorem d_Clb_addMember_4 : decode b_Clb_addMember 4 = .ok (.ifCond .eq 6, 3) := by decide +kernel
theorem d_Clb_addMember_7 : decode b_Clb_addMember 7 = .ok (.bipush (-2), 2) := by decide +kernel
theorem d_Clb_addMember_9 : decode b_Clb_addMember 9 = .ok (.ireturn, 1) := by decide +kernel
theorem d_Clb_addMember_10 : decode b_Clb_addMember 10 = .ok (.aload_n 0, 1) := by decide +kernel
theorem d_Clb_addMember_11 : decode b_Clb_addMember 11 = .ok (.getfield 12, 3) := by decide +kernel
theorem d_Clb_addMember_14 : decode b_Clb_addMember 14 = .ok (.getfield 56, 3) := by decide +kernel
theorem d_Clb_addMember_17 : decode b_Clb_addMember 17 = .ok (.bipush 12, 2) := by decide +kernel
theorem d_Clb_addMember_19 : decode b_Clb_addMember 19 = .ok (.if_icmp .lt 6, 3) := by decide +kernel
theorem d_Clb_addMember_22 : decode b_Clb_addMember 22 = .ok (.bipush (-3), 2) := by decide +kernel
theorem d_Clb_addMember_24 : decode b_Clb_addMember 24 = .ok (.ireturn, 1) := by decide +kernel
theorem d_Clb_addMember_25 : decode b_Clb_addMember 25 = .ok (.aload_n 0, 1) := by decide +kernel
theorem d_Clb_addMember_26 : decode b_Clb_addMember 26 = .ok (.getfield 12, 3) := by decide +kernel
theorem d_Clb_addMember_29 : decode b_Clb_addMember 29 = .ok (.getfield 56, 3) := by decide +kernel
theorem d_Clb_addMember_32 : decode b_Clb_addMember 32 = .ok (.istore_n 1, 1) := by decide +kernel
theorem d_Clb_addMember_33 : decode b_Clb_addMember 33 = .ok (.aload_n 0, 1) := by decide +kernel
theorem d_Clb_addMember_34 : decode b_Clb_addMember 34 = .ok (.getfield 12, 3) := by decide +kernel
theorem d_Clb_addMember_37 : decode b_Clb_addMember 37 = .ok (.getfield 59, 3) := by decide +kernel
theorem d_Clb_addMember_40 : decode b_Clb_addMember 40 = .ok (.iload_n 1, 1) := by decide +kernel
theorem d_Clb_addMember_41 : decode b_Clb_addMember 41 = .ok (.aload_n 0, 1) := by decide +kernel
theorem d_Clb_addMember_42 : decode b_Clb_addMember 42 = .ok (.getfield 32, 3) := by decide +kernel
theorem d_Clb_addMember_45 : decode b_Clb_addMember 45 = .ok (.iastore, 1) := by decide +kernel
theorem d_Clb_addMember_46 : decode b_Clb_addMember 46 = .ok (.aload_n 0, 1) := by decide +kernel
theorem d_Clb_addMember_47 : decode b_Clb_addMember 47 = .ok (.getfield 12, 3) := by decide +kernel
theorem d_Clb_addMember_50 : decode b_Clb_addMember 50 = .ok (.dup, 1) := by decide +kernel
theorem d_Clb_addMember_51 : decode b_Clb_addMember 51 = .ok (.getfield 56, 3) := by decide +kernel
theorem d_Clb_addMember_54 : decode b_Clb_addMember 54 = .ok (.iconst 1, 1) := by decide +kernel
theorem d_Clb_addMember_55 : decode b_Clb_addMember 55 = .ok (.iadd, 1) := by decide +kernel
theorem d_Clb_addMember_56 : decode b_Clb_addMember 56 = .ok (.putfield 56, 3) := by decide +kernel
theorem d_Clb_addMember_59 : decode b_Clb_addMember 59 = .ok (.iload_n 1, 1) := by decide +kernel
theorem d_Clb_addMember_60 : decode b_Clb_addMember 60 = .ok (.ireturn, 1) := by decide +kernel
theorem d_Clb_stickStamps_0 : decode b_Clb_stickStamps 0 = .ok (.aload_n 0, 1) := by decide +kernel
theorem d_Clb_stickStamps_1 : decode b_Clb_stickStamps 1 = .ok (.getfield 12, 3) := by decide +kernel
theorem d_Clb_stickStamps_4 : decode b_Clb_stickStamps 4 = .ok (.iload_n 1, 1) := by decide +kernel
theorem d_Clb_stickStamps_5 : decode b_Clb_stickStamps 5 = .ok (.invokevirtual 63, 3) := by decide +kernel
theorem d_Clb_stickStamps_8 : decode b_Clb_stickStamps 8 = .ok (.ifCond .eq 13, 3) := by decide +kernel
theorem d_Clb_stickStamps_11 : decode b_Clb_stickStamps 11 = .ok (.iload_n 2, 1) := by decide +kernel
theorem d_Clb_stickStamps_12 : decode b_Clb_stickStamps 12 = .ok (.iconst 1, 1) := by decide +kernel
theorem d_Clb_stickStamps_13 : decode b_Clb_stickStamps 13 = .ok (.if_icmp .lt 8, 3) := by decide +kernel
theorem d_Clb_stickStamps_16 : decode b_Clb_stickStamps 16 = .ok (.iload_n 2, 1) := by decide +kernel
theorem d_Clb_stickStamps_17 : decode b_Clb_stickStamps 17 = .ok (.iconst 5, 1) := by decide +kernel
theorem d_Clb_stickStamps_18 : decode b_Clb_stickStamps 18 = .ok (.if_icmp .le 5, 3) := by decide +kernel
theorem d_Clb_stickStamps_21 : decode b_Clb_stickStamps 21 = .ok (.iconst (-1), 1) := by decide +kernel
theorem d_Clb_stickStamps_22 : decode b_Clb_stickStamps 22 = .ok (.ireturn, 1) := by decide +kernel
theorem d_Clb_stickStamps_23 : decode b_Clb_stickStamps 23 = .ok (.aload_n 0, 1) := by decide +kernel
theorem d_Clb_stickStamps_24 : decode b_Clb_stickStamps 24 = .ok (.getfield 12, 3) := by decide +kernel
theorem d_Clb_stickStamps_27 : decode b_Clb_stickStamps 27 = .ok (.iload_n 1, 1) := by decide +kernel
theorem d_Clb_stickStamps_28 : decode b_Clb_stickStamps 28 = .ok (.invokevirtual 67, 3) := by decide +kernel
theorem d_Clb_stickStamps_31 : decode b_Clb_stickStamps 31 = .ok (.ifCond .eq 18, 3) := by decide +kernel
theorem d_Clb_stickStamps_34 : decode b_Clb_stickStamps 34 = .ok (.aload_n 0, 1) := by decide +kernel
theorem d_Clb_stickStamps_35 : decode b_Clb_stickStamps 35 = .ok (.getfield 12, 3) := by decide +kernel
theorem d_Clb_stickStamps_38 : decode b_Clb_stickStamps 38 = .ok (.iload_n 1, 1) := by decide +kernel
theorem d_Clb_stickStamps_39 : decode b_Clb_stickStamps 39 = .ok (.aload_n 0, 1) := by decide +kernel
theorem d_Clb_stickStamps_40 : decode b_Clb_stickStamps 40 = .ok (.getfield 32, 3) := by decide +kernel
theorem d_Clb_stickStamps_43 : decode b_Clb_stickStamps 43 = .ok (.invokevirtual 70, 3) := by decide +kernel
theorem d_Clb_stickStamps_46 : decode b_Clb_stickStamps 46 = .ok (.ifCond .eq 6, 3) := by decide +kernel
theorem d_Clb_stickStamps_49 : decode b_Clb_stickStamps 49 = .ok (.bipush (-2), 2) := by decide +kernel
theorem d_Clb_stickStamps_51 : decode b_Clb_stickStamps 51 = .ok (.ireturn, 1) := by decide +kernel
theorem d_Clb_stickStamps_52 : decode b_Clb_stickStamps 52 = .ok (.aload_n 0, 1) := by decide +kernel
theorem d_Clb_stickStamps_53 : decode b_Clb_stickStamps 53 = .ok (.getfield 12, 3) := by decide +kernel
theorem d_Clb_stickStamps_56 : decode b_Clb_stickStamps 56 = .ok (.iload_n 1, 1) := by decide +kernel
theorem d_Clb_stickStamps_57 : decode b_Clb_stickStamps 57 = .ok (.aload_n 0, 1) := by decide +kernel
theorem d_Clb_stickStamps_58 : decode b_Clb_stickStamps 58 = .ok (.getfield 32, 3) := by decide +kernel
theorem d_Clb_stickStamps_61 : decode b_Clb_stickStamps 61 = .ok (.invokevirtual 74, 3) := by decide +kernel
theorem d_Clb_stickStamps_64 : decode b_Clb_stickStamps 64 = .ok (.aload_n 0, 1) := by decide +kernel
theorem d_Clb_stickStamps_65 : decode b_Clb_stickStamps 65 = .ok (.getfield 12, 3) := by decide +kernel
theorem d_Clb_stickStamps_68 : decode b_Clb_stickStamps 68 = .ok (.getfield 78, 3) := by decide +kernel
theorem d_Clb_stickStamps_71 : decode b_Clb_stickStamps 71 = .ok (.iload_n 1, 1) := by decide +kernel
theorem d_Clb_stickStamps_72 : decode b_Clb_stickStamps 72 = .ok (.dup2, 1) := by decide +kernel
theorem d_Clb_stickStamps_73 : decode b_Clb_stickStamps 73 = .ok (.iaload, 1) := by decide +kernel
theorem d_Clb_stickStamps_74 : decode b_Clb_stickStamps 74 = .ok (.iload_n 2, 1) := by decide +kernel
theorem d_Clb_stickStamps_75 : decode b_Clb_stickStamps 75 = .ok (.iadd, 1) := by decide +kernel
theorem d_Clb_stickStamps_76 : decode b_Clb_stickStamps 76 = .ok (.iastore, 1) := by decide +kernel
theorem d_Clb_stickStamps_77 : decode b_Clb_stickStamps 77 = .ok (.aload_n 0, 1) := by decide +kernel
theorem d_Clb_stickStamps_78 : decode b_Clb_stickStamps 78 = .ok (.getfield 28, 3) := by decide +kernel
theorem d_Clb_stickStamps_81 : decode b_Clb_stickStamps 81 = .ok (.iload_n 2, 1) := by decide +kernel
theorem d_Clb_stickStamps_82 : decode b_Clb_stickStamps 82 = .ok (.bipush 10, 2) := by decide +kernel
theorem d_Clb_stickStamps_84 : decode b_Clb_stickStamps 84 = .ok (.imul, 1) := by decide +kernel
theorem d_Clb_stickStamps_85 : decode b_Clb_stickStamps 85 = .ok (.invokevirtual 81, 3) := by decide +kernel
theorem d_Clb_stickStamps_88 : decode b_Clb_stickStamps 88 = .ok (.aload_n 0, 1) := by decide +kernel
theorem d_Clb_stickStamps_89 : decode b_Clb_stickStamps 89 = .ok (.getfield 12, 3) := by decide +kernel
theorem d_Clb_stickStamps_92 : decode b_Clb_stickStamps 92 = .ok (.getfield 78, 3) := by decide +kernel
theorem d_Clb_stickStamps_95 : decode b_Clb_stickStamps 95 = .ok (.iload_n 1, 1) := by decide +kernel
theorem d_Clb_stickStamps_96 : decode b_Clb_stickStamps 96 = .ok (.iaload, 1) := by decide +kernel
theorem d_Clb_stickStamps_97 : decode b_Clb_stickStamps 97 = .ok (.ireturn, 1) := by decide +kernel
theorem d_Clb_withdrawStamps_0 : decode b_Clb_withdrawStamps 0 = .ok (.aload_n 0, 1) := by decide +kernel
theorem d_Clb_withdrawStamps_1 : decode b_Clb_withdrawStamps 1 = .ok (.getfield 12, 3) := by decide +kernel
theorem d_Clb_withdrawStamps_4 : decode b_Clb_withdrawStamps 4 = .ok (.iload_n 1, 1) := by decide +kernel
theorem d_Clb_withdrawStamps_5 : decode b_Clb_withdrawStamps 5 = .ok (.invokevirtual 63, 3) := by decide +kernel
theorem d_Clb_withdrawStamps_8 : decode b_Clb_withdrawStamps 8 = .ok (.ifCond .eq 15, 3) := by decide +kernel
theorem d_Clb_withdrawStamps_11 : decode b_Clb_withdrawStamps 11 = .ok (.iload_n 2, 1) := by decide +kernel
theorem d_Clb_withdrawStamps_12 : decode b_Clb_withdrawStamps 12 = .ok (.iconst 1, 1) := by decide +kernel
theorem d_Clb_withdrawStamps_13 : decode b_Clb_withdrawStamps 13 = .ok (.if_icmp .lt 10, 3) := by decide +kernel
theorem d_Clb_withdrawStamps_16 : decode b_Clb_withdrawStamps 16 = .ok (.iload_n 2, 1) := by decide +kernel
theorem d_Clb_withdrawStamps_17 : decode b_Clb_withdrawStamps 17 = .ok (.sipush 999, 3) := by decide +kernel
theorem d_Clb_withdrawStamps_20 : decode b_Clb_withdrawStamps 20 = .ok (.if_icmp .le 5, 3) := by decide +kernel
theorem d_Clb_withdrawStamps_23 : decode b_Clb_withdrawStamps 23 = .ok (.iconst (-1), 1) := by decide +kernel
theorem d_Clb_withdrawStamps_24 : decode b_Clb_withdrawStamps 24 = .ok (.ireturn, 1) := by decide +kernel
theorem d_Clb_withdrawStamps_25 : decode b_Clb_withdrawStamps 25 = .ok (.aload_n 0, 1) := by decide +kernel
theorem d_Clb_withdrawStamps_26 : decode b_Clb_withdrawStamps 26 = .ok (.getfield 12, 3) := by decide +kernel
theorem d_Clb_withdrawStamps_29 : decode b_Clb_withdrawStamps 29 = .ok (.iload_n 1, 1) := by decide +kernel
theorem d_Clb_withdrawStamps_30 : decode b_Clb_withdrawStamps 30 = .ok (.invokevirtual 67, 3) := by decide +kernel
theorem d_Clb_withdrawStamps_33 : decode b_Clb_withdrawStamps 33 = .ok (.ifCond .eq 16, 3) := by decide +kernel
theorem d_Clb_withdrawStamps_36 : decode b_Clb_withdrawStamps 36 = .ok (.aload_n 0, 1) := by decide +kernel
theorem d_Clb_withdrawStamps_37 : decode b_Clb_withdrawStamps 37 = .ok (.getfield 12, 3) := by decide +kernel
theorem d_Clb_withdrawStamps_40 : decode b_Clb_withdrawStamps 40 = .ok (.getfield 78, 3) := by decide +kernel
theorem d_Clb_withdrawStamps_43 : decode b_Clb_withdrawStamps 43 = .ok (.iload_n 1, 1) := by decide +kernel
theorem d_Clb_withdrawStamps_44 : decode b_Clb_withdrawStamps 44 = .ok (.iaload, 1) := by decide +kernel
theorem d_Clb_withdrawStamps_45 : decode b_Clb_withdrawStamps 45 = .ok (.iload_n 2, 1) := by decide +kernel
theorem d_Clb_withdrawStamps_46 : decode b_Clb_withdrawStamps 46 = .ok (.if_icmp .ge 6, 3) := by decide +kernel
theorem d_Clb_withdrawStamps_49 : decode b_Clb_withdrawStamps 49 = .ok (.bipush (-2), 2) := by decide +kernel
theorem d_Clb_withdrawStamps_51 : decode b_Clb_withdrawStamps 51 = .ok (.ireturn, 1) := by decide +kernel
theorem d_Clb_withdrawStamps_52 : decode b_Clb_withdrawStamps 52 = .ok (.iload_n 2, 1) := by decide +kernel
theorem d_Clb_withdrawStamps_53 : decode b_Clb_withdrawStamps 53 = .ok (.bipush 10, 2) := by decide +kernel
theorem d_Clb_withdrawStamps_55 : decode b_Clb_withdrawStamps 55 = .ok (.imul, 1) := by decide +kernel
theorem d_Clb_withdrawStamps_56 : decode b_Clb_withdrawStamps 56 = .ok (.istore_n 3, 1) := by decide +kernel
theorem d_Clb_withdrawStamps_57 : decode b_Clb_withdrawStamps 57 = .ok (.iload_n 2, 1) := by decide +kernel
theorem d_Clb_withdrawStamps_58 : decode b_Clb_withdrawStamps 58 = .ok (.iconst 5, 1) := by decide +kernel
theorem d_Clb_withdrawStamps_59 : decode b_Clb_withdrawStamps 59 = .ok (.iadd, 1) := by decide +kernel
theorem d_Clb_withdrawStamps_60 : decode b_Clb_withdrawStamps 60 = .ok (.iload_n 3, 1) := by decide +kernel
theorem d_Clb_withdrawStamps_61 : decode b_Clb_withdrawStamps 61 = .ok (.invokestatic 85, 3) := by decide +kernel
theorem d_Clb_withdrawStamps_64 : decode b_Clb_withdrawStamps 64 = .ok (.istore 4, 2) := by decide +kernel
theorem d_Clb_withdrawStamps_66 : decode b_Clb_withdrawStamps 66 = .ok (.aload_n 0, 1) := by decide +kernel
theorem d_Clb_withdrawStamps_67 : decode b_Clb_withdrawStamps 67 = .ok (.getfield 12, 3) := by decide +kernel
theorem d_Clb_withdrawStamps_70 : decode b_Clb_withdrawStamps 70 = .ok (.getfield 78, 3) := by decide +kernel
theorem d_Clb_withdrawStamps_73 : decode b_Clb_withdrawStamps 73 = .ok (.iload_n 1, 1) := by decide +kernel
theorem d_Clb_withdrawStamps_74 : decode b_Clb_withdrawStamps 74 = .ok (.dup2, 1) := by decide +kernel
theorem d_Clb_withdrawStamps_75 : decode b_Clb_withdrawStamps 75 = .ok (.iaload, 1) := by decide +kernel
theorem d_Clb_withdrawStamps_76 : decode b_Clb_withdrawStamps 76 = .ok (.iload_n 2, 1) := by decide +kernel
theorem d_Clb_withdrawStamps_77 : decode b_Clb_withdrawStamps 77 = .ok (.isub, 1) := by decide +kernel
theorem d_Clb_withdrawStamps_78 : decode b_Clb_withdrawStamps 78 = .ok (.iastore, 1) := by decide +kernel
theorem d_Clb_withdrawStamps_79 : decode b_Clb_withdrawStamps 79 = .ok (.aload_n 0, 1) := by decide +kernel
theorem d_Clb_withdrawStamps_80 : decode b_Clb_withdrawStamps 80 = .ok (.getfield 12, 3) := by decide +kernel
theorem d_Clb_withdrawStamps_83 : decode b_Clb_withdrawStamps 83 = .ok (.getfield 91, 3) := by decide +kernel
theorem d_Clb_withdrawStamps_86 : decode b_Clb_withdrawStamps 86 = .ok (.iload_n 1, 1) := by decide +kernel
theorem d_Clb_withdrawStamps_87 : decode b_Clb_withdrawStamps 87 = .ok (.iconst 1, 1) := by decide +kernel
theorem d_Clb_withdrawStamps_88 : decode b_Clb_withdrawStamps 88 = .ok (.iastore, 1) := by decide +kernel
theorem d_Clb_withdrawStamps_89 : decode b_Clb_withdrawStamps 89 = .ok (.aload_n 0, 1) := by decide +kernel
theorem d_Clb_withdrawStamps_90 : decode b_Clb_withdrawStamps 90 = .ok (.getfield 28, 3) := by decide +kernel
theorem d_Clb_withdrawStamps_93 : decode b_Clb_withdrawStamps 93 = .ok (.dup, 1) := by decide +kernel
theorem d_Clb_withdrawStamps_94 : decode b_Clb_withdrawStamps 94 = .ok (.getfield 94, 3) := by decide +kernel
theorem d_Clb_withdrawStamps_97 : decode b_Clb_withdrawStamps 97 = .ok (.iload 4, 2) := by decide +kernel
theorem d_Clb_withdrawStamps_99 : decode b_Clb_withdrawStamps 99 = .ok (.iadd, 1) := by decide +kernel
theorem d_Clb_withdrawStamps_100 : decode b_Clb_withdrawStamps 100 = .ok (.putfield 94, 3) := by decide +kernel
theorem d_Clb_withdrawStamps_103 : decode b_Clb_withdrawStamps 103 = .ok (.aload_n 0, 1) := by decide +kernel
theorem d_Clb_withdrawStamps_104 : decode b_Clb_withdrawStamps 104 = .ok (.iload_n 1, 1) := by decide +kernel
theorem d_Clb_withdrawStamps_105 : decode b_Clb_withdrawStamps 105 = .ok (.iload_n 3, 1) := by decide +kernel
theorem d_Clb_withdrawStamps_106 : decode b_Clb_withdrawStamps 106 = .ok (.iload 4, 2) := by decide +kernel
theorem d_Clb_withdrawStamps_108 : decode b_Clb_withdrawStamps 108 = .ok (.isub, 1) := by decide +kernel
theorem d_Clb_withdrawStamps_109 : decode b_Clb_withdrawStamps 109 = .ok (.invokevirtual 97, 3) := by decide +kernel
theorem d_Clb_withdrawStamps_112 : decode b_Clb_withdrawStamps 112 = .ok (.iload_n 3, 1) := by decide +kernel
theorem d_Clb_withdrawStamps_113 : decode b_Clb_withdrawStamps 113 = .ok (.iload 4, 2) := by decide +kernel
theorem d_Clb_withdrawStamps_115 : decode b_Clb_withdrawStamps 115 = .ok (.isub, 1) := by decide +kernel
theorem d_Clb_withdrawStamps_116 : decode b_Clb_withdrawStamps 116 = .ok (.ireturn, 1) := by decide +kernel
theorem d_Clb_mislayCard_0 : decode b_Clb_mislayCard 0 = .ok (.aload_n 0, 1) := by decide +kernel
theorem d_Clb_mislayCard_1 : decode b_Clb_mislayCard 1 = .ok (.getfield 12, 3) := by decide +kernel
theorem d_Clb_mislayCard_4 : decode b_Clb_mislayCard 4 = .ok (.iload_n 1, 1) := by decide +kernel
theorem d_Clb_mislayCard_5 : decode b_Clb_mislayCard 5 = .ok (.invokevirtual 63, 3) := by decide +kernel
theorem d_Clb_mislayCard_8 : decode b_Clb_mislayCard 8 = .ok (.ifCond .ne 5, 3) := by decide +kernel
theorem d_Clb_mislayCard_11 : decode b_Clb_mislayCard 11 = .ok (.iconst (-1), 1) := by decide +kernel
theorem d_Clb_mislayCard_12 : decode b_Clb_mislayCard 12 = .ok (.ireturn, 1) := by decide +kernel
theorem d_Clb_mislayCard_13 : decode b_Clb_mislayCard 13 = .ok (.aload_n 0, 1) := by decide +kernel
theorem d_Clb_mislayCard_14 : decode b_Clb_mislayCard 14 = .ok (.getfield 12, 3) := by decide +kernel
theorem d_Clb_mislayCard_17 : decode b_Clb_mislayCard 17 = .ok (.iload_n 1, 1) := by decide +kernel
theorem d_Clb_mislayCard_18 : decode b_Clb_mislayCard 18 = .ok (.invokevirtual 67, 3) := by decide +kernel
theorem d_Clb_mislayCard_21 : decode b_Clb_mislayCard 21 = .ok (.ifCond .ne 6, 3) := by decide +kernel
theorem d_Clb_mislayCard_24 : decode b_Clb_mislayCard 24 = .ok (.bipush (-2), 2) := by decide +kernel
theorem d_Clb_mislayCard_26 : decode b_Clb_mislayCard 26 = .ok (.ireturn, 1) := by decide +kernel
theorem d_Clb_mislayCard_27 : decode b_Clb_mislayCard 27 = .ok (.aload_n 0, 1) := by decide +kernel
theorem d_Clb_mislayCard_28 : decode b_Clb_mislayCard 28 = .ok (.getfield 12, 3) := by decide +kernel
theorem d_Clb_mislayCard_31 : decode b_Clb_mislayCard 31 = .ok (.getfield 100, 3) := by decide +kernel
theorem d_Clb_mislayCard_34 : decode b_Clb_mislayCard 34 = .ok (.iload_n 1, 1) := by decide +kernel
theorem d_Clb_mislayCard_35 : decode b_Clb_mislayCard 35 = .ok (.iconst 1, 1) := by decide +kernel
theorem d_Clb_mislayCard_36 : decode b_Clb_mislayCard 36 = .ok (.iastore, 1) := by decide +kernel
theorem d_Clb_mislayCard_37 : decode b_Clb_mislayCard 37 = .ok (.aload_n 0, 1) := by decide +kernel
theorem d_Clb_mislayCard_38 : decode b_Clb_mislayCard 38 = .ok (.getfield 12, 3) := by decide +kernel
theorem d_Clb_mislayCard_41 : decode b_Clb_mislayCard 41 = .ok (.getfield 103, 3) := by decide +kernel
theorem d_Clb_mislayCard_44 : decode b_Clb_mislayCard 44 = .ok (.iload_n 1, 1) := by decide +kernel
theorem d_Clb_mislayCard_45 : decode b_Clb_mislayCard 45 = .ok (.aload_n 0, 1) := by decide +kernel
theorem d_Clb_mislayCard_46 : decode b_Clb_mislayCard 46 = .ok (.getfield 32, 3) := by decide +kernel
theorem d_Clb_mislayCard_49 : decode b_Clb_mislayCard 49 = .ok (.iastore, 1) := by decide +kernel
theorem d_Clb_mislayCard_50 : decode b_Clb_mislayCard 50 = .ok (.aload_n 0, 1) := by decide +kernel
theorem d_Clb_mislayCard_51 : decode b_Clb_mislayCard 51 = .ok (.getfield 32, 3) := by decide +kernel
theorem d_Clb_mislayCard_54 : decode b_Clb_mislayCard 54 = .ok (.iconst 3, 1) := by decide +kernel
theorem d_Clb_mislayCard_55 : decode b_Clb_mislayCard 55 = .ok (.iadd, 1) := by decide +kernel
theorem d_Clb_mislayCard_56 : decode b_Clb_mislayCard 56 = .ok (.ireturn, 1) := by decide +kernel
theorem d_Clb_findCard_0 : decode b_Clb_findCard 0 = .ok (.aload_n 0, 1) := by decide +kernel
theorem d_Clb_findCard_1 : decode b_Clb_findCard 1 = .ok (.getfield 12, 3) := by decide +kernel
theorem d_Clb_findCard_4 : decode b_Clb_findCard 4 = .ok (.iload_n 1, 1) := by decide +kernel
theorem d_Clb_findCard_5 : decode b_Clb_findCard 5 = .ok (.invokevirtual 63, 3) := by decide +kernel
theorem d_Clb_findCard_8 : decode b_Clb_findCard 8 = .ok (.ifCond .ne 5, 3) := by decide +kernel
theorem d_Clb_findCard_11 : decode b_Clb_findCard 11 = .ok (.iconst (-1), 1) := by decide +kernel
theorem d_Clb_findCard_12 : decode b_Clb_findCard 12 = .ok (.ireturn, 1) := by decide +kernel
theorem d_Clb_findCard_13 : decode b_Clb_findCard 13 = .ok (.aload_n 0, 1) := by decide +kernel
theorem d_Clb_findCard_14 : decode b_Clb_findCard 14 = .ok (.getfield 12, 3) := by decide +kernel
theorem d_Clb_findCard_17 : decode b_Clb_findCard 17 = .ok (.getfield 100, 3) := by decide +kernel
theorem d_Clb_findCard_20 : decode b_Clb_findCard 20 = .ok (.iload_n 1, 1) := by decide +kernel
theorem d_Clb_findCard_21 : decode b_Clb_findCard 21 = .ok (.iaload, 1) := by decide +kernel
theorem d_Clb_findCard_22 : decode b_Clb_findCard 22 = .ok (.iconst 1, 1) := by decide +kernel
theorem d_Clb_findCard_23 : decode b_Clb_findCard 23 = .ok (.if_icmp .eq 6, 3) := by decide +kernel
theorem d_Clb_findCard_26 : decode b_Clb_findCard 26 = .ok (.bipush (-2), 2) := by decide +kernel
theorem d_Clb_findCard_28 : decode b_Clb_findCard 28 = .ok (.ireturn, 1) := by decide +kernel
theorem d_Clb_findCard_29 : decode b_Clb_findCard 29 = .ok (.aload_n 0, 1) := by decide +kernel
theorem d_Clb_findCard_30 : decode b_Clb_findCard 30 = .ok (.getfield 12, 3) := by decide +kernel
theorem d_Clb_findCard_33 : decode b_Clb_findCard 33 = .ok (.getfield 100, 3) := by decide +kernel
theorem d_Clb_findCard_36 : decode b_Clb_findCard 36 = .ok (.iload_n 1, 1) := by decide +kernel
theorem d_Clb_findCard_37 : decode b_Clb_findCard 37 = .ok (.iconst 0, 1) := by decide +kernel
theorem d_Clb_findCard_38 : decode b_Clb_findCard 38 = .ok (.iastore, 1) := by decide +kernel
theorem d_Clb_findCard_39 : decode b_Clb_findCard 39 = .ok (.aload_n 0, 1) := by decide +kernel
theorem d_Clb_findCard_40 : decode b_Clb_findCard 40 = .ok (.getfield 32, 3) := by decide +kernel
theorem d_Clb_findCard_43 : decode b_Clb_findCard 43 = .ok (.aload_n 0, 1) := by decide +kernel
theorem d_Clb_findCard_44 : decode b_Clb_findCard 44 = .ok (.getfield 12, 3) := by decide +kernel
theorem d_Clb_findCard_47 : decode b_Clb_findCard 47 = .ok (.getfield 103, 3) := by decide +kernel
theorem d_Clb_findCard_50 : decode b_Clb_findCard 50 = .ok (.iload_n 1, 1) := by decide +kernel
theorem d_Clb_findCard_51 : decode b_Clb_findCard 51 = .ok (.iaload, 1) := by decide +kernel
theorem d_Clb_findCard_52 : decode b_Clb_findCard 52 = .ok (.isub, 1) := by decide +kernel
theorem d_Clb_findCard_53 : decode b_Clb_findCard 53 = .ok (.ireturn, 1) := by decide +kernel
theorem d_Clb_changeKind_0 : decode b_Clb_changeKind 0 = .ok (.iload_n 2, 1) := by decide +kernel
theorem d_Clb_changeKind_1 : decode b_Clb_changeKind 1 = .ok (.iconst 1, 1) := by decide +kernel
theorem d_Clb_changeKind_2 : decode b_Clb_changeKind 2 = .ok (.if_icmp .lt 14, 3) := by decide +kernel
theorem d_Clb_changeKind_5 : decode b_Clb_changeKind 5 = .ok (.iload_n 2, 1) := by decide +kernel
theorem d_Clb_changeKind_6 : decode b_Clb_changeKind 6 = .ok (.sipush 200, 3) := by decide +kernel
theorem d_Clb_changeKind_9 : decode b_Clb_changeKind 9 = .ok (.if_icmp .gt 7, 3) := by decide +kernel
theorem d_Clb_changeKind_12 : decode b_Clb_changeKind 12 = .ok (.iconst 1, 1) := by decide +kernel
theorem d_Clb_changeKind_13 : decode b_Clb_changeKind 13 = .ok (.goto 4, 3) := by decide +kernel
theorem d_Clb_changeKind_16 : decode b_Clb_changeKind 16 = .ok (.iconst 0, 1) := by decide +kernel
theorem d_Clb_changeKind_17 : decode b_Clb_changeKind 17 = .ok (.istore 4, 2) := by decide +kernel
theorem d_Clb_changeKind_19 : decode b_Clb_changeKind 19 = .ok (.iload_n 3, 1) := by decide +kernel
theorem d_Clb_changeKind_20 : decode b_Clb_changeKind 20 = .ok (.ifCond .lt 13, 3) := by decide +kernel
theorem d_Clb_changeKind_23 : decode b_Clb_changeKind 23 = .ok (.iload_n 3, 1) := by decide +kernel
theorem d_Clb_changeKind_24 : decode b_Clb_changeKind 24 = .ok (.bipush 9, 2) := by decide +kernel
theorem d_Clb_changeKind_26 : decode b_Clb_changeKind 26 = .ok (.if_icmp .gt 7, 3) := by decide +kernel
theorem d_Clb_changeKind_29 : decode b_Clb_changeKind 29 = .ok (.iconst 1, 1) := by decide +kernel
theorem d_Clb_changeKind_30 : decode b_Clb_changeKind 30 = .ok (.goto 4, 3) := by decide +kernel
theorem d_Clb_changeKind_33 : decode b_Clb_changeKind 33 = .ok (.iconst 0, 1) := by decide +kernel
theorem d_Clb_changeKind_34 : decode b_Clb_changeKind 34 = .ok (.istore 5, 2) := by decide +kernel
theorem d_Clb_changeKind_36 : decode b_Clb_changeKind 36 = .ok (.iload_n 1, 1) := by decide +kernel
theorem d_Clb_changeKind_37 : decode b_Clb_changeKind 37 = .ok (.invokestatic 106, 3) := by decide +kernel
theorem d_Clb_changeKind_40 : decode b_Clb_changeKind 40 = .ok (.ifCond .eq 13, 3) := by decide +kernel
theorem d_Clb_changeKind_43 : decode b_Clb_changeKind 43 = .ok (.iload 4, 2) := by decide +kernel
theorem d_Clb_changeKind_45 : decode b_Clb_changeKind 45 = .ok (.ifCond .eq 8, 3) := by decide +kernel
theorem d_Clb_changeKind_48 : decode b_Clb_changeKind 48 = .ok (.iload 5, 2) := by decide +kernel
theorem d_Clb_changeKind_50 : decode b_Clb_changeKind 50 = .ok (.ifCond .ne 5, 3) := by decide +kernel
theorem d_Clb_changeKind_53 : decode b_Clb_changeKind 53 = .ok (.iconst (-1), 1) := by decide +kernel
theorem d_Clb_changeKind_54 : decode b_Clb_changeKind 54 = .ok (.ireturn, 1) := by decide +kernel
theorem d_Clb_changeKind_55 : decode b_Clb_changeKind 55 = .ok (.aload_n 0, 1) := by decide +kernel
theorem d_Clb_changeKind_56 : decode b_Clb_changeKind 56 = .ok (.getfield 36, 3) := by decide +kernel
theorem d_Clb_changeKind_59 : decode b_Clb_changeKind 59 = .ok (.ifCond .eq 6, 3) := by decide +kernel
theorem d_Clb_changeKind_62 : decode b_Clb_changeKind 62 = .ok (.bipush (-2), 2) := by decide +kernel
theorem d_Clb_changeKind_64 : decode b_Clb_changeKind 64 = .ok (.ireturn, 1) := by decide +kernel
theorem d_Clb_changeKind_65 : decode b_Clb_changeKind 65 = .ok (.aload_n 0, 1) := by decide +kernel
theorem d_Clb_changeKind_66 : decode b_Clb_changeKind 66 = .ok (.getfield 21, 3) := by decide +kernel
theorem d_Clb_changeKind_69 : decode b_Clb_changeKind 69 = .ok (.getfield 109, 3) := by decide +kernel
theorem d_Clb_changeKind_72 : decode b_Clb_changeKind 72 = .ok (.iload_n 1, 1) := by decide +kernel
theorem d_Clb_changeKind_73 : decode b_Clb_changeKind 73 = .ok (.iaload, 1) := by decide +kernel
theorem d_Clb_changeKind_74 : decode b_Clb_changeKind 74 = .ok (.istore 6, 2) := by decide +kernel
theorem d_Clb_changeKind_76 : decode b_Clb_changeKind 76 = .ok (.aload_n 0, 1) := by decide +kernel
theorem d_Clb_changeKind_77 : decode b_Clb_changeKind 77 = .ok (.getfield 21, 3) := by decide +kernel
theorem d_Clb_changeKind_80 : decode b_Clb_changeKind 80 = .ok (.getfield 109, 3) := by decide +kernel
theorem d_Clb_changeKind_83 : decode b_Clb_changeKind 83 = .ok (.iload_n 1, 1) := by decide +kernel
theorem d_Clb_changeKind_84 : decode b_Clb_changeKind 84 = .ok (.iload_n 2, 1) := by decide +kernel
theorem d_Clb_changeKind_85 : decode b_Clb_changeKind 85 = .ok (.iastore, 1) := by decide +kernel
theorem d_Clb_changeKind_86 : decode b_Clb_changeKind 86 = .ok (.aload_n 0, 1) := by decide +kernel
theorem d_Clb_changeKind_87 : decode b_Clb_changeKind 87 = .ok (.getfield 21, 3) := by decide +kernel
theorem d_Clb_changeKind_90 : decode b_Clb_changeKind 90 = .ok (.getfield 112, 3) := by decide +kernel
theorem d_Clb_changeKind_93 : decode b_Clb_changeKind 93 = .ok (.iload_n 1, 1) := by decide +kernel
theorem d_Clb_changeKind_94 : decode b_Clb_changeKind 94 = .ok (.iload_n 3, 1) := by decide +kernel
theorem d_Clb_changeKind_95 : decode b_Clb_changeKind 95 = .ok (.iastore, 1) := by decide +kernel
theorem d_Clb_changeKind_96 : decode b_Clb_changeKind 96 = .ok (.iload 6, 2) := by decide +kernel
theorem d_Clb_changeKind_98 : decode b_Clb_changeKind 98 = .ok (.ireturn, 1) := by decide +kernel
theorem d_Clb_chooseKind_0 : decode b_Clb_chooseKind 0 = .ok (.aload_n 0, 1) := by decide +kernel
theorem d_Clb_chooseKind_1 : decode b_Clb_chooseKind 1 = .ok (.getfield 12, 3) := by decide +kernel
theorem d_Clb_chooseKind_4 : decode b_Clb_chooseKind 4 = .ok (.iload_n 1, 1) := by decide +kernel
theorem d_Clb_chooseKind_5 : decode b_Clb_chooseKind 5 = .ok (.invokevirtual 63, 3) := by decide +kernel
theorem d_Clb_chooseKind_8 : decode b_Clb_chooseKind 8 = .ok (.ifCond .eq 10, 3) := by decide +kernel
theorem d_Clb_chooseKind_11 : decode b_Clb_chooseKind 11 = .ok (.iload_n 2, 1) := by decide +kernel
theorem d_Clb_chooseKind_12 : decode b_Clb_chooseKind 12 = .ok (.invokestatic 106, 3) := by decide +kernel
theorem d_Clb_chooseKind_15 : decode b_Clb_chooseKind 15 = .ok (.ifCond .ne 5, 3) := by decide +kernel
theorem d_Clb_chooseKind_18 : decode b_Clb_chooseKind 18 = .ok (.iconst (-1), 1) := by decide +kernel
theorem d_Clb_chooseKind_19 : decode b_Clb_chooseKind 19 = .ok (.ireturn, 1) := by decide +kernel
theorem d_Clb_chooseKind_20 : decode b_Clb_chooseKind 20 = .ok (.aload_n 0, 1) := by decide +kernel
theorem d_Clb_chooseKind_21 : decode b_Clb_chooseKind 21 = .ok (.getfield 21, 3) := by decide +kernel
theorem d_Clb_chooseKind_24 : decode b_Clb_chooseKind 24 = .ok (.getfield 115, 3) := by decide +kernel
theorem d_Clb_chooseKind_27 : decode b_Clb_chooseKind 27 = .ok (.iload_n 1, 1) := by decide +kernel
theorem d_Clb_chooseKind_28 : decode b_Clb_chooseKind 28 = .ok (.iaload, 1) := by decide +kernel
theorem d_Clb_chooseKind_29 : decode b_Clb_chooseKind 29 = .ok (.istore_n 3, 1) := by decide +kernel
theorem d_Clb_chooseKind_30 : decode b_Clb_chooseKind 30 = .ok (.aload_n 0, 1) := by decide +kernel
theorem d_Clb_chooseKind_31 : decode b_Clb_chooseKind 31 = .ok (.getfield 36, 3) := by decide +kernel
theorem d_Clb_chooseKind_34 : decode b_Clb_chooseKind 34 = .ok (.ifCond .ne 8, 3) := by decide +kernel
theorem d_Clb_chooseKind_37 : decode b_Clb_chooseKind 37 = .ok (.iload_n 3, 1) := by decide +kernel
theorem d_Clb_chooseKind_38 : decode b_Clb_chooseKind 38 = .ok (.iload_n 2, 1) := by decide +kernel
theorem d_Clb_chooseKind_39 : decode b_Clb_chooseKind 39 = .ok (.if_icmp .ne 6, 3) := by decide +kernel
theorem d_Clb_chooseKind_42 : decode b_Clb_chooseKind 42 = .ok (.bipush (-2), 2) := by decide +kernel
theorem d_Clb_chooseKind_44 : decode b_Clb_chooseKind 44 = .ok (.ireturn, 1) := by decide +kernel
theorem d_Clb_chooseKind_45 : decode b_Clb_chooseKind 45 = .ok (.iload_n 3, 1) := by decide +kernel
theorem d_Clb_chooseKind_46 : decode b_Clb_chooseKind 46 = .ok (.invokestatic 106, 3) := by decide +kernel
theorem d_Clb_chooseKind_49 : decode b_Clb_chooseKind 49 = .ok (.ifCond .eq 13, 3) := by decide +kernel
theorem d_Clb_chooseKind_52 : decode b_Clb_chooseKind 52 = .ok (.aload_n 0, 1) := by decide +kernel
theorem d_Clb_chooseKind_53 : decode b_Clb_chooseKind 53 = .ok (.getfield 21, 3) := by decide +kernel
theorem d_Clb_chooseKind_56 : decode b_Clb_chooseKind 56 = .ok (.iload_n 1, 1) := by decide +kernel
theorem d_Clb_chooseKind_57 : decode b_Clb_chooseKind 57 = .ok (.iload_n 3, 1) := by decide +kernel
theorem d_Clb_chooseKind_58 : decode b_Clb_chooseKind 58 = .ok (.invokevirtual 118, 3) := by decide +kernel
theorem d_Clb_chooseKind_61 : decode b_Clb_chooseKind 61 = .ok (.pop, 1) := by decide +kernel
theorem d_Clb_chooseKind_62 : decode b_Clb_chooseKind 62 = .ok (.aload_n 0, 1) := by decide +kernel
theorem d_Clb_chooseKind_63 : decode b_Clb_chooseKind 63 = .ok (.getfield 21, 3) := by decide +kernel
theorem d_Clb_chooseKind_66 : decode b_Clb_chooseKind 66 = .ok (.iload_n 1, 1) := by decide +kernel
theorem d_Clb_chooseKind_67 : decode b_Clb_chooseKind 67 = .ok (.iload_n 2, 1) := by decide +kernel
theorem d_Clb_chooseKind_68 : decode b_Clb_chooseKind 68 = .ok (.invokevirtual 121, 3) := by decide +kernel
theorem d_Clb_chooseKind_71 : decode b_Clb_chooseKind 71 = .ok (.ireturn, 1) := by decide +kernel
theorem d_Clb_giveUpChoice_0 : decode b_Clb_giveUpChoice 0 = .ok (.aload_n 0, 1) := by decide +kernel
theorem d_Clb_giveUpChoice_1 : decode b_Clb_giveUpChoice 1 = .ok (.getfield 12, 3) := by decide +kernel
theorem d_Clb_giveUpChoice_4 : decode b_Clb_giveUpChoice 4 = .ok (.iload_n 1, 1) := by decide +kernel
theorem d_Clb_giveUpChoice_5 : decode b_Clb_giveUpChoice 5 = .ok (.invokevirtual 63, 3) := by decide +kernel
theorem d_Clb_giveUpChoice_8 : decode b_Clb_giveUpChoice 8 = .ok (.ifCond .ne 5, 3) := by decide +kernel
theorem d_Clb_giveUpChoice_11 : decode b_Clb_giveUpChoice 11 = .ok (.iconst (-1), 1) := by decide +kernel
theorem d_Clb_giveUpChoice_12 : decode b_Clb_giveUpChoice 12 = .ok (.ireturn, 1) := by decide +kernel
theorem d_Clb_giveUpChoice_13 : decode b_Clb_giveUpChoice 13 = .ok (.aload_n 0, 1) := by decide +kernel
theorem d_Clb_giveUpChoice_14 : decode b_Clb_giveUpChoice 14 = .ok (.getfield 21, 3) := by decide +kernel
theorem d_Clb_giveUpChoice_17 : decode b_Clb_giveUpChoice 17 = .ok (.getfield 115, 3) := by decide +kernel
theorem d_Clb_giveUpChoice_20 : decode b_Clb_giveUpChoice 20 = .ok (.iload_n 1, 1) := by decide +kernel
theorem d_Clb_giveUpChoice_21 : decode b_Clb_giveUpChoice 21 = .ok (.iaload, 1) := by decide +kernel
theorem d_Clb_giveUpChoice_22 : decode b_Clb_giveUpChoice 22 = .ok (.istore_n 2, 1) := by decide +kernel
theorem d_Clb_giveUpChoice_23 : decode b_Clb_giveUpChoice 23 = .ok (.iload_n 2, 1) := by decide +kernel
theorem d_Clb_giveUpChoice_24 : decode b_Clb_giveUpChoice 24 = .ok (.invokestatic 106, 3) := by decide +kernel
theorem d_Clb_giveUpChoice_27 : decode b_Clb_giveUpChoice 27 = .ok (.ifCond .ne 6, 3) := by decide +kernel
theorem d_Clb_giveUpChoice_30 : decode b_Clb_giveUpChoice 30 = .ok (.bipush (-2), 2) := by decide +kernel
theorem d_Clb_giveUpChoice_32 : decode b_Clb_giveUpChoice 32 = .ok (.ireturn, 1) := by decide +kernel
theorem d_Clb_giveUpChoice_33 : decode b_Clb_giveUpChoice 33 = .ok (.aload_n 0, 1) := by decide +kernel
theorem d_Clb_giveUpChoice_34 : decode b_Clb_giveUpChoice 34 = .ok (.getfield 21, 3) := by decide +kernel
theorem d_Clb_giveUpChoice_37 : decode b_Clb_giveUpChoice 37 = .ok (.iload_n 1, 1) := by decide +kernel
theorem d_Clb_giveUpChoice_38 : decode b_Clb_giveUpChoice 38 = .ok (.iload_n 2, 1) := by decide +kernel
theorem d_Clb_giveUpChoice_39 : decode b_Clb_giveUpChoice 39 = .ok (.invokevirtual 118, 3) := by decide +kernel
theorem d_Clb_giveUpChoice_42 : decode b_Clb_giveUpChoice 42 = .ok (.pop, 1) := by decide +kernel
theorem d_Clb_giveUpChoice_43 : decode b_Clb_giveUpChoice 43 = .ok (.iload_n 2, 1) := by decide +kernel
theorem d_Clb_giveUpChoice_44 : decode b_Clb_giveUpChoice 44 = .ok (.ireturn, 1) := by decide +kernel
theorem d_Clb_passWeek_0 : decode b_Clb_passWeek 0 = .ok (.aload_n 0, 1) := by decide +kernel
theorem d_Clb_passWeek_1 : decode b_Clb_passWeek 1 = .ok (.getfield 36, 3) := by decide +kernel
theorem d_Clb_passWeek_4 : decode b_Clb_passWeek 4 = .ok (.ifCond .eq 6, 3) := by decide +kernel
theorem d_Clb_passWeek_7 : decode b_Clb_passWeek 7 = .ok (.bipush (-2), 2) := by decide +kernel
theorem d_Clb_passWeek_9 : decode b_Clb_passWeek 9 = .ok (.ireturn, 1) := by decide +kernel
theorem d_Clb_passWeek_10 : decode b_Clb_passWeek 10 = .ok (.aload_n 0, 1) := by decide +kernel
theorem d_Clb_passWeek_11 : decode b_Clb_passWeek 11 = .ok (.getfield 32, 3) := by decide +kernel
theorem d_Clb_passWeek_14 : decode b_Clb_passWeek 14 = .ok (.bipush 60, 2) := by decide +kernel
theorem d_Clb_passWeek_16 : decode b_Clb_passWeek 16 = .ok (.if_icmp .lt 6, 3) := by decide +kernel
theorem d_Clb_passWeek_19 : decode b_Clb_passWeek 19 = .ok (.bipush (-3), 2) := by decide +kernel
theorem d_Clb_passWeek_21 : decode b_Clb_passWeek 21 = .ok (.ireturn, 1) := by decide +kernel
theorem d_Clb_passWeek_22 : decode b_Clb_passWeek 22 = .ok (.aload_n 0, 1) := by decide +kernel
theorem d_Clb_passWeek_23 : decode b_Clb_passWeek 23 = .ok (.dup, 1) := by decide +kernel
theorem d_Clb_passWeek_24 : decode b_Clb_passWeek 24 = .ok (.getfield 32, 3) := by decide +kernel
theorem d_Clb_passWeek_27 : decode b_Clb_passWeek 27 = .ok (.iconst 1, 1) := by decide +kernel
theorem d_Clb_passWeek_28 : decode b_Clb_passWeek 28 = .ok (.iadd, 1) := by decide +kernel
theorem d_Clb_passWeek_29 : decode b_Clb_passWeek 29 = .ok (.putfield 32, 3) := by decide +kernel
theorem d_Clb_passWeek_32 : decode b_Clb_passWeek 32 = .ok (.aload_n 0, 1) := by decide +kernel
theorem d_Clb_passWeek_33 : decode b_Clb_passWeek 33 = .ok (.invokevirtual 124, 3) := by decide +kernel
theorem d_Clb_passWeek_36 : decode b_Clb_passWeek 36 = .ok (.aload_n 0, 1) := by decide +kernel
theorem d_Clb_passWeek_37 : decode b_Clb_passWeek 37 = .ok (.invokevirtual 127, 3) := by decide +kernel
theorem d_Clb_passWeek_40 : decode b_Clb_passWeek 40 = .ok (.istore_n 1, 1) := by decide +kernel
theorem d_Clb_passWeek_41 : decode b_Clb_passWeek 41 = .ok (.aload_n 0, 1) := by decide +kernel
theorem d_Clb_passWeek_42 : decode b_Clb_passWeek 42 = .ok (.dup, 1) := by decide +kernel
theorem d_Clb_passWeek_43 : decode b_Clb_passWeek 43 = .ok (.getfield 43, 3) := by decide +kernel
theorem d_Clb_passWeek_46 : decode b_Clb_passWeek 46 = .ok (.iload_n 1, 1) := by decide +kernel
theorem d_Clb_passWeek_47 : decode b_Clb_passWeek 47 = .ok (.iadd, 1) := by decide +kernel
theorem d_Clb_passWeek_48 : decode b_Clb_passWeek 48 = .ok (.putfield 43, 3) := by decide +kernel
theorem d_Clb_passWeek_51 : decode b_Clb_passWeek 51 = .ok (.iload_n 1, 1) := by decide +kernel
theorem d_Clb_passWeek_52 : decode b_Clb_passWeek 52 = .ok (.ireturn, 1) := by decide +kernel
theorem d_Clb_replaceCards_0 : decode b_Clb_replaceCards 0 = .ok (.iconst 0, 1) := by decide +kernel
theorem d_Clb_replaceCards_1 : decode b_Clb_replaceCards 1 = .ok (.istore_n 1, 1) := by decide +kernel
theorem d_Clb_replaceCards_2 : decode b_Clb_replaceCards 2 = .ok (.iload_n 1, 1) := by decide +kernel
theorem d_Clb_replaceCards_3 : decode b_Clb_replaceCards 3 = .ok (.aload_n 0, 1) := by decide +kernel
theorem d_Clb_replaceCards_4 : decode b_Clb_replaceCards 4 = .ok (.getfield 12, 3) := by decide +kernel
theorem d_Clb_replaceCards_7 : decode b_Clb_replaceCards 7 = .ok (.getfield 56, 3) := by decide +kernel
theorem d_Clb_replaceCards_10 : decode b_Clb_replaceCards 10 = .ok (.if_icmp .ge 102, 3) := by decide +kernel
theorem d_Clb_replaceCards_13 : decode b_Clb_replaceCards 13 = .ok (.aload_n 0, 1) := by decide +kernel
theorem d_Clb_replaceCards_14 : decode b_Clb_replaceCards 14 = .ok (.getfield 12, 3) := by decide +kernel
theorem d_Clb_replaceCards_17 : decode b_Clb_replaceCards 17 = .ok (.getfield 100, 3) := by decide +kernel
theorem d_Clb_replaceCards_20 : decode b_Clb_replaceCards 20 = .ok (.iload_n 1, 1) := by decide +kernel
theorem d_Clb_replaceCards_21 : decode b_Clb_replaceCards 21 = .ok (.iaload, 1) := by decide +kernel
theorem d_Clb_replaceCards_22 : decode b_Clb_replaceCards 22 = .ok (.iconst 1, 1) := by decide +kernel
theorem d_Clb_replaceCards_23 : decode b_Clb_replaceCards 23 = .ok (.if_icmp .ne 7, 3) := by decide +kernel
theorem d_Clb_replaceCards_26 : decode b_Clb_replaceCards 26 = .ok (.iconst 1, 1) := by decide +kernel
theorem d_Clb_replaceCards_27 : decode b_Clb_replaceCards 27 = .ok (.goto 4, 3) := by decide +kernel
theorem d_Clb_replaceCards_30 : decode b_Clb_replaceCards 30 = .ok (.iconst 0, 1) := by decide +kernel
theorem d_Clb_replaceCards_31 : decode b_Clb_replaceCards 31 = .ok (.istore_n 2, 1) := by decide +kernel
theorem d_Clb_replaceCards_32 : decode b_Clb_replaceCards 32 = .ok (.iload_n 2, 1) := by decide +kernel
theorem d_Clb_replaceCards_33 : decode b_Clb_replaceCards 33 = .ok (.ifCond .eq 73, 3) := by decide +kernel
theorem d_Clb_replaceCards_36 : decode b_Clb_replaceCards 36 = .ok (.aload_n 0, 1) := by decide +kernel
theorem d_Clb_replaceCards_37 : decode b_Clb_replaceCards 37 = .ok (.getfield 32, 3) := by decide +kernel
theorem d_Clb_replaceCards_40 : decode b_Clb_replaceCards 40 = .ok (.aload_n 0, 1) := by decide +kernel
theorem d_Clb_replaceCards_41 : decode b_Clb_replaceCards 41 = .ok (.getfield 12, 3) := by decide +kernel
theorem d_Clb_replaceCards_44 : decode b_Clb_replaceCards 44 = .ok (.getfield 103, 3) := by decide +kernel
theorem d_Clb_replaceCards_47 : decode b_Clb_replaceCards 47 = .ok (.iload_n 1, 1) := by decide +kernel
theorem d_Clb_replaceCards_48 : decode b_Clb_replaceCards 48 = .ok (.iaload, 1) := by decide +kernel
theorem d_Clb_replaceCards_49 : decode b_Clb_replaceCards 49 = .ok (.isub, 1) := by decide +kernel
theorem d_Clb_replaceCards_50 : decode b_Clb_replaceCards 50 = .ok (.iconst 3, 1) := by decide +kernel
theorem d_Clb_replaceCards_51 : decode b_Clb_replaceCards 51 = .ok (.if_icmp .lt 55, 3) := by decide +kernel
theorem d_Clb_replaceCards_54 : decode b_Clb_replaceCards 54 = .ok (.aload_n 0, 1) := by decide +kernel
theorem d_Clb_replaceCards_55 : decode b_Clb_replaceCards 55 = .ok (.getfield 12, 3) := by decide +kernel
theorem d_Clb_replaceCards_58 : decode b_Clb_replaceCards 58 = .ok (.getfield 78, 3) := by decide +kernel
theorem d_Clb_replaceCards_61 : decode b_Clb_replaceCards 61 = .ok (.iload_n 1, 1) := by decide +kernel
theorem d_Clb_replaceCards_62 : decode b_Clb_replaceCards 62 = .ok (.iaload, 1) := by decide +kernel
theorem d_Clb_replaceCards_63 : decode b_Clb_replaceCards 63 = .ok (.bipush 10, 2) := by decide +kernel
theorem d_Clb_replaceCards_65 : decode b_Clb_replaceCards 65 = .ok (.idiv, 1) := by decide +kernel
theorem d_Clb_replaceCards_66 : decode b_Clb_replaceCards 66 = .ok (.istore_n 3, 1) := by decide +kernel
theorem d_Clb_replaceCards_67 : decode b_Clb_replaceCards 67 = .ok (.aload_n 0, 1) := by decide +kernel
theorem d_Clb_replaceCards_68 : decode b_Clb_replaceCards 68 = .ok (.getfield 12, 3) := by decide +kernel
theorem d_Clb_replaceCards_71 : decode b_Clb_replaceCards 71 = .ok (.getfield 78, 3) := by decide +kernel
theorem d_Clb_replaceCards_74 : decode b_Clb_replaceCards 74 = .ok (.iload_n 1, 1) := by decide +kernel
theorem d_Clb_replaceCards_75 : decode b_Clb_replaceCards 75 = .ok (.dup2, 1) := by decide +kernel
theorem d_Clb_replaceCards_76 : decode b_Clb_replaceCards 76 = .ok (.iaload, 1) := by decide +kernel
theorem d_Clb_replaceCards_77 : decode b_Clb_replaceCards 77 = .ok (.iload_n 3, 1) := by decide +kernel
theorem d_Clb_replaceCards_78 : decode b_Clb_replaceCards 78 = .ok (.isub, 1) := by decide +kernel
theorem d_Clb_replaceCards_79 : decode b_Clb_replaceCards 79 = .ok (.iastore, 1) := by decide +kernel
theorem d_Clb_replaceCards_80 : decode b_Clb_replaceCards 80 = .ok (.aload_n 0, 1) := by decide +kernel
theorem d_Clb_replaceCards_81 : decode b_Clb_replaceCards 81 = .ok (.getfield 28, 3) := by decide +kernel
theorem d_Clb_replaceCards_84 : decode b_Clb_replaceCards 84 = .ok (.dup, 1) := by decide +kernel
theorem d_Clb_replaceCards_85 : decode b_Clb_replaceCards 85 = .ok (.getfield 94, 3) := by decide +kernel
theorem d_Clb_replaceCards_88 : decode b_Clb_replaceCards 88 = .ok (.iload_n 3, 1) := by decide +kernel
theorem d_Clb_replaceCards_89 : decode b_Clb_replaceCards 89 = .ok (.bipush 10, 2) := by decide +kernel
theorem d_Clb_replaceCards_91 : decode b_Clb_replaceCards 91 = .ok (.imul, 1) := by decide +kernel
theorem d_Clb_replaceCards_92 : decode b_Clb_replaceCards 92 = .ok (.iadd, 1) := by decide +kernel
theorem d_Clb_replaceCards_93 : decode b_Clb_replaceCards 93 = .ok (.putfield 94, 3) := by decide +kernel
theorem d_Clb_replaceCards_96 : decode b_Clb_replaceCards 96 = .ok (.aload_n 0, 1) := by decide +kernel
theorem d_Clb_replaceCards_97 : decode b_Clb_replaceCards 97 = .ok (.getfield 12, 3) := by decide +kernel
theorem d_Clb_replaceCards_100 : decode b_Clb_replaceCards 100 = .ok (.getfield 100, 3) := by decide +kernel
theorem d_Clb_replaceCards_103 : decode b_Clb_replaceCards 103 = .ok (.iload_n 1, 1) := by decide +kernel
theorem d_Clb_replaceCards_104 : decode b_Clb_replaceCards 104 = .ok (.iconst 0, 1) := by decide +kernel
theorem d_Clb_replaceCards_105 : decode b_Clb_replaceCards 105 = .ok (.iastore, 1) := by decide +kernel
theorem d_Clb_replaceCards_106 : decode b_Clb_replaceCards 106 = .ok (.iinc 1 1, 3) := by decide +kernel
theorem d_Clb_replaceCards_109 : decode b_Clb_replaceCards 109 = .ok (.goto (-107), 3) := by decide +kernel
theorem d_Clb_replaceCards_112 : decode b_Clb_replaceCards 112 = .ok (.return_, 1) := by decide +kernel
theorem d_Clb_dropLapsed_0 : decode b_Clb_dropLapsed 0 = .ok (.iconst 0, 1) := by decide +kernel
theorem d_Clb_dropLapsed_1 : decode b_Clb_dropLapsed 1 = .ok (.istore_n 1, 1) := by decide +kernel
theorem d_Clb_dropLapsed_2 : decode b_Clb_dropLapsed 2 = .ok (.iconst 0, 1) := by decide +kernel
theorem d_Clb_dropLapsed_3 : decode b_Clb_dropLapsed 3 = .ok (.istore_n 2, 1) := by decide +kernel
theorem d_Clb_dropLapsed_4 : decode b_Clb_dropLapsed 4 = .ok (.iload_n 2, 1) := by decide +kernel
theorem d_Clb_dropLapsed_5 : decode b_Clb_dropLapsed 5 = .ok (.aload_n 0, 1) := by decide +kernel
theorem d_Clb_dropLapsed_6 : decode b_Clb_dropLapsed 6 = .ok (.getfield 12, 3) := by decide +kernel
theorem d_Clb_dropLapsed_9 : decode b_Clb_dropLapsed 9 = .ok (.getfield 56, 3) := by decide +kernel
theorem d_Clb_dropLapsed_12 : decode b_Clb_dropLapsed 12 = .ok (.if_icmp .ge 54, 3) := by decide +kernel
theorem d_Clb_dropLapsed_15 : decode b_Clb_dropLapsed 15 = .ok (.aload_n 0, 1) := by decide +kernel
theorem d_Clb_dropLapsed_16 : decode b_Clb_dropLapsed 16 = .ok (.getfield 21, 3) := by decide +kernel
theorem d_Clb_dropLapsed_19 : decode b_Clb_dropLapsed 19 = .ok (.getfield 115, 3) := by decide +kernel
theorem d_Clb_dropLapsed_22 : decode b_Clb_dropLapsed 22 = .ok (.iload_n 2, 1) := by decide +kernel
theorem d_Clb_dropLapsed_23 : decode b_Clb_dropLapsed 23 = .ok (.iaload, 1) := by decide +kernel
theorem d_Clb_dropLapsed_24 : decode b_Clb_dropLapsed 24 = .ok (.istore_n 3, 1) := by decide +kernel
theorem d_Clb_dropLapsed_25 : decode b_Clb_dropLapsed 25 = .ok (.iload_n 3, 1) := by decide +kernel
theorem d_Clb_dropLapsed_26 : decode b_Clb_dropLapsed 26 = .ok (.invokestatic 106, 3) := by decide +kernel
theorem d_Clb_dropLapsed_29 : decode b_Clb_dropLapsed 29 = .ok (.ifCond .eq 31, 3) := by decide +kernel
theorem d_Clb_dropLapsed_32 : decode b_Clb_dropLapsed 32 = .ok (.aload_n 0, 1) := by decide +kernel
theorem d_Clb_dropLapsed_33 : decode b_Clb_dropLapsed 33 = .ok (.getfield 12, 3) := by decide +kernel
theorem d_Clb_dropLapsed_36 : decode b_Clb_dropLapsed 36 = .ok (.iload_n 2, 1) := by decide +kernel
theorem d_Clb_dropLapsed_37 : decode b_Clb_dropLapsed 37 = .ok (.aload_n 0, 1) := by decide +kernel
theorem d_Clb_dropLapsed_38 : decode b_Clb_dropLapsed 38 = .ok (.getfield 32, 3) := by decide +kernel
theorem d_Clb_dropLapsed_41 : decode b_Clb_dropLapsed 41 = .ok (.invokevirtual 131, 3) := by decide +kernel
theorem d_Clb_dropLapsed_44 : decode b_Clb_dropLapsed 44 = .ok (.ifCond .eq 16, 3) := by decide +kernel
theorem d_Clb_dropLapsed_47 : decode b_Clb_dropLapsed 47 = .ok (.aload_n 0, 1) := by decide +kernel
theorem d_Clb_dropLapsed_48 : decode b_Clb_dropLapsed 48 = .ok (.getfield 21, 3) := by decide +kernel
theorem d_Clb_dropLapsed_51 : decode b_Clb_dropLapsed 51 = .ok (.iload_n 2, 1) := by decide +kernel
theorem d_Clb_dropLapsed_52 : decode b_Clb_dropLapsed 52 = .ok (.iload_n 3, 1) := by decide +kernel
theorem d_Clb_dropLapsed_53 : decode b_Clb_dropLapsed 53 = .ok (.invokevirtual 118, 3) := by decide +kernel
theorem d_Clb_dropLapsed_56 : decode b_Clb_dropLapsed 56 = .ok (.pop, 1) := by decide +kernel
theorem d_Clb_dropLapsed_57 : decode b_Clb_dropLapsed 57 = .ok (.iinc 1 1, 3) := by decide +kernel
theorem d_Clb_dropLapsed_60 : decode b_Clb_dropLapsed 60 = .ok (.iinc 2 1, 3) := by decide +kernel
theorem d_Clb_dropLapsed_63 : decode b_Clb_dropLapsed 63 = .ok (.goto (-59), 3) := by decide +kernel
theorem d_Clb_dropLapsed_66 : decode b_Clb_dropLapsed 66 = .ok (.iload_n 1, 1) := by decide +kernel
theorem d_Clb_dropLapsed_67 : decode b_Clb_dropLapsed 67 = .ok (.ireturn, 1) := by decide +kernel
theorem d_Clb_settleAll_0 : decode b_Clb_settleAll 0 = .ok (.aload_n 0, 1) := by decide +kernel
theorem d_Clb_settleAll_1 : decode b_Clb_settleAll 1 = .ok (.getfield 36, 3) := by decide +kernel
theorem d_Clb_settleAll_4 : decode b_Clb_settleAll 4 = .ok (.ifCond .eq 6, 3) := by decide +kernel
theorem d_Clb_settleAll_7 : decode b_Clb_settleAll 7 = .ok (.bipush (-2), 2) := by decide +kernel
theorem d_Clb_settleAll_9 : decode b_Clb_settleAll 9 = .ok (.ireturn, 1) := by decide +kernel
theorem d_Clb_settleAll_10 : decode b_Clb_settleAll 10 = .ok (.iconst 0, 1) := by decide +kernel
theorem d_Clb_settleAll_11 : decode b_Clb_settleAll 11 = .ok (.istore_n 1, 1) := by decide +kernel
theorem d_Clb_settleAll_12 : decode b_Clb_settleAll 12 = .ok (.iload_n 1, 1) := by decide +kernel
theorem d_Clb_settleAll_13 : decode b_Clb_settleAll 13 = .ok (.aload_n 0, 1) := by decide +kernel
theorem d_Clb_settleAll_14 : decode b_Clb_settleAll 14 = .ok (.getfield 12, 3) := by decide +kernel
theorem d_Clb_settleAll_17 : decode b_Clb_settleAll 17 = .ok (.getfield 56, 3) := by decide +kernel
theorem d_Clb_settleAll_20 : decode b_Clb_settleAll 20 = .ok (.if_icmp .ge 19, 3) := by decide +kernel
theorem d_Clb_settleAll_23 : decode b_Clb_settleAll 23 = .ok (.aload_n 0, 1) := by decide +kernel
theorem d_Clb_settleAll_24 : decode b_Clb_settleAll 24 = .ok (.iload_n 1, 1) := by decide +kernel
theorem d_Clb_settleAll_25 : decode b_Clb_settleAll 25 = .ok (.aload_n 0, 1) := by decide +kernel
theorem d_Clb_settleAll_26 : decode b_Clb_settleAll 26 = .ok (.iload_n 1, 1) := by decide +kernel
theorem d_Clb_settleAll_27 : decode b_Clb_settleAll 27 = .ok (.invokevirtual 134, 3) := by decide +kernel
theorem d_Clb_settleAll_30 : decode b_Clb_settleAll 30 = .ok (.invokevirtual 97, 3) := by decide +kernel
theorem d_Clb_settleAll_33 : decode b_Clb_settleAll 33 = .ok (.iinc 1 1, 3) := by decide +kernel
theorem d_Clb_settleAll_36 : decode b_Clb_settleAll 36 = .ok (.goto (-24), 3) := by decide +kernel
theorem d_Clb_settleAll_39 : decode b_Clb_settleAll 39 = .ok (.aload_n 0, 1) := by decide +kernel
theorem d_Clb_settleAll_40 : decode b_Clb_settleAll 40 = .ok (.getfield 28, 3) := by decide +kernel
theorem d_Clb_settleAll_43 : decode b_Clb_settleAll 43 = .ok (.iconst 0, 1) := by decide +kernel
theorem d_Clb_settleAll_44 : decode b_Clb_settleAll 44 = .ok (.putfield 94, 3) := by decide +kernel
theorem d_Clb_settleAll_47 : decode b_Clb_settleAll 47 = .ok (.iconst 0, 1) := by decide +kernel
theorem d_Clb_settleAll_48 : decode b_Clb_settleAll 48 = .ok (.istore_n 1, 1) := by decide +kernel
theorem d_Clb_settleAll_49 : decode b_Clb_settleAll 49 = .ok (.iload_n 1, 1) := by decide +kernel
theorem d_Clb_settleAll_50 : decode b_Clb_settleAll 50 = .ok (.iconst 4, 1) := by decide +kernel
theorem d_Clb_settleAll_51 : decode b_Clb_settleAll 51 = .ok (.if_icmp .ge 14, 3) := by decide +kernel
theorem d_Clb_settleAll_54 : decode b_Clb_settleAll 54 = .ok (.aload_n 0, 1) := by decide +kernel
theorem d_Clb_settleAll_55 : decode b_Clb_settleAll 55 = .ok (.iload_n 1, 1) := by decide +kernel
theorem d_Clb_settleAll_56 : decode b_Clb_settleAll 56 = .ok (.invokevirtual 138, 3) := by decide +kernel
theorem d_Clb_settleAll_59 : decode b_Clb_settleAll 59 = .ok (.iinc 1 1, 3) := by decide +kernel
theorem d_Clb_settleAll_62 : decode b_Clb_settleAll 62 = .ok (.goto (-13), 3) := by decide +kernel
theorem d_Clb_settleAll_65 : decode b_Clb_settleAll 65 = .ok (.iconst 0, 1) := by decide +kernel
theorem d_Clb_settleAll_66 : decode b_Clb_settleAll 66 = .ok (.istore_n 1, 1) := by decide +kernel
theorem d_Clb_settleAll_67 : decode b_Clb_settleAll 67 = .ok (.iload_n 1, 1) := by decide +kernel
theorem d_Clb_settleAll_68 : decode b_Clb_settleAll 68 = .ok (.aload_n 0, 1) := by decide +kernel
theorem d_Clb_settleAll_69 : decode b_Clb_settleAll 69 = .ok (.getfield 12, 3) := by decide +kernel
theorem d_Clb_settleAll_72 : decode b_Clb_settleAll 72 = .ok (.getfield 56, 3) := by decide +kernel
theorem d_Clb_settleAll_75 : decode b_Clb_settleAll 75 = .ok (.if_icmp .ge 46, 3) := by decide +kernel
theorem d_Clb_settleAll_78 : decode b_Clb_settleAll 78 = .ok (.aload_n 0, 1) := by decide +kernel
theorem d_Clb_settleAll_79 : decode b_Clb_settleAll 79 = .ok (.iload_n 1, 1) := by decide +kernel
theorem d_Clb_settleAll_80 : decode b_Clb_settleAll 80 = .ok (.aload_n 0, 1) := by decide +kernel
theorem d_Clb_settleAll_81 : decode b_Clb_settleAll 81 = .ok (.getfield 12, 3) := by decide +kernel
theorem d_Clb_settleAll_84 : decode b_Clb_settleAll 84 = .ok (.getfield 78, 3) := by decide +kernel
theorem d_Clb_settleAll_87 : decode b_Clb_settleAll 87 = .ok (.iload_n 1, 1) := by decide +kernel
theorem d_Clb_settleAll_88 : decode b_Clb_settleAll 88 = .ok (.iaload, 1) := by decide +kernel
theorem d_Clb_settleAll_89 : decode b_Clb_settleAll 89 = .ok (.bipush 10, 2) := by decide +kernel
theorem d_Clb_settleAll_91 : decode b_Clb_settleAll 91 = .ok (.imul, 1) := by decide +kernel
theorem d_Clb_settleAll_92 : decode b_Clb_settleAll 92 = .ok (.invokevirtual 97, 3) := by decide +kernel
theorem d_Clb_settleAll_95 : decode b_Clb_settleAll 95 = .ok (.aload_n 0, 1) := by decide +kernel
theorem d_Clb_settleAll_96 : decode b_Clb_settleAll 96 = .ok (.getfield 12, 3) := by decide +kernel
theorem d_Clb_settleAll_99 : decode b_Clb_settleAll 99 = .ok (.getfield 78, 3) := by decide +kernel
theorem d_Clb_settleAll_102 : decode b_Clb_settleAll 102 = .ok (.iload_n 1, 1) := by decide +kernel
theorem d_Clb_settleAll_103 : decode b_Clb_settleAll 103 = .ok (.iconst 0, 1) := by decide +kernel
theorem d_Clb_settleAll_104 : decode b_Clb_settleAll 104 = .ok (.iastore, 1) := by decide +kernel
theorem d_Clb_settleAll_105 : decode b_Clb_settleAll 105 = .ok (.aload_n 0, 1) := by decide +kernel
theorem d_Clb_settleAll_106 : decode b_Clb_settleAll 106 = .ok (.getfield 12, 3) := by decide +kernel
theorem d_Clb_settleAll_109 : decode b_Clb_settleAll 109 = .ok (.getfield 100, 3) := by decide +kernel
theorem d_Clb_settleAll_112 : decode b_Clb_settleAll 112 = .ok (.iload_n 1, 1) := by decide +kernel
theorem d_Clb_settleAll_113 : decode b_Clb_settleAll 113 = .ok (.iconst 2, 1) := by decide +kernel
theorem d_Clb_settleAll_114 : decode b_Clb_settleAll 114 = .ok (.iastore, 1) := by decide +kernel
theorem d_Clb_settleAll_115 : decode b_Clb_settleAll 115 = .ok (.iinc 1 1, 3) := by decide +kernel
theorem d_Clb_settleAll_118 : decode b_Clb_settleAll 118 = .ok (.goto (-51), 3) := by decide +kernel
theorem d_Clb_settleAll_121 : decode b_Clb_settleAll 121 = .ok (.aload_n 0, 1) := by decide +kernel
theorem d_Clb_settleAll_122 : decode b_Clb_settleAll 122 = .ok (.getfield 21, 3) := by decide +kernel
theorem d_Clb_settleAll_125 : decode b_Clb_settleAll 125 = .ok (.invokevirtual 141, 3) := by decide +kernel
theorem d_Clb_settleAll_128 : decode b_Clb_settleAll 128 = .ok (.aload_n 0, 1) := by decide +kernel
theorem d_Clb_settleAll_129 : decode b_Clb_settleAll 129 = .ok (.iconst 1, 1) := by decide +kernel
theorem d_Clb_settleAll_130 : decode b_Clb_settleAll 130 = .ok (.putfield 36, 3) := by decide +kernel
theorem d_Clb_settleAll_133 : decode b_Clb_settleAll 133 = .ok (.aload_n 0, 1) := by decide +kernel
theorem d_Clb_settleAll_134 : decode b_Clb_settleAll 134 = .ok (.getfield 40, 3) := by decide +kernel
theorem d_Clb_settleAll_137 : decode b_Clb_settleAll 137 = .ok (.ireturn, 1) := by decide +kernel
theorem d_Clb_bonusOf_0 : decode b_Clb_bonusOf 0 = .ok (.aload_n 0, 1) := by decide +kernel
theorem d_Clb_bonusOf_1 : decode b_Clb_bonusOf 1 = .ok (.getfield 12, 3) := by decide +kernel
theorem d_Clb_bonusOf_4 : decode b_Clb_bonusOf 4 = .ok (.invokevirtual 144, 3) := by decide +kernel
theorem d_Clb_bonusOf_7 : decode b_Clb_bonusOf 7 = .ok (.istore_n 2, 1) := by decide +kernel
theorem d_Clb_bonusOf_8 : decode b_Clb_bonusOf 8 = .ok (.iload_n 2, 1) := by decide +kernel
theorem d_Clb_bonusOf_9 : decode b_Clb_bonusOf 9 = .ok (.ifCond .eq 14, 3) := by decide +kernel
theorem d_Clb_bonusOf_12 : decode b_Clb_bonusOf 12 = .ok (.aload_n 0, 1) := by decide +kernel
theorem d_Clb_bonusOf_13 : decode b_Clb_bonusOf 13 = .ok (.getfield 12, 3) := by decide +kernel
theorem d_Clb_bonusOf_16 : decode b_Clb_bonusOf 16 = .ok (.iload_n 1, 1) := by decide +kernel
theorem d_Clb_bonusOf_17 : decode b_Clb_bonusOf 17 = .ok (.invokevirtual 147, 3) := by decide +kernel
theorem d_Clb_bonusOf_20 : decode b_Clb_bonusOf 20 = .ok (.ifCond .ne 5, 3) := by decide +kernel
theorem d_Clb_bonusOf_23 : decode b_Clb_bonusOf 23 = .ok (.iconst 0, 1) := by decide +kernel
theorem d_Clb_bonusOf_24 : decode b_Clb_bonusOf 24 = .ok (.ireturn, 1) := by decide +kernel
theorem d_Clb_bonusOf_25 : decode b_Clb_bonusOf 25 = .ok (.aload_n 0, 1) := by decide +kernel
theorem d_Clb_bonusOf_26 : decode b_Clb_bonusOf 26 = .ok (.getfield 28, 3) := by decide +kernel
theorem d_Clb_bonusOf_29 : decode b_Clb_bonusOf 29 = .ok (.getfield 94, 3) := by decide +kernel
theorem d_Clb_bonusOf_32 : decode b_Clb_bonusOf 32 = .ok (.aload_n 0, 1) := by decide +kernel
theorem d_Clb_bonusOf_33 : decode b_Clb_bonusOf 33 = .ok (.getfield 12, 3) := by decide +kernel
theorem d_Clb_bonusOf_36 : decode b_Clb_bonusOf 36 = .ok (.getfield 78, 3) := by decide +kernel
theorem d_Clb_bonusOf_39 : decode b_Clb_bonusOf 39 = .ok (.iload_n 1, 1) := by decide +kernel
theorem d_Clb_bonusOf_40 : decode b_Clb_bonusOf 40 = .ok (.iaload, 1) := by decide +kernel
theorem d_Clb_bonusOf_41 : decode b_Clb_bonusOf 41 = .ok (.imul, 1) := by decide +kernel
theorem d_Clb_bonusOf_42 : decode b_Clb_bonusOf 42 = .ok (.iload_n 2, 1) := by decide +kernel
theorem d_Clb_bonusOf_43 : decode b_Clb_bonusOf 43 = .ok (.idiv, 1) := by decide +kernel
theorem d_Clb_bonusOf_44 : decode b_Clb_bonusOf 44 = .ok (.ireturn, 1) := by decide +kernel
theorem d_Clb_handOutKind_0 : decode b_Clb_handOutKind 0 = .ok (.iconst 0, 1) := by decide +kernel
theorem d_Clb_handOutKind_1 : decode b_Clb_handOutKind 1 = .ok (.istore_n 2, 1) := by decide +kernel
theorem d_Clb_handOutKind_2 : decode b_Clb_handOutKind 2 = .ok (.iload_n 2, 1) := by decide +kernel
theorem d_Clb_handOutKind_3 : decode b_Clb_handOutKind 3 = .ok (.aload_n 0, 1) := by decide +kernel
theorem d_Clb_handOutKind_4 : decode b_Clb_handOutKind 4 = .ok (.getfield 12, 3) := by decide +kernel
theorem d_Clb_handOutKind_7 : decode b_Clb_handOutKind 7 = .ok (.getfield 56, 3) := by decide +kernel
theorem d_Clb_handOutKind_10 : decode b_Clb_handOutKind 10 = .ok (.if_icmp .ge 39, 3) := by decide +kernel
theorem d_Clb_handOutKind_13 : decode b_Clb_handOutKind 13 = .ok (.aload_n 0, 1) := by decide +kernel
theorem d_Clb_handOutKind_14 : decode b_Clb_handOutKind 14 = .ok (.getfield 21, 3) := by decide +kernel
theorem d_Clb_handOutKind_17 : decode b_Clb_handOutKind 17 = .ok (.getfield 115, 3) := by decide +kernel
theorem d_Clb_handOutKind_20 : decode b_Clb_handOutKind 20 = .ok (.iload_n 2, 1) := by decide +kernel
theorem d_Clb_handOutKind_21 : decode b_Clb_handOutKind 21 = .ok (.iaload, 1) := by decide +kernel
theorem d_Clb_handOutKind_22 : decode b_Clb_handOutKind 22 = .ok (.iload_n 1, 1) := by decide +kernel
theorem d_Clb_handOutKind_23 : decode b_Clb_handOutKind 23 = .ok (.if_icmp .ne 20, 3) := by decide +kernel
theorem d_Clb_handOutKind_26 : decode b_Clb_handOutKind 26 = .ok (.aload_n 0, 1) := by decide +kernel
theorem d_Clb_handOutKind_27 : decode b_Clb_handOutKind 27 = .ok (.getfield 21, 3) := by decide +kernel
theorem d_Clb_handOutKind_30 : decode b_Clb_handOutKind 30 = .ok (.iload_n 2, 1) := by decide +kernel
theorem d_Clb_handOutKind_31 : decode b_Clb_handOutKind 31 = .ok (.invokevirtual 150, 3) := by decide +kernel
theorem d_Clb_handOutKind_34 : decode b_Clb_handOutKind 34 = .ok (.ifCond .eq 9, 3) := by decide +kernel
theorem d_Clb_handOutKind_37 : decode b_Clb_handOutKind 37 = .ok (.aload_n 0, 1) := by decide +kernel
theorem d_Clb_handOutKind_38 : decode b_Clb_handOutKind 38 = .ok (.iload_n 2, 1) := by decide +kernel
theorem d_Clb_handOutKind_39 : decode b_Clb_handOutKind 39 = .ok (.iload_n 1, 1) := by decide +kernel
theorem d_Clb_handOutKind_40 : decode b_Clb_handOutKind 40 = .ok (.invokevirtual 153, 3) := by decide +kernel
theorem d_Clb_handOutKind_43 : decode b_Clb_handOutKind 43 = .ok (.iinc 2 1, 3) := by decide +kernel
theorem d_Clb_handOutKind_46 : decode b_Clb_handOutKind 46 = .ok (.goto (-44), 3) := by decide +kernel
theorem d_Clb_handOutKind_49 : decode b_Clb_handOutKind 49 = .ok (.return_, 1) := by decide +kernel
theorem d_Clb_handOutOne_0 : decode b_Clb_handOutOne 0 = .ok (.aload_n 0, 1) := by decide +kernel
theorem d_Clb_handOutOne_1 : decode b_Clb_handOutOne 1 = .ok (.getfield 21, 3) := by decide +kernel
theorem d_Clb_handOutOne_4 : decode b_Clb_handOutOne 4 = .ok (.getfield 109, 3) := by decide +kernel
theorem d_Clb_handOutOne_7 : decode b_Clb_handOutOne 7 = .ok (.iload_n 2, 1) := by decide +kernel
theorem d_Clb_handOutOne_8 : decode b_Clb_handOutOne 8 = .ok (.iaload, 1) := by decide +kernel
theorem d_Clb_handOutOne_9 : decode b_Clb_handOutOne 9 = .ok (.istore_n 3, 1) := by decide +kernel
theorem d_Clb_handOutOne_10 : decode b_Clb_handOutOne 10 = .ok (.iload_n 1, 1) := by decide +kernel
theorem d_Clb_handOutOne_11 : decode b_Clb_handOutOne 11 = .ok (.istore 4, 2) := by decide +kernel
theorem d_Clb_handOutOne_13 : decode b_Clb_handOutOne 13 = .ok (.iconst 0, 1) := by decide +kernel
theorem d_Clb_handOutOne_14 : decode b_Clb_handOutOne 14 = .ok (.istore 5, 2) := by decide +kernel
theorem d_Clb_handOutOne_16 : decode b_Clb_handOutOne 16 = .ok (.iload 5, 2) := by decide +kernel
theorem d_Clb_handOutOne_18 : decode b_Clb_handOutOne 18 = .ok (.bipush 12, 2) := by decide +kernel
theorem d_Clb_handOutOne_20 : decode b_Clb_handOutOne 20 = .ok (.if_icmp .ge 88, 3) := by decide +kernel
theorem d_Clb_handOutOne_23 : decode b_Clb_handOutOne 23 = .ok (.iload 4, 2) := by decide +kernel
theorem d_Clb_handOutOne_25 : decode b_Clb_handOutOne 25 = .ok (.bipush (-9), 2) := by decide +kernel
theorem d_Clb_handOutOne_27 : decode b_Clb_handOutOne 27 = .ok (.if_icmp .eq 81, 3) := by decide +kernel
theorem d_Clb_handOutOne_30 : decode b_Clb_handOutOne 30 = .ok (.aload_n 0, 1) := by decide +kernel
theorem d_Clb_handOutOne_31 : decode b_Clb_handOutOne 31 = .ok (.getfield 12, 3) := by decide +kernel
theorem d_Clb_handOutOne_34 : decode b_Clb_handOutOne 34 = .ok (.getfield 78, 3) := by decide +kernel
theorem d_Clb_handOutOne_37 : decode b_Clb_handOutOne 37 = .ok (.iload 4, 2) := by decide +kernel
theorem d_Clb_handOutOne_39 : decode b_Clb_handOutOne 39 = .ok (.iaload, 1) := by decide +kernel
theorem d_Clb_handOutOne_40 : decode b_Clb_handOutOne 40 = .ok (.iload_n 3, 1) := by decide +kernel
theorem d_Clb_handOutOne_41 : decode b_Clb_handOutOne 41 = .ok (.if_icmp .lt 49, 3) := by decide +kernel
theorem d_Clb_handOutOne_44 : decode b_Clb_handOutOne 44 = .ok (.aload_n 0, 1) := by decide +kernel
theorem d_Clb_handOutOne_45 : decode b_Clb_handOutOne 45 = .ok (.getfield 12, 3) := by decide +kernel
theorem d_Clb_handOutOne_48 : decode b_Clb_handOutOne 48 = .ok (.getfield 78, 3) := by decide +kernel
theorem d_Clb_handOutOne_51 : decode b_Clb_handOutOne 51 = .ok (.iload 4, 2) := by decide +kernel
theorem d_Clb_handOutOne_53 : decode b_Clb_handOutOne 53 = .ok (.dup2, 1) := by decide +kernel
theorem d_Clb_handOutOne_54 : decode b_Clb_handOutOne 54 = .ok (.iaload, 1) := by decide +kernel
theorem d_Clb_handOutOne_55 : decode b_Clb_handOutOne 55 = .ok (.iload_n 3, 1) := by decide +kernel
theorem d_Clb_handOutOne_56 : decode b_Clb_handOutOne 56 = .ok (.isub, 1) := by decide +kernel
theorem d_Clb_handOutOne_57 : decode b_Clb_handOutOne 57 = .ok (.iastore, 1) := by decide +kernel
theorem d_Clb_handOutOne_58 : decode b_Clb_handOutOne 58 = .ok (.aload_n 0, 1) := by decide +kernel
theorem d_Clb_handOutOne_59 : decode b_Clb_handOutOne 59 = .ok (.getfield 28, 3) := by decide +kernel
theorem d_Clb_handOutOne_62 : decode b_Clb_handOutOne 62 = .ok (.iload_n 3, 1) := by decide +kernel
theorem d_Clb_handOutOne_63 : decode b_Clb_handOutOne 63 = .ok (.bipush 10, 2) := by decide +kernel
theorem d_Clb_handOutOne_65 : decode b_Clb_handOutOne 65 = .ok (.imul, 1) := by decide +kernel
theorem d_Clb_handOutOne_66 : decode b_Clb_handOutOne 66 = .ok (.invokevirtual 156, 3) := by decide +kernel
theorem d_Clb_handOutOne_69 : decode b_Clb_handOutOne 69 = .ok (.aload_n 0, 1) := by decide +kernel
theorem d_Clb_handOutOne_70 : decode b_Clb_handOutOne 70 = .ok (.getfield 21, 3) := by decide +kernel
theorem d_Clb_handOutOne_73 : decode b_Clb_handOutOne 73 = .ok (.iload 4, 2) := by decide +kernel
theorem d_Clb_handOutOne_75 : decode b_Clb_handOutOne 75 = .ok (.iload_n 2, 1) := by decide +kernel
theorem d_Clb_handOutOne_76 : decode b_Clb_handOutOne 76 = .ok (.invokevirtual 159, 3) := by decide +kernel
theorem d_Clb_handOutOne_79 : decode b_Clb_handOutOne 79 = .ok (.aload_n 0, 1) := by decide +kernel
theorem d_Clb_handOutOne_80 : decode b_Clb_handOutOne 80 = .ok (.dup, 1) := by decide +kernel
theorem d_Clb_handOutOne_81 : decode b_Clb_handOutOne 81 = .ok (.getfield 40, 3) := by decide +kernel
theorem d_Clb_handOutOne_84 : decode b_Clb_handOutOne 84 = .ok (.iconst 1, 1) := by decide +kernel
theorem d_Clb_handOutOne_85 : decode b_Clb_handOutOne 85 = .ok (.iadd, 1) := by decide +kernel
theorem d_Clb_handOutOne_86 : decode b_Clb_handOutOne 86 = .ok (.putfield 40, 3) := by decide +kernel
theorem d_Clb_handOutOne_89 : decode b_Clb_handOutOne 89 = .ok (.return_, 1) := by decide +kernel
theorem d_Clb_handOutOne_90 : decode b_Clb_handOutOne 90 = .ok (.aload_n 0, 1) := by decide +kernel
theorem d_Clb_handOutOne_91 : decode b_Clb_handOutOne 91 = .ok (.getfield 21, 3) := by decide +kernel
theorem d_Clb_handOutOne_94 : decode b_Clb_handOutOne 94 = .ok (.iload 4, 2) := by decide +kernel
theorem d_Clb_handOutOne_96 : decode b_Clb_handOutOne 96 = .ok (.iload_n 2, 1) := by decide +kernel
theorem d_Clb_handOutOne_97 : decode b_Clb_handOutOne 97 = .ok (.invokevirtual 118, 3) := by decide +kernel
theorem d_Clb_handOutOne_100 : decode b_Clb_handOutOne 100 = .ok (.istore 4, 2) := by decide +kernel
theorem d_Clb_handOutOne_102 : decode b_Clb_handOutOne 102 = .ok (.iinc 5 1, 3) := by decide +kernel
theorem d_Clb_handOutOne_105 : decode b_Clb_handOutOne 105 = .ok (.goto (-89), 3) := by decide +kernel
theorem d_Clb_handOutOne_108 : decode b_Clb_handOutOne 108 = .ok (.return_, 1) := by decide +kernel
theorem d_Clb_payMember_0 : decode b_Clb_payMember 0 = .ok (.aload_n 0, 1) := by decide +kernel
theorem d_Clb_payMember_1 : decode b_Clb_payMember 1 = .ok (.getfield 28, 3) := by decide +kernel
theorem d_Clb_payMember_4 : decode b_Clb_payMember 4 = .ok (.iload_n 2, 1) := by decide +kernel
theorem d_Clb_payMember_5 : decode b_Clb_payMember 5 = .ok (.invokevirtual 162, 3) := by decide +kernel
theorem d_Clb_payMember_8 : decode b_Clb_payMember 8 = .ok (.aload_n 0, 1) := by decide +kernel
theorem d_Clb_payMember_9 : decode b_Clb_payMember 9 = .ok (.getfield 12, 3) := by decide +kernel
theorem d_Clb_payMember_12 : decode b_Clb_payMember 12 = .ok (.getfield 165, 3) := by decide +kernel
theorem d_Clb_payMember_15 : decode b_Clb_payMember 15 = .ok (.iload_n 1, 1) := by decide +kernel
theorem d_Clb_payMember_16 : decode b_Clb_payMember 16 = .ok (.dup2, 1) := by decide +kernel
theorem d_Clb_payMember_17 : decode b_Clb_payMember 17 = .ok (.iaload, 1) := by decide +kernel
theorem d_Clb_payMember_18 : decode b_Clb_payMember 18 = .ok (.iload_n 2, 1) := by decide +kernel
theorem d_Clb_payMember_19 : decode b_Clb_payMember 19 = .ok (.iadd, 1) := by decide +kernel
theorem d_Clb_payMember_20 : decode b_Clb_payMember 20 = .ok (.iastore, 1) := by decide +kernel
theorem d_Clb_payMember_21 : decode b_Clb_payMember 21 = .ok (.return_, 1) := by decide +kernel
theorem d_Clb_tell_0 : decode b_Clb_tell 0 = .ok (.iload_n 1, 1) := by decide +kernel
theorem d_Clb_tell_1 : decode b_Clb_tell 1 = .ok (.tableswitch 167 0 12 #[67, 72, 80, 93, 101, 109, 117, 125, 133, 141, 146, 154, 162], 67) := by decide +kernel
theorem d_Clb_tell_68 : decode b_Clb_tell 68 = .ok (.aload_n 0, 1) := by decide +kernel
theorem d_Clb_tell_69 : decode b_Clb_tell 69 = .ok (.getfield 32, 3) := by decide +kernel
theorem d_Clb_tell_72 : decode b_Clb_tell 72 = .ok (.ireturn, 1) := by decide +kernel
theorem d_Clb_tell_73 : decode b_Clb_tell 73 = .ok (.aload_n 0, 1) := by decide +kernel
theorem d_Clb_tell_74 : decode b_Clb_tell 74 = .ok (.getfield 12, 3) := by decide +kernel
theorem d_Clb_tell_77 : decode b_Clb_tell 77 = .ok (.getfield 56, 3) := by decide +kernel
theorem d_Clb_tell_80 : decode b_Clb_tell 80 = .ok (.ireturn, 1) := by decide +kernel
theorem d_Clb_tell_81 : decode b_Clb_tell 81 = .ok (.aload_n 0, 1) := by decide +kernel
theorem d_Clb_tell_82 : decode b_Clb_tell 82 = .ok (.getfield 36, 3) := by decide +kernel
theorem d_Clb_tell_85 : decode b_Clb_tell 85 = .ok (.ifCond .eq 7, 3) := by decide +kernel
theorem d_Clb_tell_88 : decode b_Clb_tell 88 = .ok (.iconst 1, 1) := by decide +kernel
theorem d_Clb_tell_89 : decode b_Clb_tell 89 = .ok (.goto 4, 3) := by decide +kernel
theorem d_Clb_tell_92 : decode b_Clb_tell 92 = .ok (.iconst 0, 1) := by decide +kernel
theorem d_Clb_tell_93 : decode b_Clb_tell 93 = .ok (.ireturn, 1) := by decide +kernel
theorem d_Clb_tell_94 : decode b_Clb_tell 94 = .ok (.aload_n 0, 1) := by decide +kernel
theorem d_Clb_tell_95 : decode b_Clb_tell 95 = .ok (.getfield 28, 3) := by decide +kernel
theorem d_Clb_tell_98 : decode b_Clb_tell 98 = .ok (.getfield 168, 3) := by decide +kernel
theorem d_Clb_tell_101 : decode b_Clb_tell 101 = .ok (.ireturn, 1) := by decide +kernel
theorem d_Clb_tell_102 : decode b_Clb_tell 102 = .ok (.aload_n 0, 1) := by decide +kernel
theorem d_Clb_tell_103 : decode b_Clb_tell 103 = .ok (.getfield 28, 3) := by decide +kernel
theorem d_Clb_tell_106 : decode b_Clb_tell 106 = .ok (.getfield 94, 3) := by decide +kernel
theorem d_Clb_tell_109 : decode b_Clb_tell 109 = .ok (.ireturn, 1) := by decide +kernel
theorem d_Clb_tell_110 : decode b_Clb_tell 110 = .ok (.aload_n 0, 1) := by decide +kernel
theorem d_Clb_tell_111 : decode b_Clb_tell 111 = .ok (.getfield 12, 3) := by decide +kernel
theorem d_Clb_tell_114 : decode b_Clb_tell 114 = .ok (.invokevirtual 171, 3) := by decide +kernel
theorem d_Clb_tell_117 : decode b_Clb_tell 117 = .ok (.ireturn, 1) := by decide +kernel
theorem d_Clb_tell_118 : decode b_Clb_tell 118 = .ok (.aload_n 0, 1) := by decide +kernel
theorem d_Clb_tell_119 : decode b_Clb_tell 119 = .ok (.getfield 28, 3) := by decide +kernel
theorem d_Clb_tell_122 : decode b_Clb_tell 122 = .ok (.getfield 174, 3) := by decide +kernel
theorem d_Clb_tell_125 : decode b_Clb_tell 125 = .ok (.ireturn, 1) := by decide +kernel
theorem d_Clb_tell_126 : decode b_Clb_tell 126 = .ok (.aload_n 0, 1) := by decide +kernel
theorem d_Clb_tell_127 : decode b_Clb_tell 127 = .ok (.getfield 28, 3) := by decide +kernel
theorem d_Clb_tell_130 : decode b_Clb_tell 130 = .ok (.getfield 177, 3) := by decide +kernel
theorem d_Clb_tell_133 : decode b_Clb_tell 133 = .ok (.ireturn, 1) := by decide +kernel
theorem d_Clb_tell_134 : decode b_Clb_tell 134 = .ok (.aload_n 0, 1) := by decide +kernel
theorem d_Clb_tell_135 : decode b_Clb_tell 135 = .ok (.getfield 28, 3) := by decide +kernel
theorem d_Clb_tell_138 : decode b_Clb_tell 138 = .ok (.getfield 180, 3) := by decide +kernel
theorem d_Clb_tell_141 : decode b_Clb_tell 141 = .ok (.ireturn, 1) := by decide +kernel
theorem d_Clb_tell_142 : decode b_Clb_tell 142 = .ok (.aload_n 0, 1) := by decide +kernel
theorem d_Clb_tell_143 : decode b_Clb_tell 143 = .ok (.getfield 40, 3) := by decide +kernel
theorem d_Clb_tell_146 : decode b_Clb_tell 146 = .ok (.ireturn, 1) := by decide +kernel
theorem d_Clb_tell_147 : decode b_Clb_tell 147 = .ok (.aload_n 0, 1) := by decide +kernel
theorem d_Clb_tell_148 : decode b_Clb_tell 148 = .ok (.getfield 12, 3) := by decide +kernel
theorem d_Clb_tell_151 : decode b_Clb_tell 151 = .ok (.invokevirtual 183, 3) := by decide +kernel
theorem d_Clb_tell_154 : decode b_Clb_tell 154 = .ok (.ireturn, 1) := by decide +kernel
theorem d_Clb_tell_155 : decode b_Clb_tell 155 = .ok (.aload_n 0, 1) := by decide +kernel
theorem d_Clb_tell_156 : decode b_Clb_tell 156 = .ok (.getfield 12, 3) := by decide +kernel
theorem d_Clb_tell_159 : decode b_Clb_tell 159 = .ok (.invokevirtual 186, 3) := by decide +kernel
theorem d_Clb_tell_162 : decode b_Clb_tell 162 = .ok (.ireturn, 1) := by decide +kernel
theorem d_Clb_tell_163 : decode b_Clb_tell 163 = .ok (.aload_n 0, 1) := by decide +kernel
theorem d_Clb_tell_164 : decode b_Clb_tell 164 = .ok (.getfield 43, 3) := by decide +kernel
theorem d_Clb_tell_167 : decode b_Clb_tell 167 = .ok (.ireturn, 1) := by decide +kernel
theorem d_Clb_tell_168 : decode b_Clb_tell 168 = .ok (.iconst (-1), 1) := by decide +kernel
theorem d_Clb_tell_169 : decode b_Clb_tell 169 = .ok (.ireturn, 1) := by decide +kernel
theorem d_Clb_tellOfMember_0 : decode b_Clb_tellOfMember 0 = .ok (.aload_n 0, 1) := by decide +kernel
theorem d_Clb_tellOfMember_1 : decode b_Clb_tellOfMember 1 = .ok (.getfield 12, 3) := by decide +kernel
theorem d_Clb_tellOfMember_4 : decode b_Clb_tellOfMember 4 = .ok (.iload_n 1, 1) := by decide +kernel
theorem d_Clb_tellOfMember_5 : decode b_Clb_tellOfMember 5 = .ok (.invokevirtual 63, 3) := by decide +kernel
theorem d_Clb_tellOfMember_8 : decode b_Clb_tellOfMember 8 = .ok (.ifCond .ne 5, 3) := by decide +kernel
theorem d_Clb_tellOfMember_11 : decode b_Clb_tellOfMember 11 = .ok (.iconst (-1), 1) := by decide +kernel
theorem d_Clb_tellOfMember_12 : decode b_Clb_tellOfMember 12 = .ok (.ireturn, 1) := by decide +kernel
theorem d_Clb_tellOfMember_13 : decode b_Clb_tellOfMember 13 = .ok (.iload_n 2, 1) := by decide +kernel
theorem d_Clb_tellOfMember_14 : decode b_Clb_tellOfMember 14 = .ok (.tableswitch 181 0 10 #[58, 68, 78, 88, 105, 115, 125, 138, 151, 161, 171], 58) := by decide +kernel
theorem d_Clb_tellOfMember_72 : decode b_Clb_tellOfMember 72 = .ok (.aload_n 0, 1) := by decide +kernel
theorem d_Clb_tellOfMember_73 : decode b_Clb_tellOfMember 73 = .ok (.getfield 12, 3) := by decide +kernel
theorem d_Clb_tellOfMember_76 : decode b_Clb_tellOfMember 76 = .ok (.getfield 78, 3) := by decide +kernel
theorem d_Clb_tellOfMember_79 : decode b_Clb_tellOfMember 79 = .ok (.iload_n 1, 1) := by decide +kernel
theorem d_Clb_tellOfMember_80 : decode b_Clb_tellOfMember 80 = .ok (.iaload, 1) := by decide +kernel
theorem d_Clb_tellOfMember_81 : decode b_Clb_tellOfMember 81 = .ok (.ireturn, 1) := by decide +kernel
theorem d_Clb_tellOfMember_82 : decode b_Clb_tellOfMember 82 = .ok (.aload_n 0, 1) := by decide +kernel
theorem d_Clb_tellOfMember_83 : decode b_Clb_tellOfMember 83 = .ok (.getfield 12, 3) := by decide +kernel
theorem d_Clb_tellOfMember_86 : decode b_Clb_tellOfMember 86 = .ok (.getfield 100, 3) := by decide +kernel
theorem d_Clb_tellOfMember_89 : decode b_Clb_tellOfMember 89 = .ok (.iload_n 1, 1) := by decide +kernel
theorem d_Clb_tellOfMember_90 : decode b_Clb_tellOfMember 90 = .ok (.iaload, 1) := by decide +kernel
theorem d_Clb_tellOfMember_91 : decode b_Clb_tellOfMember 91 = .ok (.ireturn, 1) := by decide +kernel
theorem d_Clb_tellOfMember_92 : decode b_Clb_tellOfMember 92 = .ok (.aload_n 0, 1) := by decide +kernel
theorem d_Clb_tellOfMember_93 : decode b_Clb_tellOfMember 93 = .ok (.getfield 21, 3) := by decide +kernel
theorem d_Clb_tellOfMember_96 : decode b_Clb_tellOfMember 96 = .ok (.getfield 115, 3) := by decide +kernel
theorem d_Clb_tellOfMember_99 : decode b_Clb_tellOfMember 99 = .ok (.iload_n 1, 1) := by decide +kernel
theorem d_Clb_tellOfMember_100 : decode b_Clb_tellOfMember 100 = .ok (.iaload, 1) := by decide +kernel
theorem d_Clb_tellOfMember_101 : decode b_Clb_tellOfMember 101 = .ok (.ireturn, 1) := by decide +kernel
theorem d_Clb_tellOfMember_102 : decode b_Clb_tellOfMember 102 = .ok (.aload_n 0, 1) := by decide +kernel
theorem d_Clb_tellOfMember_103 : decode b_Clb_tellOfMember 103 = .ok (.getfield 21, 3) := by decide +kernel
theorem d_Clb_tellOfMember_106 : decode b_Clb_tellOfMember 106 = .ok (.iload_n 1, 1) := by decide +kernel
theorem d_Clb_tellOfMember_107 : decode b_Clb_tellOfMember 107 = .ok (.invokevirtual 150, 3) := by decide +kernel
theorem d_Clb_tellOfMember_110 : decode b_Clb_tellOfMember 110 = .ok (.ifCond .eq 7, 3) := by decide +kernel
theorem d_Clb_tellOfMember_113 : decode b_Clb_tellOfMember 113 = .ok (.iconst 1, 1) := by decide +kernel
theorem d_Clb_tellOfMember_114 : decode b_Clb_tellOfMember 114 = .ok (.goto 4, 3) := by decide +kernel
theorem d_Clb_tellOfMember_117 : decode b_Clb_tellOfMember 117 = .ok (.iconst 0, 1) := by decide +kernel
theorem d_Clb_tellOfMember_118 : decode b_Clb_tellOfMember 118 = .ok (.ireturn, 1) := by decide +kernel
theorem d_Clb_tellOfMember_119 : decode b_Clb_tellOfMember 119 = .ok (.aload_n 0, 1) := by decide +kernel
theorem d_Clb_tellOfMember_120 : decode b_Clb_tellOfMember 120 = .ok (.getfield 21, 3) := by decide +kernel
theorem d_Clb_tellOfMember_123 : decode b_Clb_tellOfMember 123 = .ok (.getfield 189, 3) := by decide +kernel
theorem d_Clb_tellOfMember_126 : decode b_Clb_tellOfMember 126 = .ok (.iload_n 1, 1) := by decide +kernel
theorem d_Clb_tellOfMember_127 : decode b_Clb_tellOfMember 127 = .ok (.iaload, 1) := by decide +kernel
theorem d_Clb_tellOfMember_128 : decode b_Clb_tellOfMember 128 = .ok (.ireturn, 1) := by decide +kernel
theorem d_Clb_tellOfMember_129 : decode b_Clb_tellOfMember 129 = .ok (.aload_n 0, 1) := by decide +kernel
theorem d_Clb_tellOfMember_130 : decode b_Clb_tellOfMember 130 = .ok (.getfield 12, 3) := by decide +kernel
theorem d_Clb_tellOfMember_133 : decode b_Clb_tellOfMember 133 = .ok (.getfield 91, 3) := by decide +kernel
theorem d_Clb_tellOfMember_136 : decode b_Clb_tellOfMember 136 = .ok (.iload_n 1, 1) := by decide +kernel
theorem d_Clb_tellOfMember_137 : decode b_Clb_tellOfMember 137 = .ok (.iaload, 1) := by decide +kernel
theorem d_Clb_tellOfMember_138 : decode b_Clb_tellOfMember 138 = .ok (.ireturn, 1) := by decide +kernel
theorem d_Clb_tellOfMember_139 : decode b_Clb_tellOfMember 139 = .ok (.aload_n 0, 1) := by decide +kernel
theorem d_Clb_tellOfMember_140 : decode b_Clb_tellOfMember 140 = .ok (.getfield 12, 3) := by decide +kernel
theorem d_Clb_tellOfMember_143 : decode b_Clb_tellOfMember 143 = .ok (.getfield 192, 3) := by decide +kernel
theorem d_Clb_tellOfMember_146 : decode b_Clb_tellOfMember 146 = .ok (.iload_n 1, 1) := by decide +kernel
theorem d_Clb_tellOfMember_147 : decode b_Clb_tellOfMember 147 = .ok (.laload, 1) := by decide +kernel
theorem d_Clb_tellOfMember_148 : decode b_Clb_tellOfMember 148 = .ok (.invokestatic 196, 3) := by decide +kernel
theorem d_Clb_tellOfMember_151 : decode b_Clb_tellOfMember 151 = .ok (.ireturn, 1) := by decide +kernel
theorem d_Clb_tellOfMember_152 : decode b_Clb_tellOfMember 152 = .ok (.aload_n 0, 1) := by decide +kernel
theorem d_Clb_tellOfMember_153 : decode b_Clb_tellOfMember 153 = .ok (.getfield 12, 3) := by decide +kernel
theorem d_Clb_tellOfMember_156 : decode b_Clb_tellOfMember 156 = .ok (.iload_n 1, 1) := by decide +kernel
theorem d_Clb_tellOfMember_157 : decode b_Clb_tellOfMember 157 = .ok (.aload_n 0, 1) := by decide +kernel
theorem d_Clb_tellOfMember_158 : decode b_Clb_tellOfMember 158 = .ok (.getfield 32, 3) := by decide +kernel
theorem d_Clb_tellOfMember_161 : decode b_Clb_tellOfMember 161 = .ok (.invokevirtual 202, 3) := by decide +kernel
theorem d_Clb_tellOfMember_164 : decode b_Clb_tellOfMember 164 = .ok (.ireturn, 1) := by decide +kernel
theorem d_Clb_tellOfMember_165 : decode b_Clb_tellOfMember 165 = .ok (.aload_n 0, 1) := by decide +kernel
theorem d_Clb_tellOfMember_166 : decode b_Clb_tellOfMember 166 = .ok (.getfield 12, 3) := by decide +kernel
theorem d_Clb_tellOfMember_169 : decode b_Clb_tellOfMember 169 = .ok (.getfield 205, 3) := by decide +kernel
theorem d_Clb_tellOfMember_172 : decode b_Clb_tellOfMember 172 = .ok (.iload_n 1, 1) := by decide +kernel
theorem d_Clb_tellOfMember_173 : decode b_Clb_tellOfMember 173 = .ok (.iaload, 1) := by decide +kernel
theorem d_Clb_tellOfMember_174 : decode b_Clb_tellOfMember 174 = .ok (.ireturn, 1) := by decide +kernel
theorem d_Clb_tellOfMember_175 : decode b_Clb_tellOfMember 175 = .ok (.aload_n 0, 1) := by decide +kernel
theorem d_Clb_tellOfMember_176 : decode b_Clb_tellOfMember 176 = .ok (.getfield 12, 3) := by decide +kernel
theorem d_Clb_tellOfMember_179 : decode b_Clb_tellOfMember 179 = .ok (.getfield 165, 3) := by decide +kernel
theorem d_Clb_tellOfMember_182 : decode b_Clb_tellOfMember 182 = .ok (.iload_n 1, 1) := by decide +kernel
theorem d_Clb_tellOfMember_183 : decode b_Clb_tellOfMember 183 = .ok (.iaload, 1) := by decide +kernel
theorem d_Clb_tellOfMember_184 : decode b_Clb_tellOfMember 184 = .ok (.ireturn, 1) := by decide +kernel
theorem d_Clb_tellOfMember_185 : decode b_Clb_tellOfMember 185 = .ok (.aload_n 0, 1) := by decide +kernel
theorem d_Clb_tellOfMember_186 : decode b_Clb_tellOfMember 186 = .ok (.getfield 21, 3) := by decide +kernel
theorem d_Clb_tellOfMember_189 : decode b_Clb_tellOfMember 189 = .ok (.getfield 208, 3) := by decide +kernel
theorem d_Clb_tellOfMember_192 : decode b_Clb_tellOfMember 192 = .ok (.iload_n 1, 1) := by decide +kernel
theorem d_Clb_tellOfMember_193 : decode b_Clb_tellOfMember 193 = .ok (.iaload, 1) := by decide +kernel
theorem d_Clb_tellOfMember_194 : decode b_Clb_tellOfMember 194 = .ok (.ireturn, 1) := by decide +kernel
theorem d_Clb_tellOfMember_195 : decode b_Clb_tellOfMember 195 = .ok (.iconst (-1), 1) := by decide +kernel
theorem d_Clb_tellOfMember_196 : decode b_Clb_tellOfMember 196 = .ok (.ireturn, 1) := by decide +kernel
theorem d_Hmp_init_0 : decode b_Hmp_init 0 = .ok (.aload_n 0, 1) := by decide +kernel
theorem d_Hmp_init_1 : decode b_Hmp_init 1 = .ok (.invokespecial 3, 3) := by decide +kernel
theorem d_Hmp_init_4 : decode b_Hmp_init 4 = .ok (.aload_n 0, 1) := by decide +kernel
theorem d_Hmp_init_5 : decode b_Hmp_init 5 = .ok (.iconst 4, 1) := by decide +kernel
theorem d_Hmp_init_6 : decode b_Hmp_init 6 = .ok (.newarray .int, 2) := by decide +kernel
theorem d_Hmp_init_8 : decode b_Hmp_init 8 = .ok (.putfield 9, 3) := by decide +kernel
theorem d_Hmp_init_11 : decode b_Hmp_init 11 = .ok (.aload_n 0, 1) := by decide +kernel
theorem d_Hmp_init_12 : decode b_Hmp_init 12 = .ok (.iconst 4, 1) := by decide +kernel
theorem d_Hmp_init_13 : decode b_Hmp_init 13 = .ok (.newarray .int, 2) := by decide +kernel
theorem d_Hmp_init_15 : decode b_Hmp_init 15 = .ok (.putfield 15, 3) := by decide +kernel
theorem d_Hmp_init_18 : decode b_Hmp_init 18 = .ok (.aload_n 0, 1) := by decide +kernel
theorem d_Hmp_init_19 : decode b_Hmp_init 19 = .ok (.bipush 12, 2) := by decide +kernel
theorem d_Hmp_init_21 : decode b_Hmp_init 21 = .ok (.newarray .int, 2) := by decide +kernel
theorem d_Hmp_init_23 : decode b_Hmp_init 23 = .ok (.putfield 18, 3) := by decide +kernel
theorem d_Hmp_init_26 : decode b_Hmp_init 26 = .ok (.aload_n 0, 1) := by decide +kernel
theorem d_Hmp_init_27 : decode b_Hmp_init 27 = .ok (.bipush 12, 2) := by decide +kernel
theorem d_Hmp_init_29 : decode b_Hmp_init 29 = .ok (.newarray .int, 2) := by decide +kernel
theorem d_Hmp_init_31 : decode b_Hmp_init 31 = .ok (.putfield 21, 3) := by decide +kernel
theorem d_Hmp_init_34 : decode b_Hmp_init 34 = .ok (.aload_n 0, 1) := by decide +kernel
theorem d_Hmp_init_35 : decode b_Hmp_init 35 = .ok (.bipush 12, 2) := by decide +kernel
theorem d_Hmp_init_37 : decode b_Hmp_init 37 = .ok (.newarray .int, 2) := by decide +kernel
theorem d_Hmp_init_39 : decode b_Hmp_init 39 = .ok (.putfield 24, 3) := by decide +kernel
theorem d_Hmp_init_42 : decode b_Hmp_init 42 = .ok (.getstatic 27, 3) := by decide +kernel
theorem d_Hmp_init_45 : decode b_Hmp_init 45 = .ok (.iconst 0, 1) := by decide +kernel
theorem d_Hmp_init_46 : decode b_Hmp_init 46 = .ok (.aload_n 0, 1) := by decide +kernel
theorem d_Hmp_init_47 : decode b_Hmp_init 47 = .ok (.getfield 9, 3) := by decide +kernel
theorem d_Hmp_init_50 : decode b_Hmp_init 50 = .ok (.iconst 0, 1) := by decide +kernel
theorem d_Hmp_init_51 : decode b_Hmp_init 51 = .ok (.iconst 4, 1) := by decide +kernel
theorem d_Hmp_init_52 : decode b_Hmp_init 52 = .ok (.invokestatic 30, 3) := by decide +kernel
theorem d_Hmp_init_55 : decode b_Hmp_init 55 = .ok (.getstatic 36, 3) := by decide +kernel
theorem d_Hmp_init_58 : decode b_Hmp_init 58 = .ok (.iconst 0, 1) := by decide +kernel
theorem d_Hmp_init_59 : decode b_Hmp_init 59 = .ok (.aload_n 0, 1) := by decide +kernel
theorem d_Hmp_init_60 : decode b_Hmp_init 60 = .ok (.getfield 15, 3) := by decide +kernel
theorem d_Hmp_init_63 : decode b_Hmp_init 63 = .ok (.iconst 0, 1) := by decide +kernel
theorem d_Hmp_init_64 : decode b_Hmp_init 64 = .ok (.iconst 4, 1) := by decide +kernel
theorem d_Hmp_init_65 : decode b_Hmp_init 65 = .ok (.invokestatic 30, 3) := by decide +kernel
theorem d_Hmp_init_68 : decode b_Hmp_init 68 = .ok (.aload_n 0, 1) := by decide +kernel
theorem d_Hmp_init_69 : decode b_Hmp_init 69 = .ok (.getfield 18, 3) := by decide +kernel
theorem d_Hmp_init_72 : decode b_Hmp_init 72 = .ok (.bipush (-9), 2) := by decide +kernel
theorem d_Hmp_init_74 : decode b_Hmp_init 74 = .ok (.invokestatic 39, 3) := by decide +kernel
theorem d_Hmp_init_77 : decode b_Hmp_init 77 = .ok (.aload_n 0, 1) := by decide +kernel
theorem d_Hmp_init_78 : decode b_Hmp_init 78 = .ok (.getfield 24, 3) := by decide +kernel
theorem d_Hmp_init_81 : decode b_Hmp_init 81 = .ok (.bipush (-9), 2) := by decide +kernel
theorem d_Hmp_init_83 : decode b_Hmp_init 83 = .ok (.invokestatic 39, 3) := by decide +kernel
theorem d_Hmp_init_86 : decode b_Hmp_init 86 = .ok (.return_, 1) := by decide +kernel
theorem d_Hmp_copyFrom_0 : decode b_Hmp_copyFrom 0 = .ok (.aload_n 1, 1) := by decide +kernel
theorem d_Hmp_copyFrom_1 : decode b_Hmp_copyFrom 1 = .ok (.getfield 9, 3) := by decide +kernel
theorem d_Hmp_copyFrom_4 : decode b_Hmp_copyFrom 4 = .ok (.iconst 0, 1) := by decide +kernel
theorem d_Hmp_copyFrom_5 : decode b_Hmp_copyFrom 5 = .ok (.aload_n 0, 1) := by decide +kernel
theorem d_Hmp_copyFrom_6 : decode b_Hmp_copyFrom 6 = .ok (.getfield 9, 3) := by decide +kernel
theorem d_Hmp_copyFrom_9 : decode b_Hmp_copyFrom 9 = .ok (.iconst 0, 1) := by decide +kernel
theorem d_Hmp_copyFrom_10 : decode b_Hmp_copyFrom 10 = .ok (.iconst 4, 1) := by decide +kernel
theorem d_Hmp_copyFrom_11 : decode b_Hmp_copyFrom 11 = .ok (.invokestatic 30, 3) := by decide +kernel
theorem d_Hmp_copyFrom_14 : decode b_Hmp_copyFrom 14 = .ok (.aload_n 1, 1) := by decide +kernel
theorem d_Hmp_copyFrom_15 : decode b_Hmp_copyFrom 15 = .ok (.getfield 15, 3) := by decide +kernel
theorem d_Hmp_copyFrom_18 : decode b_Hmp_copyFrom 18 = .ok (.iconst 0, 1) := by decide +kernel
theorem d_Hmp_copyFrom_19 : decode b_Hmp_copyFrom 19 = .ok (.aload_n 0, 1) := by decide +kernel
theorem d_Hmp_copyFrom_20 : decode b_Hmp_copyFrom 20 = .ok (.getfield 15, 3) := by decide +kernel
theorem d_Hmp_copyFrom_23 : decode b_Hmp_copyFrom 23 = .ok (.iconst 0, 1) := by decide +kernel
theorem d_Hmp_copyFrom_24 : decode b_Hmp_copyFrom 24 = .ok (.iconst 4, 1) := by decide +kernel
theorem d_Hmp_copyFrom_25 : decode b_Hmp_copyFrom 25 = .ok (.invokestatic 30, 3) := by decide +kernel
theorem d_Hmp_copyFrom_28 : decode b_Hmp_copyFrom 28 = .ok (.aload_n 1, 1) := by decide +kernel
theorem d_Hmp_copyFrom_29 : decode b_Hmp_copyFrom 29 = .ok (.getfield 18, 3) := by decide +kernel
theorem d_Hmp_copyFrom_32 : decode b_Hmp_copyFrom 32 = .ok (.iconst 0, 1) := by decide +kernel
theorem d_Hmp_copyFrom_33 : decode b_Hmp_copyFrom 33 = .ok (.aload_n 0, 1) := by decide +kernel
theorem d_Hmp_copyFrom_34 : decode b_Hmp_copyFrom 34 = .ok (.getfield 18, 3) := by decide +kernel
theorem d_Hmp_copyFrom_37 : decode b_Hmp_copyFrom 37 = .ok (.iconst 0, 1) := by decide +kernel
theorem d_Hmp_copyFrom_38 : decode b_Hmp_copyFrom 38 = .ok (.bipush 12, 2) := by decide +kernel
theorem d_Hmp_copyFrom_40 : decode b_Hmp_copyFrom 40 = .ok (.invokestatic 30, 3) := by decide +kernel
theorem d_Hmp_copyFrom_43 : decode b_Hmp_copyFrom 43 = .ok (.aload_n 1, 1) := by decide +kernel
theorem d_Hmp_copyFrom_44 : decode b_Hmp_copyFrom 44 = .ok (.getfield 21, 3) := by decide +kernel
theorem d_Hmp_copyFrom_47 : decode b_Hmp_copyFrom 47 = .ok (.iconst 0, 1) := by decide +kernel
theorem d_Hmp_copyFrom_48 : decode b_Hmp_copyFrom 48 = .ok (.aload_n 0, 1) := by decide +kernel
theorem d_Hmp_copyFrom_49 : decode b_Hmp_copyFrom 49 = .ok (.getfield 21, 3) := by decide +kernel
theorem d_Hmp_copyFrom_52 : decode b_Hmp_copyFrom 52 = .ok (.iconst 0, 1) := by decide +kernel
theorem d_Hmp_copyFrom_53 : decode b_Hmp_copyFrom 53 = .ok (.bipush 12, 2) := by decide +kernel
theorem d_Hmp_copyFrom_55 : decode b_Hmp_copyFrom 55 = .ok (.invokestatic 30, 3) := by decide +kernel
theorem d_Hmp_copyFrom_58 : decode b_Hmp_copyFrom 58 = .ok (.aload_n 1, 1) := by decide +kernel
theorem d_Hmp_copyFrom_59 : decode b_Hmp_copyFrom 59 = .ok (.getfield 24, 3) := by decide +kernel
theorem d_Hmp_copyFrom_62 : decode b_Hmp_copyFrom 62 = .ok (.iconst 0, 1) := by decide +kernel
theorem d_Hmp_copyFrom_63 : decode b_Hmp_copyFrom 63 = .ok (.aload_n 0, 1) := by decide +kernel
theorem d_Hmp_copyFrom_64 : decode b_Hmp_copyFrom 64 = .ok (.getfield 24, 3) := by decide +kernel
theorem d_Hmp_copyFrom_67 : decode b_Hmp_copyFrom 67 = .ok (.iconst 0, 1) := by decide +kernel
theorem d_Hmp_copyFrom_68 : decode b_Hmp_copyFrom 68 = .ok (.bipush 12, 2) := by decide +kernel
theorem d_Hmp_copyFrom_70 : decode b_Hmp_copyFrom 70 = .ok (.invokestatic 30, 3) := by decide +kernel
theorem d_Hmp_copyFrom_73 : decode b_Hmp_copyFrom 73 = .ok (.return_, 1) := by decide +kernel
theorem d_Hmp_hasOneKept_0 : decode b_Hmp_hasOneKept 0 = .ok (.aload_n 0, 1) := by decide +kernel
theorem d_Hmp_hasOneKept_1 : decode b_Hmp_hasOneKept 1 = .ok (.getfield 18, 3) := by decide +kernel
theorem d_Hmp_hasOneKept_4 : decode b_Hmp_hasOneKept 4 = .ok (.iload_n 1, 1) := by decide +kernel
theorem d_Hmp_hasOneKept_5 : decode b_Hmp_hasOneKept 5 = .ok (.iaload, 1) := by decide +kernel
theorem d_Hmp_hasOneKept_6 : decode b_Hmp_hasOneKept 6 = .ok (.bipush (-9), 2) := by decide +kernel
theorem d_Hmp_hasOneKept_8 : decode b_Hmp_hasOneKept 8 = .ok (.if_icmp .eq 16, 3) := by decide +kernel
theorem d_Hmp_hasOneKept_11 : decode b_Hmp_hasOneKept 11 = .ok (.aload_n 0, 1) := by decide +kernel
theorem d_Hmp_hasOneKept_12 : decode b_Hmp_hasOneKept 12 = .ok (.getfield 21, 3) := by decide +kernel
theorem d_Hmp_hasOneKept_15 : decode b_Hmp_hasOneKept 15 = .ok (.iload_n 1, 1) := by decide +kernel
theorem d_Hmp_hasOneKept_16 : decode b_Hmp_hasOneKept 16 = .ok (.iaload, 1) := by decide +kernel
theorem d_Hmp_hasOneKept_17 : decode b_Hmp_hasOneKept 17 = .ok (.ifCond .ne 7, 3) := by decide +kernel
theorem d_Hmp_hasOneKept_20 : decode b_Hmp_hasOneKept 20 = .ok (.iconst 1, 1) := by decide +kernel
theorem d_Hmp_hasOneKept_21 : decode b_Hmp_hasOneKept 21 = .ok (.goto 4, 3) := by decide +kernel
theorem d_Hmp_hasOneKept_24 : decode b_Hmp_hasOneKept 24 = .ok (.iconst 0, 1) := by decide +kernel
theorem d_Hmp_hasOneKept_25 : decode b_Hmp_hasOneKept 25 = .ok (.ireturn, 1) := by decide +kernel
theorem d_Hmp_keptOf_0 : decode b_Hmp_keptOf 0 = .ok (.iconst 0, 1) := by decide +kernel
theorem d_Hmp_keptOf_1 : decode b_Hmp_keptOf 1 = .ok (.istore_n 2, 1) := by decide +kernel
theorem d_Hmp_keptOf_2 : decode b_Hmp_keptOf 2 = .ok (.iconst 0, 1) := by decide +kernel
theorem d_Hmp_keptOf_3 : decode b_Hmp_keptOf 3 = .ok (.istore_n 3, 1) := by decide +kernel
theorem d_Hmp_keptOf_4 : decode b_Hmp_keptOf 4 = .ok (.iload_n 3, 1) := by decide +kernel
theorem d_Hmp_keptOf_5 : decode b_Hmp_keptOf 5 = .ok (.bipush 12, 2) := by decide +kernel
theorem d_Hmp_keptOf_7 : decode b_Hmp_keptOf 7 = .ok (.if_icmp .ge 36, 3) := by decide +kernel
theorem d_Hmp_keptOf_10 : decode b_Hmp_keptOf 10 = .ok (.iload_n 2, 1) := by decide +kernel
theorem d_Hmp_keptOf_11 : decode b_Hmp_keptOf 11 = .ok (.aload_n 0, 1) := by decide +kernel
theorem d_Hmp_keptOf_12 : decode b_Hmp_keptOf 12 = .ok (.getfield 18, 3) := by decide +kernel
theorem d_Hmp_keptOf_15 : decode b_Hmp_keptOf 15 = .ok (.iload_n 3, 1) := by decide +kernel
theorem d_Hmp_keptOf_16 : decode b_Hmp_keptOf 16 = .ok (.iaload, 1) := by decide +kernel
theorem d_Hmp_keptOf_17 : decode b_Hmp_keptOf 17 = .ok (.iload_n 1, 1) := by decide +kernel
theorem d_Hmp_keptOf_18 : decode b_Hmp_keptOf 18 = .ok (.if_icmp .ne 16, 3) := by decide +kernel
theorem d_Hmp_keptOf_21 : decode b_Hmp_keptOf 21 = .ok (.aload_n 0, 1) := by decide +kernel
theorem d_Hmp_keptOf_22 : decode b_Hmp_keptOf 22 = .ok (.getfield 21, 3) := by decide +kernel
theorem d_Hmp_keptOf_25 : decode b_Hmp_keptOf 25 = .ok (.iload_n 3, 1) := by decide +kernel
theorem d_Hmp_keptOf_26 : decode b_Hmp_keptOf 26 = .ok (.iaload, 1) := by decide +kernel
theorem d_Hmp_keptOf_27 : decode b_Hmp_keptOf 27 = .ok (.ifCond .ne 7, 3) := by decide +kernel
theorem d_Hmp_keptOf_30 : decode b_Hmp_keptOf 30 = .ok (.iconst 1, 1) := by decide +kernel
theorem d_Hmp_keptOf_31 : decode b_Hmp_keptOf 31 = .ok (.goto 4, 3) := by decide +kernel
theorem d_Hmp_keptOf_34 : decode b_Hmp_keptOf 34 = .ok (.iconst 0, 1) := by decide +kernel
theorem d_Hmp_keptOf_35 : decode b_Hmp_keptOf 35 = .ok (.iadd, 1) := by decide +kernel
theorem d_Hmp_keptOf_36 : decode b_Hmp_keptOf 36 = .ok (.istore_n 2, 1) := by decide +kernel
theorem d_Hmp_keptOf_37 : decode b_Hmp_keptOf 37 = .ok (.iinc 3 1, 3) := by decide +kernel
theorem d_Hmp_keptOf_40 : decode b_Hmp_keptOf 40 = .ok (.goto (-36), 3) := by decide +kernel
theorem d_Hmp_keptOf_43 : decode b_Hmp_keptOf 43 = .ok (.iload_n 2, 1) := by decide +kernel
theorem d_Hmp_keptOf_44 : decode b_Hmp_keptOf 44 = .ok (.ireturn, 1) := by decide +kernel
theorem d_Hmp_rowLength_0 : decode b_Hmp_rowLength 0 = .ok (.iconst 0, 1) := by decide +kernel
theorem d_Hmp_rowLength_1 : decode b_Hmp_rowLength 1 = .ok (.istore_n 2, 1) := by decide +kernel
theorem d_Hmp_rowLength_2 : decode b_Hmp_rowLength 2 = .ok (.iconst 0, 1) := by decide +kernel
theorem d_Hmp_rowLength_3 : decode b_Hmp_rowLength 3 = .ok (.istore_n 3, 1) := by decide +kernel
theorem d_Hmp_rowLength_4 : decode b_Hmp_rowLength 4 = .ok (.iload_n 3, 1) := by decide +kernel
theorem d_Hmp_rowLength_5 : decode b_Hmp_rowLength 5 = .ok (.bipush 12, 2) := by decide +kernel
theorem d_Hmp_rowLength_7 : decode b_Hmp_rowLength 7 = .ok (.if_icmp .ge 36, 3) := by decide +kernel
theorem d_Hmp_rowLength_10 : decode b_Hmp_rowLength 10 = .ok (.iload_n 2, 1) := by decide +kernel
theorem d_Hmp_rowLength_11 : decode b_Hmp_rowLength 11 = .ok (.aload_n 0, 1) := by decide +kernel
theorem d_Hmp_rowLength_12 : decode b_Hmp_rowLength 12 = .ok (.getfield 18, 3) := by decide +kernel
theorem d_Hmp_rowLength_15 : decode b_Hmp_rowLength 15 = .ok (.iload_n 3, 1) := by decide +kernel
theorem d_Hmp_rowLength_16 : decode b_Hmp_rowLength 16 = .ok (.iaload, 1) := by decide +kernel
theorem d_Hmp_rowLength_17 : decode b_Hmp_rowLength 17 = .ok (.iload_n 1, 1) := by decide +kernel
theorem d_Hmp_rowLength_18 : decode b_Hmp_rowLength 18 = .ok (.if_icmp .ne 16, 3) := by decide +kernel
theorem d_Hmp_rowLength_21 : decode b_Hmp_rowLength 21 = .ok (.aload_n 0, 1) := by decide +kernel
theorem d_Hmp_rowLength_22 : decode b_Hmp_rowLength 22 = .ok (.getfield 21, 3) := by decide +kernel
theorem d_Hmp_rowLength_25 : decode b_Hmp_rowLength 25 = .ok (.iload_n 3, 1) := by decide +kernel
theorem d_Hmp_rowLength_26 : decode b_Hmp_rowLength 26 = .ok (.iaload, 1) := by decide +kernel
theorem d_Hmp_rowLength_27 : decode b_Hmp_rowLength 27 = .ok (.ifCond .le 7, 3) := by decide +kernel
theorem d_Hmp_rowLength_30 : decode b_Hmp_rowLength 30 = .ok (.iconst 1, 1) := by decide +kernel
theorem d_Hmp_rowLength_31 : decode b_Hmp_rowLength 31 = .ok (.goto 4, 3) := by decide +kernel
theorem d_Hmp_rowLength_34 : decode b_Hmp_rowLength 34 = .ok (.iconst 0, 1) := by decide +kernel
theorem d_Hmp_rowLength_35 : decode b_Hmp_rowLength 35 = .ok (.iadd, 1) := by decide +kernel
theorem d_Hmp_rowLength_36 : decode b_Hmp_rowLength 36 = .ok (.istore_n 2, 1) := by decide +kernel
theorem d_Hmp_rowLength_37 : decode b_Hmp_rowLength 37 = .ok (.iinc 3 1, 3) := by decide +kernel
theorem d_Hmp_rowLength_40 : decode b_Hmp_rowLength 40 = .ok (.goto (-36), 3) := by decide +kernel
theorem d_Hmp_rowLength_43 : decode b_Hmp_rowLength 43 = .ok (.iload_n 2, 1) := by decide +kernel
theorem d_Hmp_rowLength_44 : decode b_Hmp_rowLength 44 = .ok (.ireturn, 1) := by decide +kernel
theorem d_Hmp_memberInRow_0 : decode b_Hmp_memberInRow 0 = .ok (.iconst 0, 1) := by decide +kernel
theorem d_Hmp_memberInRow_1 : decode b_Hmp_memberInRow 1 = .ok (.istore_n 3, 1) := by decide +kernel
theorem d_Hmp_memberInRow_2 : decode b_Hmp_memberInRow 2 = .ok (.iload_n 3, 1) := by decide +kernel
theorem d_Hmp_memberInRow_3 : decode b_Hmp_memberInRow 3 = .ok (.bipush 12, 2) := by decide +kernel
theorem d_Hmp_memberInRow_5 : decode b_Hmp_memberInRow 5 = .ok (.if_icmp .ge 42, 3) := by decide +kernel
theorem d_Hmp_memberInRow_8 : decode b_Hmp_memberInRow 8 = .ok (.aload_n 0, 1) := by decide +kernel
theorem d_Hmp_memberInRow_9 : decode b_Hmp_memberInRow 9 = .ok (.getfield 18, 3) := by decide +kernel
theorem d_Hmp_memberInRow_12 : decode b_Hmp_memberInRow 12 = .ok (.iload_n 3, 1) := by decide +kernel
theorem d_Hmp_memberInRow_13 : decode b_Hmp_memberInRow 13 = .ok (.iaload, 1) := by decide +kernel
theorem d_Hmp_memberInRow_14 : decode b_Hmp_memberInRow 14 = .ok (.iload_n 1, 1) := by decide +kernel
theorem d_Hmp_memberInRow_15 : decode b_Hmp_memberInRow 15 = .ok (.if_icmp .ne 26, 3) := by decide +kernel
theorem d_Hmp_memberInRow_18 : decode b_Hmp_memberInRow 18 = .ok (.aload_n 0, 1) := by decide +kernel
theorem d_Hmp_memberInRow_19 : decode b_Hmp_memberInRow 19 = .ok (.getfield 21, 3) := by decide +kernel
theorem d_Hmp_memberInRow_22 : decode b_Hmp_memberInRow 22 = .ok (.iload_n 3, 1) := by decide +kernel
theorem d_Hmp_memberInRow_23 : decode b_Hmp_memberInRow 23 = .ok (.iaload, 1) := by decide +kernel
theorem d_Hmp_memberInRow_24 : decode b_Hmp_memberInRow 24 = .ok (.ifCond .le 17, 3) := by decide +kernel
theorem d_Hmp_memberInRow_27 : decode b_Hmp_memberInRow 27 = .ok (.aload_n 0, 1) := by decide +kernel
theorem d_Hmp_memberInRow_28 : decode b_Hmp_memberInRow 28 = .ok (.getfield 21, 3) := by decide +kernel
theorem d_Hmp_memberInRow_31 : decode b_Hmp_memberInRow 31 = .ok (.iload_n 3, 1) := by decide +kernel
theorem d_Hmp_memberInRow_32 : decode b_Hmp_memberInRow 32 = .ok (.iaload, 1) := by decide +kernel
theorem d_Hmp_memberInRow_33 : decode b_Hmp_memberInRow 33 = .ok (.iconst 1, 1) := by decide +kernel
theorem d_Hmp_memberInRow_34 : decode b_Hmp_memberInRow 34 = .ok (.isub, 1) := by decide +kernel
theorem d_Hmp_memberInRow_35 : decode b_Hmp_memberInRow 35 = .ok (.iload_n 2, 1) := by decide +kernel
theorem d_Hmp_memberInRow_36 : decode b_Hmp_memberInRow 36 = .ok (.if_icmp .ne 5, 3) := by decide +kernel
theorem d_Hmp_memberInRow_39 : decode b_Hmp_memberInRow 39 = .ok (.iload_n 3, 1) := by decide +kernel
theorem d_Hmp_memberInRow_40 : decode b_Hmp_memberInRow 40 = .ok (.ireturn, 1) := by decide +kernel
theorem d_Hmp_memberInRow_41 : decode b_Hmp_memberInRow 41 = .ok (.iinc 3 1, 3) := by decide +kernel
theorem d_Hmp_memberInRow_44 : decode b_Hmp_memberInRow 44 = .ok (.goto (-42), 3) := by decide +kernel
theorem d_Hmp_memberInRow_47 : decode b_Hmp_memberInRow 47 = .ok (.bipush (-9), 2) := by decide +kernel
theorem d_Hmp_memberInRow_49 : decode b_Hmp_memberInRow 49 = .ok (.ireturn, 1) := by decide +kernel
theorem d_Hmp_tell_0 : decode b_Hmp_tell 0 = .ok (.iload_n 1, 1) := by decide +kernel
theorem d_Hmp_tell_1 : decode b_Hmp_tell 1 = .ok (.invokestatic 45, 3) := by decide +kernel
theorem d_Hmp_tell_4 : decode b_Hmp_tell 4 = .ok (.ifCond .ne 5, 3) := by decide +kernel
theorem d_Hmp_tell_7 : decode b_Hmp_tell 7 = .ok (.iconst (-1), 1) := by decide +kernel
theorem d_Hmp_tell_8 : decode b_Hmp_tell 8 = .ok (.ireturn, 1) := by decide +kernel
theorem d_Hmp_tell_9 : decode b_Hmp_tell 9 = .ok (.iload_n 2, 1) := by decide +kernel
theorem d_Hmp_tell_10 : decode b_Hmp_tell 10 = .ok (.tableswitch 56 0 3 #[30, 37, 44, 50], 30) := by decide +kernel
theorem d_Hmp_tell_40 : decode b_Hmp_tell 40 = .ok (.aload_n 0, 1) := by decide +kernel
theorem d_Hmp_tell_41 : decode b_Hmp_tell 41 = .ok (.getfield 9, 3) := by decide +kernel
theorem d_Hmp_tell_44 : decode b_Hmp_tell 44 = .ok (.iload_n 1, 1) := by decide +kernel
theorem d_Hmp_tell_45 : decode b_Hmp_tell 45 = .ok (.iaload, 1) := by decide +kernel
theorem d_Hmp_tell_46 : decode b_Hmp_tell 46 = .ok (.ireturn, 1) := by decide +kernel
theorem d_Hmp_tell_47 : decode b_Hmp_tell 47 = .ok (.aload_n 0, 1) := by decide +kernel
theorem d_Hmp_tell_48 : decode b_Hmp_tell 48 = .ok (.getfield 15, 3) := by decide +kernel
theorem d_Hmp_tell_51 : decode b_Hmp_tell 51 = .ok (.iload_n 1, 1) := by decide +kernel
theorem d_Hmp_tell_52 : decode b_Hmp_tell 52 = .ok (.iaload, 1) := by decide +kernel
theorem d_Hmp_tell_53 : decode b_Hmp_tell 53 = .ok (.ireturn, 1) := by decide +kernel
theorem d_Hmp_tell_54 : decode b_Hmp_tell 54 = .ok (.aload_n 0, 1) := by decide +kernel
theorem d_Hmp_tell_55 : decode b_Hmp_tell 55 = .ok (.iload_n 1, 1) := by decide +kernel
theorem d_Hmp_tell_56 : decode b_Hmp_tell 56 = .ok (.invokevirtual 49, 3) := by decide +kernel
theorem d_Hmp_tell_59 : decode b_Hmp_tell 59 = .ok (.ireturn, 1) := by decide +kernel
theorem d_Hmp_tell_60 : decode b_Hmp_tell 60 = .ok (.aload_n 0, 1) := by decide +kernel
theorem d_Hmp_tell_61 : decode b_Hmp_tell 61 = .ok (.iload_n 1, 1) := by decide +kernel
theorem d_Hmp_tell_62 : decode b_Hmp_tell 62 = .ok (.invokevirtual 53, 3) := by decide +kernel
theorem d_Hmp_tell_65 : decode b_Hmp_tell 65 = .ok (.ireturn, 1) := by decide +kernel
theorem d_Hmp_tell_66 : decode b_Hmp_tell 66 = .ok (.iconst (-1), 1) := by decide +kernel
theorem d_Hmp_tell_67 : decode b_Hmp_tell 67 = .ok (.ireturn, 1) := by decide +kernel
theorem d_Hmp_put_0 : decode b_Hmp_put 0 = .ok (.iconst 0, 1) := by decide +kernel
theorem d_Hmp_put_1 : decode b_Hmp_put 1 = .ok (.istore_n 3, 1) := by decide +kernel
theorem d_Hmp_put_2 : decode b_Hmp_put 2 = .ok (.aload_n 0, 1) := by decide +kernel
theorem d_Hmp_put_3 : decode b_Hmp_put 3 = .ok (.getfield 15, 3) := by decide +kernel
theorem d_Hmp_put_6 : decode b_Hmp_put 6 = .ok (.iload_n 2, 1) := by decide +kernel
theorem d_Hmp_put_7 : decode b_Hmp_put 7 = .ok (.iaload, 1) := by decide +kernel
theorem d_Hmp_put_8 : decode b_Hmp_put 8 = .ok (.ifCond .le 16, 3) := by decide +kernel
theorem d_Hmp_put_11 : decode b_Hmp_put 11 = .ok (.aload_n 0, 1) := by decide +kernel
theorem d_Hmp_put_12 : decode b_Hmp_put 12 = .ok (.getfield 15, 3) := by decide +kernel
theorem d_Hmp_put_15 : decode b_Hmp_put 15 = .ok (.iload_n 2, 1) := by decide +kernel
theorem d_Hmp_put_16 : decode b_Hmp_put 16 = .ok (.dup2, 1) := by decide +kernel
theorem d_Hmp_put_17 : decode b_Hmp_put 17 = .ok (.iaload, 1) := by decide +kernel
theorem d_Hmp_put_18 : decode b_Hmp_put 18 = .ok (.iconst 1, 1) := by decide +kernel
theorem d_Hmp_put_19 : decode b_Hmp_put 19 = .ok (.isub, 1) := by decide +kernel
theorem d_Hmp_put_20 : decode b_Hmp_put 20 = .ok (.iastore, 1) := by decide +kernel
theorem d_Hmp_put_21 : decode b_Hmp_put 21 = .ok (.goto 11, 3) := by decide +kernel
theorem d_Hmp_put_24 : decode b_Hmp_put 24 = .ok (.aload_n 0, 1) := by decide +kernel
theorem d_Hmp_put_25 : decode b_Hmp_put 25 = .ok (.iload_n 2, 1) := by decide +kernel
theorem d_Hmp_put_26 : decode b_Hmp_put 26 = .ok (.invokevirtual 53, 3) := by decide +kernel
theorem d_Hmp_put_29 : decode b_Hmp_put 29 = .ok (.iconst 1, 1) := by decide +kernel
theorem d_Hmp_put_30 : decode b_Hmp_put 30 = .ok (.iadd, 1) := by decide +kernel
theorem d_Hmp_put_31 : decode b_Hmp_put 31 = .ok (.istore_n 3, 1) := by decide +kernel
theorem d_Hmp_put_32 : decode b_Hmp_put 32 = .ok (.aload_n 0, 1) := by decide +kernel
theorem d_Hmp_put_33 : decode b_Hmp_put 33 = .ok (.getfield 18, 3) := by decide +kernel
theorem d_Hmp_put_36 : decode b_Hmp_put 36 = .ok (.iload_n 1, 1) := by decide +kernel
theorem d_Hmp_put_37 : decode b_Hmp_put 37 = .ok (.iload_n 2, 1) := by decide +kernel
theorem d_Hmp_put_38 : decode b_Hmp_put 38 = .ok (.iastore, 1) := by decide +kernel
theorem d_Hmp_put_39 : decode b_Hmp_put 39 = .ok (.aload_n 0, 1) := by decide +kernel
theorem d_Hmp_put_40 : decode b_Hmp_put 40 = .ok (.getfield 21, 3) := by decide +kernel
theorem d_Hmp_put_43 : decode b_Hmp_put 43 = .ok (.iload_n 1, 1) := by decide +kernel
theorem d_Hmp_put_44 : decode b_Hmp_put 44 = .ok (.iload_n 3, 1) := by decide +kernel
theorem d_Hmp_put_45 : decode b_Hmp_put 45 = .ok (.iastore, 1) := by decide +kernel
theorem d_Hmp_put_46 : decode b_Hmp_put 46 = .ok (.iload_n 3, 1) := by decide +kernel
theorem d_Hmp_put_47 : decode b_Hmp_put 47 = .ok (.ireturn, 1) := by decide +kernel
theorem d_Hmp_drop_0 : decode b_Hmp_drop 0 = .ok (.aload_n 0, 1) := by decide +kernel
theorem d_Hmp_drop_1 : decode b_Hmp_drop 1 = .ok (.getfield 21, 3) := by decide +kernel
theorem d_Hmp_drop_4 : decode b_Hmp_drop 4 = .ok (.iload_n 1, 1) := by decide +kernel
theorem d_Hmp_drop_5 : decode b_Hmp_drop 5 = .ok (.iaload, 1) := by decide +kernel
theorem d_Hmp_drop_6 : decode b_Hmp_drop 6 = .ok (.istore_n 3, 1) := by decide +kernel
theorem d_Hmp_drop_7 : decode b_Hmp_drop 7 = .ok (.iload_n 3, 1) := by decide +kernel
theorem d_Hmp_drop_8 : decode b_Hmp_drop 8 = .ok (.ifCond .ne 12, 3) := by decide +kernel
theorem d_Hmp_drop_11 : decode b_Hmp_drop 11 = .ok (.aload_n 0, 1) := by decide +kernel
theorem d_Hmp_drop_12 : decode b_Hmp_drop 12 = .ok (.iload_n 2, 1) := by decide +kernel
theorem d_Hmp_drop_13 : decode b_Hmp_drop 13 = .ok (.iconst 0, 1) := by decide +kernel
theorem d_Hmp_drop_14 : decode b_Hmp_drop 14 = .ok (.invokevirtual 56, 3) := by decide +kernel
theorem d_Hmp_drop_17 : decode b_Hmp_drop 17 = .ok (.goto 5, 3) := by decide +kernel
theorem d_Hmp_drop_20 : decode b_Hmp_drop 20 = .ok (.bipush (-9), 2) := by decide +kernel
theorem d_Hmp_drop_22 : decode b_Hmp_drop 22 = .ok (.istore 4, 2) := by decide +kernel
theorem d_Hmp_drop_24 : decode b_Hmp_drop 24 = .ok (.aload_n 0, 1) := by decide +kernel
theorem d_Hmp_drop_25 : decode b_Hmp_drop 25 = .ok (.getfield 18, 3) := by decide +kernel
theorem d_Hmp_drop_28 : decode b_Hmp_drop 28 = .ok (.iload_n 1, 1) := by decide +kernel
theorem d_Hmp_drop_29 : decode b_Hmp_drop 29 = .ok (.bipush (-9), 2) := by decide +kernel
theorem d_Hmp_drop_31 : decode b_Hmp_drop 31 = .ok (.iastore, 1) := by decide +kernel
theorem d_Hmp_drop_32 : decode b_Hmp_drop 32 = .ok (.aload_n 0, 1) := by decide +kernel
theorem d_Hmp_drop_33 : decode b_Hmp_drop 33 = .ok (.getfield 21, 3) := by decide +kernel
theorem d_Hmp_drop_36 : decode b_Hmp_drop 36 = .ok (.iload_n 1, 1) := by decide +kernel
theorem d_Hmp_drop_37 : decode b_Hmp_drop 37 = .ok (.iconst 0, 1) := by decide +kernel
theorem d_Hmp_drop_38 : decode b_Hmp_drop 38 = .ok (.iastore, 1) := by decide +kernel
theorem d_Hmp_drop_39 : decode b_Hmp_drop 39 = .ok (.iconst 0, 1) := by decide +kernel
theorem d_Hmp_drop_40 : decode b_Hmp_drop 40 = .ok (.istore 5, 2) := by decide +kernel
theorem d_Hmp_drop_42 : decode b_Hmp_drop 42 = .ok (.iload 5, 2) := by decide +kernel
theorem d_Hmp_drop_44 : decode b_Hmp_drop 44 = .ok (.bipush 12, 2) := by decide +kernel
theorem d_Hmp_drop_46 : decode b_Hmp_drop 46 = .ok (.if_icmp .ge 42, 3) := by decide +kernel
theorem d_Hmp_drop_49 : decode b_Hmp_drop 49 = .ok (.aload_n 0, 1) := by decide +kernel
theorem d_Hmp_drop_50 : decode b_Hmp_drop 50 = .ok (.getfield 18, 3) := by decide +kernel
theorem d_Hmp_drop_53 : decode b_Hmp_drop 53 = .ok (.iload 5, 2) := by decide +kernel
theorem d_Hmp_drop_55 : decode b_Hmp_drop 55 = .ok (.iaload, 1) := by decide +kernel
theorem d_Hmp_drop_56 : decode b_Hmp_drop 56 = .ok (.iload_n 2, 1) := by decide +kernel
theorem d_Hmp_drop_57 : decode b_Hmp_drop 57 = .ok (.if_icmp .ne 25, 3) := by decide +kernel
theorem d_Hmp_drop_60 : decode b_Hmp_drop 60 = .ok (.aload_n 0, 1) := by decide +kernel
theorem d_Hmp_drop_61 : decode b_Hmp_drop 61 = .ok (.getfield 21, 3) := by decide +kernel
theorem d_Hmp_drop_64 : decode b_Hmp_drop 64 = .ok (.iload 5, 2) := by decide +kernel
theorem d_Hmp_drop_66 : decode b_Hmp_drop 66 = .ok (.iaload, 1) := by decide +kernel
theorem d_Hmp_drop_67 : decode b_Hmp_drop 67 = .ok (.iload_n 3, 1) := by decide +kernel
theorem d_Hmp_drop_68 : decode b_Hmp_drop 68 = .ok (.if_icmp .le 14, 3) := by decide +kernel
theorem d_Hmp_drop_71 : decode b_Hmp_drop 71 = .ok (.aload_n 0, 1) := by decide +kernel
theorem d_Hmp_drop_72 : decode b_Hmp_drop 72 = .ok (.getfield 21, 3) := by decide +kernel
theorem d_Hmp_drop_75 : decode b_Hmp_drop 75 = .ok (.iload 5, 2) := by decide +kernel
theorem d_Hmp_drop_77 : decode b_Hmp_drop 77 = .ok (.dup2, 1) := by decide +kernel
theorem d_Hmp_drop_78 : decode b_Hmp_drop 78 = .ok (.iaload, 1) := by decide +kernel
theorem d_Hmp_drop_79 : decode b_Hmp_drop 79 = .ok (.iconst 1, 1) := by decide +kernel
theorem d_Hmp_drop_80 : decode b_Hmp_drop 80 = .ok (.isub, 1) := by decide +kernel
theorem d_Hmp_drop_81 : decode b_Hmp_drop 81 = .ok (.iastore, 1) := by decide +kernel
theorem d_Hmp_drop_82 : decode b_Hmp_drop 82 = .ok (.iinc 5 1, 3) := by decide +kernel
theorem d_Hmp_drop_85 : decode b_Hmp_drop 85 = .ok (.goto (-43), 3) := by decide +kernel
theorem d_Hmp_drop_88 : decode b_Hmp_drop 88 = .ok (.iload_n 3, 1) := by decide +kernel
theorem d_Hmp_drop_89 : decode b_Hmp_drop 89 = .ok (.ifCond .ne 20, 3) := by decide +kernel
theorem d_Hmp_drop_92 : decode b_Hmp_drop 92 = .ok (.iload 4, 2) := by decide +kernel
theorem d_Hmp_drop_94 : decode b_Hmp_drop 94 = .ok (.bipush (-9), 2) := by decide +kernel
theorem d_Hmp_drop_96 : decode b_Hmp_drop 96 = .ok (.if_icmp .ne 13, 3) := by decide +kernel
theorem d_Hmp_drop_99 : decode b_Hmp_drop 99 = .ok (.aload_n 0, 1) := by decide +kernel
theorem d_Hmp_drop_100 : decode b_Hmp_drop 100 = .ok (.getfield 15, 3) := by decide +kernel
theorem d_Hmp_drop_103 : decode b_Hmp_drop 103 = .ok (.iload_n 2, 1) := by decide +kernel
theorem d_Hmp_drop_104 : decode b_Hmp_drop 104 = .ok (.dup2, 1) := by decide +kernel
theorem d_Hmp_drop_105 : decode b_Hmp_drop 105 = .ok (.iaload, 1) := by decide +kernel
theorem d_Hmp_drop_106 : decode b_Hmp_drop 106 = .ok (.iconst 1, 1) := by decide +kernel
theorem d_Hmp_drop_107 : decode b_Hmp_drop 107 = .ok (.iadd, 1) := by decide +kernel
theorem d_Hmp_drop_108 : decode b_Hmp_drop 108 = .ok (.iastore, 1) := by decide +kernel
theorem d_Hmp_drop_109 : decode b_Hmp_drop 109 = .ok (.iload 4, 2) := by decide +kernel
theorem d_Hmp_drop_111 : decode b_Hmp_drop 111 = .ok (.ireturn, 1) := by decide +kernel
theorem d_Hmp_handOut_0 : decode b_Hmp_handOut 0 = .ok (.aload_n 0, 1) := by decide +kernel
theorem d_Hmp_handOut_1 : decode b_Hmp_handOut 1 = .ok (.getfield 24, 3) := by decide +kernel
theorem d_Hmp_handOut_4 : decode b_Hmp_handOut 4 = .ok (.iload_n 1, 1) := by decide +kernel
theorem d_Hmp_handOut_5 : decode b_Hmp_handOut 5 = .ok (.iload_n 2, 1) := by decide +kernel
theorem d_Hmp_handOut_6 : decode b_Hmp_handOut 6 = .ok (.iastore, 1) := by decide +kernel
theorem d_Hmp_handOut_7 : decode b_Hmp_handOut 7 = .ok (.aload_n 0, 1) := by decide +kernel
theorem d_Hmp_handOut_8 : decode b_Hmp_handOut 8 = .ok (.getfield 18, 3) := by decide +kernel
theorem d_Hmp_handOut_11 : decode b_Hmp_handOut 11 = .ok (.iload_n 1, 1) := by decide +kernel
theorem d_Hmp_handOut_12 : decode b_Hmp_handOut 12 = .ok (.bipush (-9), 2) := by decide +kernel
theorem d_Hmp_handOut_14 : decode b_Hmp_handOut 14 = .ok (.iastore, 1) := by decide +kernel
theorem d_Hmp_handOut_15 : decode b_Hmp_handOut 15 = .ok (.return_, 1) := by decide +kernel
theorem d_Hmp_forgetChoices_0 : decode b_Hmp_forgetChoices 0 = .ok (.aload_n 0, 1) := by decide +kernel
theorem d_Hmp_forgetChoices_1 : decode b_Hmp_forgetChoices 1 = .ok (.getfield 18, 3) := by decide +kernel
theorem d_Hmp_forgetChoices_4 : decode b_Hmp_forgetChoices 4 = .ok (.bipush (-9), 2) := by decide +kernel
theorem d_Hmp_forgetChoices_6 : decode b_Hmp_forgetChoices 6 = .ok (.invokestatic 39, 3) := by decide +kernel
theorem d_Hmp_forgetChoices_9 : decode b_Hmp_forgetChoices 9 = .ok (.aload_n 0, 1) := by decide +kernel
theorem d_Hmp_forgetChoices_10 : decode b_Hmp_forgetChoices 10 = .ok (.getfield 21, 3) := by decide +kernel
theorem d_Hmp_forgetChoices_13 : decode b_Hmp_forgetChoices 13 = .ok (.iconst 0, 1) := by decide +kernel
theorem d_Hmp_forgetChoices_14 : decode b_Hmp_forgetChoices 14 = .ok (.invokestatic 39, 3) := by decide +kernel
theorem d_Hmp_forgetChoices_17 : decode b_Hmp_forgetChoices 17 = .ok (.return_, 1) := by decide +kernel
theorem d_His_init_0 : decode b_His_init 0 = .ok (.aload_n 0, 1) := by decide +kernel
theorem d_His_init_1 : decode b_His_init 1 = .ok (.invokespecial 3, 3) := by decide +kernel
theorem d_His_init_4 : decode b_His_init 4 = .ok (.aload_n 0, 1) := by decide +kernel
theorem d_His_init_5 : decode b_His_init 5 = .ok (.bipush 6, 2) := by decide +kernel
theorem d_His_init_7 : decode b_His_init 7 = .ok (.anewarray 11, 3) := by decide +kernel
theorem d_His_init_10 : decode b_His_init 10 = .ok (.putfield 13, 3) := by decide +kernel
theorem d_His_init_13 : decode b_His_init 13 = .ok (.iconst 0, 1) := by decide +kernel
theorem d_His_init_14 : decode b_His_init 14 = .ok (.istore_n 1, 1) := by decide +kernel
theorem d_His_init_15 : decode b_His_init 15 = .ok (.iload_n 1, 1) := by decide +kernel
theorem d_His_init_16 : decode b_His_init 16 = .ok (.bipush 6, 2) := by decide +kernel
theorem d_His_init_18 : decode b_His_init 18 = .ok (.if_icmp .ge 22, 3) := by decide +kernel
theorem d_His_init_21 : decode b_His_init 21 = .ok (.aload_n 0, 1) := by decide +kernel
theorem d_His_init_22 : decode b_His_init 22 = .ok (.getfield 13, 3) := by decide +kernel
theorem d_His_init_25 : decode b_His_init 25 = .ok (.iload_n 1, 1) := by decide +kernel
theorem d_His_init_26 : decode b_His_init 26 = .ok (.new 11, 3) := by decide +kernel
theorem d_His_init_29 : decode b_His_init 29 = .ok (.dup, 1) := by decide +kernel
theorem d_His_init_30 : decode b_His_init 30 = .ok (.invokespecial 17, 3) := by decide +kernel
theorem d_His_init_33 : decode b_His_init 33 = .ok (.aastore, 1) := by decide +kernel
theorem d_His_init_34 : decode b_His_init 34 = .ok (.iinc 1 1, 3) := by decide +kernel
theorem d_His_init_37 : decode b_His_init 37 = .ok (.goto (-22), 3) := by decide +kernel
theorem d_His_init_40 : decode b_His_init 40 = .ok (.return_, 1) := by decide +kernel
theorem d_His_draft_0 : decode b_His_draft 0 = .ok (.aload_n 0, 1) := by decide +kernel
theorem d_His_draft_1 : decode b_His_draft 1 = .ok (.getfield 13, 3) := by decide +kernel
theorem d_His_draft_4 : decode b_His_draft 4 = .ok (.aload_n 0, 1) := by decide +kernel
theorem d_His_draft_5 : decode b_His_draft 5 = .ok (.getfield 18, 3) := by decide +kernel
theorem d_His_draft_8 : decode b_His_draft 8 = .ok (.aaload, 1) := by decide +kernel
theorem d_His_draft_9 : decode b_His_draft 9 = .ok (.astore_n 2, 1) := by decide +kernel
theorem d_His_draft_10 : decode b_His_draft 10 = .ok (.aload_n 2, 1) := by decide +kernel
theorem d_His_draft_11 : decode b_His_draft 11 = .ok (.ifnull 8, 3) := by decide +kernel
theorem d_His_draft_14 : decode b_His_draft 14 = .ok (.aload_n 2, 1) := by decide +kernel
theorem d_His_draft_15 : decode b_His_draft 15 = .ok (.aload_n 1, 1) := by decide +kernel
theorem d_His_draft_16 : decode b_His_draft 16 = .ok (.invokevirtual 22, 3) := by decide +kernel
theorem d_His_draft_19 : decode b_His_draft 19 = .ok (.return_, 1) := by decide +kernel
theorem d_His_keepDraft_0 : decode b_His_keepDraft 0 = .ok (.aload_n 0, 1) := by decide +kernel
theorem d_His_keepDraft_1 : decode b_His_keepDraft 1 = .ok (.aload_n 0, 1) := by decide +kernel
theorem d_His_keepDraft_2 : decode b_His_keepDraft 2 = .ok (.getfield 18, 3) := by decide +kernel
theorem d_His_keepDraft_5 : decode b_His_keepDraft 5 = .ok (.iconst 1, 1) := by decide +kernel
theorem d_His_keepDraft_6 : decode b_His_keepDraft 6 = .ok (.iadd, 1) := by decide +kernel
theorem d_His_keepDraft_7 : decode b_His_keepDraft 7 = .ok (.bipush 6, 2) := by decide +kernel
theorem d_His_keepDraft_9 : decode b_His_keepDraft 9 = .ok (.irem, 1) := by decide +kernel
theorem d_His_keepDraft_10 : decode b_His_keepDraft 10 = .ok (.putfield 18, 3) := by decide +kernel
theorem d_His_keepDraft_13 : decode b_His_keepDraft 13 = .ok (.aload_n 0, 1) := by decide +kernel
theorem d_His_keepDraft_14 : decode b_His_keepDraft 14 = .ok (.aload_n 0, 1) := by decide +kernel
theorem d_His_keepDraft_15 : decode b_His_keepDraft 15 = .ok (.getfield 26, 3) := by decide +kernel
theorem d_His_keepDraft_18 : decode b_His_keepDraft 18 = .ok (.iconst 1, 1) := by decide +kernel
theorem d_His_keepDraft_19 : decode b_His_keepDraft 19 = .ok (.iadd, 1) := by decide +kernel
theorem d_His_keepDraft_20 : decode b_His_keepDraft 20 = .ok (.iconst 5, 1) := by decide +kernel
theorem d_His_keepDraft_21 : decode b_His_keepDraft 21 = .ok (.invokestatic 29, 3) := by decide +kernel
theorem d_His_keepDraft_24 : decode b_His_keepDraft 24 = .ok (.putfield 26, 3) := by decide +kernel
theorem d_His_keepDraft_27 : decode b_His_keepDraft 27 = .ok (.return_, 1) := by decide +kernel
theorem d_His_putBackLatest_0 : decode b_His_putBackLatest 0 = .ok (.aload_n 0, 1) := by decide +kernel
theorem d_His_putBackLatest_1 : decode b_His_putBackLatest 1 = .ok (.getfield 26, 3) := by decide +kernel
theorem d_His_putBackLatest_4 : decode b_His_putBackLatest 4 = .ok (.ifCond .ne 5, 3) := by decide +kernel
theorem d_His_putBackLatest_7 : decode b_His_putBackLatest 7 = .ok (.iconst 0, 1) := by decide +kernel
theorem d_His_putBackLatest_8 : decode b_His_putBackLatest 8 = .ok (.ireturn, 1) := by decide +kernel
theorem d_His_putBackLatest_9 : decode b_His_putBackLatest 9 = .ok (.aload_n 0, 1) := by decide +kernel
theorem d_His_putBackLatest_10 : decode b_His_putBackLatest 10 = .ok (.aload_n 0, 1) := by decide +kernel
theorem d_His_putBackLatest_11 : decode b_His_putBackLatest 11 = .ok (.getfield 18, 3) := by decide +kernel
theorem d_His_putBackLatest_14 : decode b_His_putBackLatest 14 = .ok (.iconst 5, 1) := by decide +kernel
theorem d_His_putBackLatest_15 : decode b_His_putBackLatest 15 = .ok (.iadd, 1) := by decide +kernel
theorem d_His_putBackLatest_16 : decode b_His_putBackLatest 16 = .ok (.bipush 6, 2) := by decide +kernel
theorem d_His_putBackLatest_18 : decode b_His_putBackLatest 18 = .ok (.irem, 1) := by decide +kernel
theorem d_His_putBackLatest_19 : decode b_His_putBackLatest 19 = .ok (.putfield 18, 3) := by decide +kernel
theorem d_His_putBackLatest_22 : decode b_His_putBackLatest 22 = .ok (.aload_n 0, 1) := by decide +kernel
theorem d_His_putBackLatest_23 : decode b_His_putBackLatest 23 = .ok (.dup, 1) := by decide +kernel
theorem d_His_putBackLatest_24 : decode b_His_putBackLatest 24 = .ok (.getfield 26, 3) := by decide +kernel
theorem d_His_putBackLatest_27 : decode b_His_putBackLatest 27 = .ok (.iconst 1, 1) := by decide +kernel
theorem d_His_putBackLatest_28 : decode b_His_putBackLatest 28 = .ok (.isub, 1) := by decide +kernel
theorem d_His_putBackLatest_29 : decode b_His_putBackLatest 29 = .ok (.putfield 26, 3) := by decide +kernel
theorem d_His_putBackLatest_32 : decode b_His_putBackLatest 32 = .ok (.aload_n 0, 1) := by decide +kernel
theorem d_His_putBackLatest_33 : decode b_His_putBackLatest 33 = .ok (.getfield 13, 3) := by decide +kernel
theorem d_His_putBackLatest_36 : decode b_His_putBackLatest 36 = .ok (.aload_n 0, 1) := by decide +kernel
theorem d_His_putBackLatest_37 : decode b_His_putBackLatest 37 = .ok (.getfield 18, 3) := by decide +kernel
theorem d_His_putBackLatest_40 : decode b_His_putBackLatest 40 = .ok (.aaload, 1) := by decide +kernel
theorem d_His_putBackLatest_41 : decode b_His_putBackLatest 41 = .ok (.astore_n 2, 1) := by decide +kernel
theorem d_His_putBackLatest_42 : decode b_His_putBackLatest 42 = .ok (.aload_n 2, 1) := by decide +kernel
theorem d_His_putBackLatest_43 : decode b_His_putBackLatest 43 = .ok (.ifnull 8, 3) := by decide +kernel
theorem d_His_putBackLatest_46 : decode b_His_putBackLatest 46 = .ok (.aload_n 1, 1) := by decide +kernel
theorem d_His_putBackLatest_47 : decode b_His_putBackLatest 47 = .ok (.aload_n 2, 1) := by decide +kernel
theorem d_His_putBackLatest_48 : decode b_His_putBackLatest 48 = .ok (.invokevirtual 22, 3) := by decide +kernel
theorem d_His_putBackLatest_51 : decode b_His_putBackLatest 51 = .ok (.iconst 1, 1) := by decide +kernel
theorem d_His_putBackLatest_52 : decode b_His_putBackLatest 52 = .ok (.ireturn, 1) := by decide +kernel
theorem d_Ord_init_0 : decode b_Ord_init 0 = .ok (.aload_n 0, 1) := by decide +kernel
theorem d_Ord_init_1 : decode b_Ord_init 1 = .ok (.invokespecial 3, 3) := by decide +kernel
theorem d_Ord_init_4 : decode b_Ord_init 4 = .ok (.aload_n 0, 1) := by decide +kernel
theorem d_Ord_init_5 : decode b_Ord_init 5 = .ok (.bipush 100, 2) := by decide +kernel
theorem d_Ord_init_7 : decode b_Ord_init 7 = .ok (.newarray .int, 2) := by decide +kernel
theorem d_Ord_init_9 : decode b_Ord_init 9 = .ok (.putfield 9, 3) := by decide +kernel
theorem d_Ord_init_12 : decode b_Ord_init 12 = .ok (.return_, 1) := by decide +kernel
theorem d_Ord_add_0 : decode b_Ord_add 0 = .ok (.aload_n 0, 1) := by decide +kernel
theorem d_Ord_add_1 : decode b_Ord_add 1 = .ok (.getfield 15, 3) := by decide +kernel
theorem d_Ord_add_4 : decode b_Ord_add 4 = .ok (.bipush 100, 2) := by decide +kernel
theorem d_Ord_add_6 : decode b_Ord_add 6 = .ok (.if_icmp .lt 5, 3) := by decide +kernel
theorem d_Ord_add_9 : decode b_Ord_add 9 = .ok (.iconst 0, 1) := by decide +kernel
theorem d_Ord_add_10 : decode b_Ord_add 10 = .ok (.ireturn, 1) := by decide +kernel
theorem d_Ord_add_11 : decode b_Ord_add 11 = .ok (.aload_n 0, 1) := by decide +kernel
theorem d_Ord_add_12 : decode b_Ord_add 12 = .ok (.getfield 9, 3) := by decide +kernel
theorem d_Ord_add_15 : decode b_Ord_add 15 = .ok (.aload_n 0, 1) := by decide +kernel
theorem d_Ord_add_16 : decode b_Ord_add 16 = .ok (.getfield 15, 3) := by decide +kernel
theorem d_Ord_add_19 : decode b_Ord_add 19 = .ok (.iload_n 1, 1) := by decide +kernel
theorem d_Ord_add_20 : decode b_Ord_add 20 = .ok (.iastore, 1) := by decide +kernel
theorem d_Ord_add_21 : decode b_Ord_add 21 = .ok (.aload_n 0, 1) := by decide +kernel
theorem d_Ord_add_22 : decode b_Ord_add 22 = .ok (.dup, 1) := by decide +kernel
theorem d_Ord_add_23 : decode b_Ord_add 23 = .ok (.getfield 15, 3) := by decide +kernel
theorem d_Ord_add_26 : decode b_Ord_add 26 = .ok (.iconst 1, 1) := by decide +kernel
theorem d_Ord_add_27 : decode b_Ord_add 27 = .ok (.iadd, 1) := by decide +kernel
theorem d_Ord_add_28 : decode b_Ord_add 28 = .ok (.putfield 15, 3) := by decide +kernel
theorem d_Ord_add_31 : decode b_Ord_add 31 = .ok (.iconst 1, 1) := by decide +kernel
theorem d_Ord_add_32 : decode b_Ord_add 32 = .ok (.ireturn, 1) := by decide +kernel
theorem d_Ord_fault_0 : decode b_Ord_fault 0 = .ok (.aload_n 0, 1) := by decide +kernel
theorem d_Ord_fault_1 : decode b_Ord_fault 1 = .ok (.iconst 0, 1) := by decide +kernel
theorem d_Ord_fault_2 : decode b_Ord_fault 2 = .ok (.putfield 19, 3) := by decide +kernel
theorem d_Ord_fault_5 : decode b_Ord_fault 5 = .ok (.iconst 0, 1) := by decide +kernel
theorem d_Ord_fault_6 : decode b_Ord_fault 6 = .ok (.istore_n 1, 1) := by decide +kernel
theorem d_Ord_fault_7 : decode b_Ord_fault 7 = .ok (.iload_n 1, 1) := by decide +kernel
theorem d_Ord_fault_8 : decode b_Ord_fault 8 = .ok (.bipush 100, 2) := by decide +kernel
theorem d_Ord_fault_10 : decode b_Ord_fault 10 = .ok (.if_icmp .ge 63, 3) := by decide +kernel
theorem d_Ord_fault_13 : decode b_Ord_fault 13 = .ok (.aload_n 0, 1) := by decide +kernel
theorem d_Ord_fault_14 : decode b_Ord_fault 14 = .ok (.invokevirtual 22, 3) := by decide +kernel
theorem d_Ord_fault_17 : decode b_Ord_fault 17 = .ok (.ifCond .ne 8, 3) := by decide +kernel
theorem d_Ord_fault_20 : decode b_Ord_fault 20 = .ok (.aload_n 0, 1) := by decide +kernel
theorem d_Ord_fault_21 : decode b_Ord_fault 21 = .ok (.getfield 19, 3) := by decide +kernel
theorem d_Ord_fault_24 : decode b_Ord_fault 24 = .ok (.ireturn, 1) := by decide +kernel
theorem d_Ord_fault_25 : decode b_Ord_fault 25 = .ok (.aload_n 0, 1) := by decide +kernel
theorem d_Ord_fault_26 : decode b_Ord_fault 26 = .ok (.getfield 19, 3) := by decide +kernel
theorem d_Ord_fault_29 : decode b_Ord_fault 29 = .ok (.aload_n 0, 1) := by decide +kernel
theorem d_Ord_fault_30 : decode b_Ord_fault 30 = .ok (.getfield 15, 3) := by decide +kernel
theorem d_Ord_fault_33 : decode b_Ord_fault 33 = .ok (.if_icmp .lt 5, 3) := by decide +kernel
theorem d_Ord_fault_36 : decode b_Ord_fault 36 = .ok (.iconst (-1), 1) := by decide +kernel
theorem d_Ord_fault_37 : decode b_Ord_fault 37 = .ok (.ireturn, 1) := by decide +kernel
theorem d_Ord_fault_38 : decode b_Ord_fault 38 = .ok (.aload_n 0, 1) := by decide +kernel
theorem d_Ord_fault_39 : decode b_Ord_fault 39 = .ok (.getfield 9, 3) := by decide +kernel
theorem d_Ord_fault_42 : decode b_Ord_fault 42 = .ok (.aload_n 0, 1) := by decide +kernel
theorem d_Ord_fault_43 : decode b_Ord_fault 43 = .ok (.getfield 19, 3) := by decide +kernel
theorem d_Ord_fault_46 : decode b_Ord_fault 46 = .ok (.iaload, 1) := by decide +kernel
theorem d_Ord_fault_47 : decode b_Ord_fault 47 = .ok (.bipush 59, 2) := by decide +kernel
theorem d_Ord_fault_49 : decode b_Ord_fault 49 = .ok (.if_icmp .eq 8, 3) := by decide +kernel
theorem d_Ord_fault_52 : decode b_Ord_fault 52 = .ok (.aload_n 0, 1) := by decide +kernel
theorem d_Ord_fault_53 : decode b_Ord_fault 53 = .ok (.getfield 19, 3) := by decide +kernel
theorem d_Ord_fault_56 : decode b_Ord_fault 56 = .ok (.ireturn, 1) := by decide +kernel
theorem d_Ord_fault_57 : decode b_Ord_fault 57 = .ok (.aload_n 0, 1) := by decide +kernel
theorem d_Ord_fault_58 : decode b_Ord_fault 58 = .ok (.dup, 1) := by decide +kernel
theorem d_Ord_fault_59 : decode b_Ord_fault 59 = .ok (.getfield 19, 3) := by decide +kernel
theorem d_Ord_fault_62 : decode b_Ord_fault 62 = .ok (.iconst 1, 1) := by decide +kernel
theorem d_Ord_fault_63 : decode b_Ord_fault 63 = .ok (.iadd, 1) := by decide +kernel
theorem d_Ord_fault_64 : decode b_Ord_fault 64 = .ok (.putfield 19, 3) := by decide +kernel
theorem d_Ord_fault_67 : decode b_Ord_fault 67 = .ok (.iinc 1 1, 3) := by decide +kernel
theorem d_Ord_fault_70 : decode b_Ord_fault 70 = .ok (.goto (-63), 3) := by decide +kernel
theorem d_Ord_fault_73 : decode b_Ord_fault 73 = .ok (.aload_n 0, 1) := by decide +kernel
theorem d_Ord_fault_74 : decode b_Ord_fault 74 = .ok (.getfield 19, 3) := by decide +kernel
theorem d_Ord_fault_77 : decode b_Ord_fault 77 = .ok (.ireturn, 1) := by decide +kernel
theorem d_Ord_carryOutOn_0 : decode b_Ord_carryOutOn 0 = .ok (.aload_n 0, 1) := by decide +kernel
theorem d_Ord_carryOutOn_1 : decode b_Ord_carryOutOn 1 = .ok (.iconst 0, 1) := by decide +kernel
theorem d_Ord_carryOutOn_2 : decode b_Ord_carryOutOn 2 = .ok (.putfield 19, 3) := by decide +kernel
theorem d_Ord_carryOutOn_5 : decode b_Ord_carryOutOn 5 = .ok (.iconst 0, 1) := by decide +kernel
theorem d_Ord_carryOutOn_6 : decode b_Ord_carryOutOn 6 = .ok (.istore_n 2, 1) := by decide +kernel
theorem d_Ord_carryOutOn_7 : decode b_Ord_carryOutOn 7 = .ok (.iconst 0, 1) := by decide +kernel
theorem d_Ord_carryOutOn_8 : decode b_Ord_carryOutOn 8 = .ok (.istore_n 3, 1) := by decide +kernel
theorem d_Ord_carryOutOn_9 : decode b_Ord_carryOutOn 9 = .ok (.iload_n 3, 1) := by decide +kernel
theorem d_Ord_carryOutOn_10 : decode b_Ord_carryOutOn 10 = .ok (.bipush 100, 2) := by decide +kernel
theorem d_Ord_carryOutOn_12 : decode b_Ord_carryOutOn 12 = .ok (.if_icmp .ge 50, 3) := by decide +kernel
theorem d_Ord_carryOutOn_15 : decode b_Ord_carryOutOn 15 = .ok (.aload_n 0, 1) := by decide +kernel
theorem d_Ord_carryOutOn_16 : decode b_Ord_carryOutOn 16 = .ok (.getfield 19, 3) := by decide +kernel
theorem d_Ord_carryOutOn_19 : decode b_Ord_carryOutOn 19 = .ok (.aload_n 0, 1) := by decide +kernel
theorem d_Ord_carryOutOn_20 : decode b_Ord_carryOutOn 20 = .ok (.getfield 15, 3) := by decide +kernel
theorem d_Ord_carryOutOn_23 : decode b_Ord_carryOutOn 23 = .ok (.if_icmp .ge 39, 3) := by decide +kernel
theorem d_Ord_carryOutOn_26 : decode b_Ord_carryOutOn 26 = .ok (.aload_n 0, 1) := by decide +kernel
theorem d_Ord_carryOutOn_27 : decode b_Ord_carryOutOn 27 = .ok (.invokevirtual 22, 3) := by decide +kernel
theorem d_Ord_carryOutOn_30 : decode b_Ord_carryOutOn 30 = .ok (.ifCond .eq 11, 3) := by decide +kernel
theorem d_Ord_carryOutOn_33 : decode b_Ord_carryOutOn 33 = .ok (.aload_n 0, 1) := by decide +kernel
theorem d_Ord_carryOutOn_34 : decode b_Ord_carryOutOn 34 = .ok (.aload_n 1, 1) := by decide +kernel
theorem d_Ord_carryOutOn_35 : decode b_Ord_carryOutOn 35 = .ok (.invokevirtual 26, 3) := by decide +kernel
theorem d_Ord_carryOutOn_38 : decode b_Ord_carryOutOn 38 = .ok (.ifCond .ge 5, 3) := by decide +kernel
theorem d_Ord_carryOutOn_41 : decode b_Ord_carryOutOn 41 = .ok (.iload_n 2, 1) := by decide +kernel
theorem d_Ord_carryOutOn_42 : decode b_Ord_carryOutOn 42 = .ok (.ireturn, 1) := by decide +kernel
theorem d_Ord_carryOutOn_43 : decode b_Ord_carryOutOn 43 = .ok (.iinc 2 1, 3) := by decide +kernel
theorem d_Ord_carryOutOn_46 : decode b_Ord_carryOutOn 46 = .ok (.aload_n 0, 1) := by decide +kernel
theorem d_Ord_carryOutOn_47 : decode b_Ord_carryOutOn 47 = .ok (.dup, 1) := by decide +kernel
theorem d_Ord_carryOutOn_48 : decode b_Ord_carryOutOn 48 = .ok (.getfield 19, 3) := by decide +kernel
theorem d_Ord_carryOutOn_51 : decode b_Ord_carryOutOn 51 = .ok (.iconst 1, 1) := by decide +kernel
theorem d_Ord_carryOutOn_52 : decode b_Ord_carryOutOn 52 = .ok (.iadd, 1) := by decide +kernel
theorem d_Ord_carryOutOn_53 : decode b_Ord_carryOutOn 53 = .ok (.putfield 19, 3) := by decide +kernel
theorem d_Ord_carryOutOn_56 : decode b_Ord_carryOutOn 56 = .ok (.iinc 3 1, 3) := by decide +kernel
theorem d_Ord_carryOutOn_59 : decode b_Ord_carryOutOn 59 = .ok (.goto (-50), 3) := by decide +kernel
theorem d_Ord_carryOutOn_62 : decode b_Ord_carryOutOn 62 = .ok (.iload_n 2, 1) := by decide +kernel
theorem d_Ord_carryOutOn_63 : decode b_Ord_carryOutOn 63 = .ok (.ireturn, 1) := by decide +kernel
theorem d_Ord_carryOutOrder_0 : decode b_Ord_carryOutOrder 0 = .ok (.aload_n 0, 1) := by decide +kernel
theorem d_Ord_carryOutOrder_1 : decode b_Ord_carryOutOrder 1 = .ok (.getfield 30, 3) := by decide +kernel
theorem d_Ord_carryOutOrder_4 : decode b_Ord_carryOutOrder 4 = .ok (.lookupswitch 126 #[(43, 60), (45, 73), (102, 117), (104, 86), (108, 108), (120, 99)], 60) := by decide +kernel
theorem d_Ord_carryOutOrder_64 : decode b_Ord_carryOutOrder 64 = .ok (.aload_n 1, 1) := by decide +kernel
theorem d_Ord_carryOutOrder_65 : decode b_Ord_carryOutOrder 65 = .ok (.aload_n 0, 1) := by decide +kernel
theorem d_Ord_carryOutOrder_66 : decode b_Ord_carryOutOrder 66 = .ok (.getfield 33, 3) := by decide +kernel
theorem d_Ord_carryOutOrder_69 : decode b_Ord_carryOutOrder 69 = .ok (.aload_n 0, 1) := by decide +kernel
theorem d_Ord_carryOutOrder_70 : decode b_Ord_carryOutOrder 70 = .ok (.getfield 36, 3) := by decide +kernel
theorem d_Ord_carryOutOrder_73 : decode b_Ord_carryOutOrder 73 = .ok (.invokevirtual 39, 3) := by decide +kernel
theorem d_Ord_carryOutOrder_76 : decode b_Ord_carryOutOrder 76 = .ok (.ireturn, 1) := by decide +kernel
theorem d_Ord_carryOutOrder_77 : decode b_Ord_carryOutOrder 77 = .ok (.aload_n 1, 1) := by decide +kernel
theorem d_Ord_carryOutOrder_78 : decode b_Ord_carryOutOrder 78 = .ok (.aload_n 0, 1) := by decide +kernel
theorem d_Ord_carryOutOrder_79 : decode b_Ord_carryOutOrder 79 = .ok (.getfield 33, 3) := by decide +kernel
theorem d_Ord_carryOutOrder_82 : decode b_Ord_carryOutOrder 82 = .ok (.aload_n 0, 1) := by decide +kernel
theorem d_Ord_carryOutOrder_83 : decode b_Ord_carryOutOrder 83 = .ok (.getfield 36, 3) := by decide +kernel
theorem d_Ord_carryOutOrder_86 : decode b_Ord_carryOutOrder 86 = .ok (.invokevirtual 45, 3) := by decide +kernel
theorem d_Ord_carryOutOrder_89 : decode b_Ord_carryOutOrder 89 = .ok (.ireturn, 1) := by decide +kernel
theorem d_Ord_carryOutOrder_90 : decode b_Ord_carryOutOrder 90 = .ok (.aload_n 1, 1) := by decide +kernel
theorem d_Ord_carryOutOrder_91 : decode b_Ord_carryOutOrder 91 = .ok (.aload_n 0, 1) := by decide +kernel
theorem d_Ord_carryOutOrder_92 : decode b_Ord_carryOutOrder 92 = .ok (.getfield 33, 3) := by decide +kernel
theorem d_Ord_carryOutOrder_95 : decode b_Ord_carryOutOrder 95 = .ok (.aload_n 0, 1) := by decide +kernel
theorem d_Ord_carryOutOrder_96 : decode b_Ord_carryOutOrder 96 = .ok (.getfield 36, 3) := by decide +kernel
theorem d_Ord_carryOutOrder_99 : decode b_Ord_carryOutOrder 99 = .ok (.invokevirtual 48, 3) := by decide +kernel
theorem d_Ord_carryOutOrder_102 : decode b_Ord_carryOutOrder 102 = .ok (.ireturn, 1) := by decide +kernel
theorem d_Ord_carryOutOrder_103 : decode b_Ord_carryOutOrder 103 = .ok (.aload_n 1, 1) := by decide +kernel
theorem d_Ord_carryOutOrder_104 : decode b_Ord_carryOutOrder 104 = .ok (.aload_n 0, 1) := by decide +kernel
theorem d_Ord_carryOutOrder_105 : decode b_Ord_carryOutOrder 105 = .ok (.getfield 33, 3) := by decide +kernel
theorem d_Ord_carryOutOrder_108 : decode b_Ord_carryOutOrder 108 = .ok (.invokevirtual 51, 3) := by decide +kernel
theorem d_Ord_carryOutOrder_111 : decode b_Ord_carryOutOrder 111 = .ok (.ireturn, 1) := by decide +kernel
theorem d_Ord_carryOutOrder_112 : decode b_Ord_carryOutOrder 112 = .ok (.aload_n 1, 1) := by decide +kernel
theorem d_Ord_carryOutOrder_113 : decode b_Ord_carryOutOrder 113 = .ok (.aload_n 0, 1) := by decide +kernel
theorem d_Ord_carryOutOrder_114 : decode b_Ord_carryOutOrder 114 = .ok (.getfield 33, 3) := by decide +kernel
theorem d_Ord_carryOutOrder_117 : decode b_Ord_carryOutOrder 117 = .ok (.invokevirtual 55, 3) := by decide +kernel
theorem d_Ord_carryOutOrder_120 : decode b_Ord_carryOutOrder 120 = .ok (.ireturn, 1) := by decide +kernel
theorem d_Ord_carryOutOrder_121 : decode b_Ord_carryOutOrder 121 = .ok (.aload_n 1, 1) := by decide +kernel
theorem d_Ord_carryOutOrder_122 : decode b_Ord_carryOutOrder 122 = .ok (.aload_n 0, 1) := by decide +kernel
theorem d_Ord_carryOutOrder_123 : decode b_Ord_carryOutOrder 123 = .ok (.getfield 33, 3) := by decide +kernel
theorem d_Ord_carryOutOrder_126 : decode b_Ord_carryOutOrder 126 = .ok (.invokevirtual 58, 3) := by decide +kernel
theorem d_Ord_carryOutOrder_129 : decode b_Ord_carryOutOrder 129 = .ok (.ireturn, 1) := by decide +kernel
theorem d_Ord_carryOutOrder_130 : decode b_Ord_carryOutOrder 130 = .ok (.aload_n 1, 1) := by decide +kernel
theorem d_Ord_carryOutOrder_131 : decode b_Ord_carryOutOrder 131 = .ok (.invokevirtual 61, 3) := by decide +kernel
theorem d_Ord_carryOutOrder_134 : decode b_Ord_carryOutOrder 134 = .ok (.ireturn, 1) := by decide +kernel
theorem d_Ord_readOrder_0 : decode b_Ord_readOrder 0 = .ok (.aload_n 0, 1) := by decide +kernel
theorem d_Ord_readOrder_1 : decode b_Ord_readOrder 1 = .ok (.invokevirtual 65, 3) := by decide +kernel
theorem d_Ord_readOrder_4 : decode b_Ord_readOrder 4 = .ok (.bipush 119, 2) := by decide +kernel
theorem d_Ord_readOrder_6 : decode b_Ord_readOrder 6 = .ok (.if_icmp .ne 21, 3) := by decide +kernel
theorem d_Ord_readOrder_9 : decode b_Ord_readOrder 9 = .ok (.aload_n 0, 1) := by decide +kernel
theorem d_Ord_readOrder_10 : decode b_Ord_readOrder 10 = .ok (.bipush 119, 2) := by decide +kernel
theorem d_Ord_readOrder_12 : decode b_Ord_readOrder 12 = .ok (.putfield 30, 3) := by decide +kernel
theorem d_Ord_readOrder_15 : decode b_Ord_readOrder 15 = .ok (.aload_n 0, 1) := by decide +kernel
theorem d_Ord_readOrder_16 : decode b_Ord_readOrder 16 = .ok (.dup, 1) := by decide +kernel
theorem d_Ord_readOrder_17 : decode b_Ord_readOrder 17 = .ok (.getfield 19, 3) := by decide +kernel
theorem d_Ord_readOrder_20 : decode b_Ord_readOrder 20 = .ok (.iconst 1, 1) := by decide +kernel
theorem d_Ord_readOrder_21 : decode b_Ord_readOrder 21 = .ok (.iadd, 1) := by decide +kernel
theorem d_Ord_readOrder_22 : decode b_Ord_readOrder 22 = .ok (.putfield 19, 3) := by decide +kernel
theorem d_Ord_readOrder_25 : decode b_Ord_readOrder 25 = .ok (.iconst 1, 1) := by decide +kernel
theorem d_Ord_readOrder_26 : decode b_Ord_readOrder 26 = .ok (.ireturn, 1) := by decide +kernel
theorem d_Ord_readOrder_27 : decode b_Ord_readOrder 27 = .ok (.aload_n 0, 1) := by decide +kernel
theorem d_Ord_readOrder_28 : decode b_Ord_readOrder 28 = .ok (.aload_n 0, 1) := by decide +kernel
theorem d_Ord_readOrder_29 : decode b_Ord_readOrder 29 = .ok (.invokevirtual 68, 3) := by decide +kernel
theorem d_Ord_readOrder_32 : decode b_Ord_readOrder 32 = .ok (.putfield 33, 3) := by decide +kernel
theorem d_Ord_readOrder_35 : decode b_Ord_readOrder 35 = .ok (.aload_n 0, 1) := by decide +kernel
theorem d_Ord_readOrder_36 : decode b_Ord_readOrder 36 = .ok (.getfield 33, 3) := by decide +kernel
theorem d_Ord_readOrder_39 : decode b_Ord_readOrder 39 = .ok (.iconst (-1), 1) := by decide +kernel
theorem d_Ord_readOrder_40 : decode b_Ord_readOrder 40 = .ok (.if_icmp .ne 5, 3) := by decide +kernel
theorem d_Ord_readOrder_43 : decode b_Ord_readOrder 43 = .ok (.iconst 0, 1) := by decide +kernel
theorem d_Ord_readOrder_44 : decode b_Ord_readOrder 44 = .ok (.ireturn, 1) := by decide +kernel
theorem d_Ord_readOrder_45 : decode b_Ord_readOrder 45 = .ok (.aload_n 0, 1) := by decide +kernel
theorem d_Ord_readOrder_46 : decode b_Ord_readOrder 46 = .ok (.aload_n 0, 1) := by decide +kernel
theorem d_Ord_readOrder_47 : decode b_Ord_readOrder 47 = .ok (.invokevirtual 65, 3) := by decide +kernel
theorem d_Ord_readOrder_50 : decode b_Ord_readOrder 50 = .ok (.putfield 30, 3) := by decide +kernel
theorem d_Ord_readOrder_53 : decode b_Ord_readOrder 53 = .ok (.aload_n 0, 1) := by decide +kernel
theorem d_Ord_readOrder_54 : decode b_Ord_readOrder 54 = .ok (.getfield 30, 3) := by decide +kernel
theorem d_Ord_readOrder_57 : decode b_Ord_readOrder 57 = .ok (.bipush 43, 2) := by decide +kernel
theorem d_Ord_readOrder_59 : decode b_Ord_readOrder 59 = .ok (.if_icmp .eq 21, 3) := by decide +kernel
theorem d_Ord_readOrder_62 : decode b_Ord_readOrder 62 = .ok (.aload_n 0, 1) := by decide +kernel
theorem d_Ord_readOrder_63 : decode b_Ord_readOrder 63 = .ok (.getfield 30, 3) := by decide +kernel
theorem d_Ord_readOrder_66 : decode b_Ord_readOrder 66 = .ok (.bipush 45, 2) := by decide +kernel
theorem d_Ord_readOrder_68 : decode b_Ord_readOrder 68 = .ok (.if_icmp .eq 12, 3) := by decide +kernel
theorem d_Ord_readOrder_71 : decode b_Ord_readOrder 71 = .ok (.aload_n 0, 1) := by decide +kernel
theorem d_Ord_readOrder_72 : decode b_Ord_readOrder 72 = .ok (.getfield 30, 3) := by decide +kernel
theorem d_Ord_readOrder_75 : decode b_Ord_readOrder 75 = .ok (.bipush 104, 2) := by decide +kernel
theorem d_Ord_readOrder_77 : decode b_Ord_readOrder 77 = .ok (.if_icmp .ne 7, 3) := by decide +kernel
theorem d_Ord_readOrder_80 : decode b_Ord_readOrder 80 = .ok (.iconst 1, 1) := by decide +kernel
theorem d_Ord_readOrder_81 : decode b_Ord_readOrder 81 = .ok (.goto 4, 3) := by decide +kernel
theorem d_Ord_readOrder_84 : decode b_Ord_readOrder 84 = .ok (.iconst 0, 1) := by decide +kernel
theorem d_Ord_readOrder_85 : decode b_Ord_readOrder 85 = .ok (.istore_n 1, 1) := by decide +kernel
theorem d_Ord_readOrder_86 : decode b_Ord_readOrder 86 = .ok (.aload_n 0, 1) := by decide +kernel
theorem d_Ord_readOrder_87 : decode b_Ord_readOrder 87 = .ok (.getfield 30, 3) := by decide +kernel
theorem d_Ord_readOrder_90 : decode b_Ord_readOrder 90 = .ok (.bipush 120, 2) := by decide +kernel
theorem d_Ord_readOrder_92 : decode b_Ord_readOrder 92 = .ok (.if_icmp .eq 21, 3) := by decide +kernel
theorem d_Ord_readOrder_95 : decode b_Ord_readOrder 95 = .ok (.aload_n 0, 1) := by decide +kernel
theorem d_Ord_readOrder_96 : decode b_Ord_readOrder 96 = .ok (.getfield 30, 3) := by decide +kernel
theorem d_Ord_readOrder_99 : decode b_Ord_readOrder 99 = .ok (.bipush 108, 2) := by decide +kernel
theorem d_Ord_readOrder_101 : decode b_Ord_readOrder 101 = .ok (.if_icmp .eq 12, 3) := by decide +kernel
theorem d_Ord_readOrder_104 : decode b_Ord_readOrder 104 = .ok (.aload_n 0, 1) := by decide +kernel
theorem d_Ord_readOrder_105 : decode b_Ord_readOrder 105 = .ok (.getfield 30, 3) := by decide +kernel
theorem d_Ord_readOrder_108 : decode b_Ord_readOrder 108 = .ok (.bipush 102, 2) := by decide +kernel
theorem d_Ord_readOrder_110 : decode b_Ord_readOrder 110 = .ok (.if_icmp .ne 7, 3) := by decide +kernel
theorem d_Ord_readOrder_113 : decode b_Ord_readOrder 113 = .ok (.iconst 1, 1) := by decide +kernel
theorem d_Ord_readOrder_114 : decode b_Ord_readOrder 114 = .ok (.goto 4, 3) := by decide +kernel
theorem d_Ord_readOrder_117 : decode b_Ord_readOrder 117 = .ok (.iconst 0, 1) := by decide +kernel
theorem d_Ord_readOrder_118 : decode b_Ord_readOrder 118 = .ok (.istore_n 2, 1) := by decide +kernel
theorem d_Ord_readOrder_119 : decode b_Ord_readOrder 119 = .ok (.iload_n 1, 1) := by decide +kernel
theorem d_Ord_readOrder_120 : decode b_Ord_readOrder 120 = .ok (.ifCond .ne 9, 3) := by decide +kernel
theorem d_Ord_readOrder_123 : decode b_Ord_readOrder 123 = .ok (.iload_n 2, 1) := by decide +kernel
theorem d_Ord_readOrder_124 : decode b_Ord_readOrder 124 = .ok (.ifCond .ne 5, 3) := by decide +kernel
theorem d_Ord_readOrder_127 : decode b_Ord_readOrder 127 = .ok (.iconst 0, 1) := by decide +kernel
theorem d_Ord_readOrder_128 : decode b_Ord_readOrder 128 = .ok (.ireturn, 1) := by decide +kernel
theorem d_Ord_readOrder_129 : decode b_Ord_readOrder 129 = .ok (.aload_n 0, 1) := by decide +kernel
theorem d_Ord_readOrder_130 : decode b_Ord_readOrder 130 = .ok (.dup, 1) := by decide +kernel
theorem d_Ord_readOrder_131 : decode b_Ord_readOrder 131 = .ok (.getfield 19, 3) := by decide +kernel
theorem d_Ord_readOrder_134 : decode b_Ord_readOrder 134 = .ok (.iconst 1, 1) := by decide +kernel
theorem d_Ord_readOrder_135 : decode b_Ord_readOrder 135 = .ok (.iadd, 1) := by decide +kernel
theorem d_Ord_readOrder_136 : decode b_Ord_readOrder 136 = .ok (.putfield 19, 3) := by decide +kernel
theorem d_Ord_readOrder_139 : decode b_Ord_readOrder 139 = .ok (.iload_n 2, 1) := by decide +kernel
theorem d_Ord_readOrder_140 : decode b_Ord_readOrder 140 = .ok (.ifCond .eq 5, 3) := by decide +kernel
theorem d_Ord_readOrder_143 : decode b_Ord_readOrder 143 = .ok (.iconst 1, 1) := by decide +kernel
theorem d_Ord_readOrder_144 : decode b_Ord_readOrder 144 = .ok (.ireturn, 1) := by decide +kernel
theorem d_Ord_readOrder_145 : decode b_Ord_readOrder 145 = .ok (.aload_n 0, 1) := by decide +kernel
theorem d_Ord_readOrder_146 : decode b_Ord_readOrder 146 = .ok (.aload_n 0, 1) := by decide +kernel
theorem d_Ord_readOrder_147 : decode b_Ord_readOrder 147 = .ok (.invokevirtual 68, 3) := by decide +kernel
theorem d_Ord_readOrder_150 : decode b_Ord_readOrder 150 = .ok (.putfield 36, 3) := by decide +kernel
theorem d_Ord_readOrder_153 : decode b_Ord_readOrder 153 = .ok (.aload_n 0, 1) := by decide +kernel
theorem d_Ord_readOrder_154 : decode b_Ord_readOrder 154 = .ok (.getfield 36, 3) := by decide +kernel
theorem d_Ord_readOrder_157 : decode b_Ord_readOrder 157 = .ok (.iconst (-1), 1) := by decide +kernel
theorem d_Ord_readOrder_158 : decode b_Ord_readOrder 158 = .ok (.if_icmp .eq 7, 3) := by decide +kernel
theorem d_Ord_readOrder_161 : decode b_Ord_readOrder 161 = .ok (.iconst 1, 1) := by decide +kernel
theorem d_Ord_readOrder_162 : decode b_Ord_readOrder 162 = .ok (.goto 4, 3) := by decide +kernel
theorem d_Ord_readOrder_165 : decode b_Ord_readOrder 165 = .ok (.iconst 0, 1) := by decide +kernel
theorem d_Ord_readOrder_166 : decode b_Ord_readOrder 166 = .ok (.ireturn, 1) := by decide +kernel
theorem d_Ord_readNumber_0 : decode b_Ord_readNumber 0 = .ok (.aload_n 0, 1) := by decide +kernel
theorem d_Ord_readNumber_1 : decode b_Ord_readNumber 1 = .ok (.invokevirtual 65, 3) := by decide +kernel
theorem d_Ord_readNumber_4 : decode b_Ord_readNumber 4 = .ok (.invokestatic 71, 3) := by decide +kernel
theorem d_Ord_readNumber_7 : decode b_Ord_readNumber 7 = .ok (.ifCond .ne 5, 3) := by decide +kernel
theorem d_Ord_readNumber_10 : decode b_Ord_readNumber 10 = .ok (.iconst (-1), 1) := by decide +kernel
theorem d_Ord_readNumber_11 : decode b_Ord_readNumber 11 = .ok (.ireturn, 1) := by decide +kernel
theorem d_Ord_readNumber_12 : decode b_Ord_readNumber 12 = .ok (.aload_n 0, 1) := by decide +kernel
theorem d_Ord_readNumber_13 : decode b_Ord_readNumber 13 = .ok (.invokevirtual 65, 3) := by decide +kernel
theorem d_Ord_readNumber_16 : decode b_Ord_readNumber 16 = .ok (.bipush 48, 2) := by decide +kernel
theorem d_Ord_readNumber_18 : decode b_Ord_readNumber 18 = .ok (.isub, 1) := by decide +kernel
theorem d_Ord_readNumber_19 : decode b_Ord_readNumber 19 = .ok (.istore_n 1, 1) := by decide +kernel
theorem d_Ord_readNumber_20 : decode b_Ord_readNumber 20 = .ok (.aload_n 0, 1) := by decide +kernel
theorem d_Ord_readNumber_21 : decode b_Ord_readNumber 21 = .ok (.dup, 1) := by decide +kernel
theorem d_Ord_readNumber_22 : decode b_Ord_readNumber 22 = .ok (.getfield 19, 3) := by decide +kernel
theorem d_Ord_readNumber_25 : decode b_Ord_readNumber 25 = .ok (.iconst 1, 1) := by decide +kernel
theorem d_Ord_readNumber_26 : decode b_Ord_readNumber 26 = .ok (.iadd, 1) := by decide +kernel
theorem d_Ord_readNumber_27 : decode b_Ord_readNumber 27 = .ok (.putfield 19, 3) := by decide +kernel
theorem d_Ord_readNumber_30 : decode b_Ord_readNumber 30 = .ok (.iload_n 1, 1) := by decide +kernel
theorem d_Ord_readNumber_31 : decode b_Ord_readNumber 31 = .ok (.ifCond .ne 5, 3) := by decide +kernel
theorem d_Ord_readNumber_34 : decode b_Ord_readNumber 34 = .ok (.iconst 0, 1) := by decide +kernel
theorem d_Ord_readNumber_35 : decode b_Ord_readNumber 35 = .ok (.ireturn, 1) := by decide +kernel
theorem d_Ord_readNumber_36 : decode b_Ord_readNumber 36 = .ok (.iconst 1, 1) := by decide +kernel
theorem d_Ord_readNumber_37 : decode b_Ord_readNumber 37 = .ok (.istore_n 2, 1) := by decide +kernel
theorem d_Ord_readNumber_38 : decode b_Ord_readNumber 38 = .ok (.iload_n 2, 1) := by decide +kernel
theorem d_Ord_readNumber_39 : decode b_Ord_readNumber 39 = .ok (.iconst 3, 1) := by decide +kernel
theorem d_Ord_readNumber_40 : decode b_Ord_readNumber 40 = .ok (.if_icmp .ge 42, 3) := by decide +kernel
theorem d_Ord_readNumber_43 : decode b_Ord_readNumber 43 = .ok (.aload_n 0, 1) := by decide +kernel
theorem d_Ord_readNumber_44 : decode b_Ord_readNumber 44 = .ok (.invokevirtual 65, 3) := by decide +kernel
theorem d_Ord_readNumber_47 : decode b_Ord_readNumber 47 = .ok (.invokestatic 71, 3) := by decide +kernel
theorem d_Ord_readNumber_50 : decode b_Ord_readNumber 50 = .ok (.ifCond .eq 32, 3) := by decide +kernel
theorem d_Ord_readNumber_53 : decode b_Ord_readNumber 53 = .ok (.iload_n 1, 1) := by decide +kernel
theorem d_Ord_readNumber_54 : decode b_Ord_readNumber 54 = .ok (.bipush 10, 2) := by decide +kernel
theorem d_Ord_readNumber_56 : decode b_Ord_readNumber 56 = .ok (.imul, 1) := by decide +kernel
theorem d_Ord_readNumber_57 : decode b_Ord_readNumber 57 = .ok (.aload_n 0, 1) := by decide +kernel
theorem d_Ord_readNumber_58 : decode b_Ord_readNumber 58 = .ok (.invokevirtual 65, 3) := by decide +kernel
theorem d_Ord_readNumber_61 : decode b_Ord_readNumber 61 = .ok (.bipush 48, 2) := by decide +kernel
theorem d_Ord_readNumber_63 : decode b_Ord_readNumber 63 = .ok (.isub, 1) := by decide +kernel
theorem d_Ord_readNumber_64 : decode b_Ord_readNumber 64 = .ok (.iadd, 1) := by decide +kernel
theorem d_Ord_readNumber_65 : decode b_Ord_readNumber 65 = .ok (.istore_n 1, 1) := by decide +kernel
theorem d_Ord_readNumber_66 : decode b_Ord_readNumber 66 = .ok (.aload_n 0, 1) := by decide +kernel
theorem d_Ord_readNumber_67 : decode b_Ord_readNumber 67 = .ok (.dup, 1) := by decide +kernel
theorem d_Ord_readNumber_68 : decode b_Ord_readNumber 68 = .ok (.getfield 19, 3) := by decide +kernel
theorem d_Ord_readNumber_71 : decode b_Ord_readNumber 71 = .ok (.iconst 1, 1) := by decide +kernel
theorem d_Ord_readNumber_72 : decode b_Ord_readNumber 72 = .ok (.iadd, 1) := by decide +kernel
theorem d_Ord_readNumber_73 : decode b_Ord_readNumber 73 = .ok (.putfield 19, 3) := by decide +kernel
theorem d_Ord_readNumber_76 : decode b_Ord_readNumber 76 = .ok (.iinc 2 1, 3) := by decide +kernel
theorem d_Ord_readNumber_79 : decode b_Ord_readNumber 79 = .ok (.goto (-41), 3) := by decide +kernel
theorem d_Ord_readNumber_82 : decode b_Ord_readNumber 82 = .ok (.iload_n 1, 1) := by decide +kernel
theorem d_Ord_readNumber_83 : decode b_Ord_readNumber 83 = .ok (.ireturn, 1) := by decide +kernel
theorem d_Ord_next_0 : decode b_Ord_next 0 = .ok (.aload_n 0, 1) := by decide +kernel
theorem d_Ord_next_1 : decode b_Ord_next 1 = .ok (.getfield 19, 3) := by decide +kernel
theorem d_Ord_next_4 : decode b_Ord_next 4 = .ok (.aload_n 0, 1) := by decide +kernel
theorem d_Ord_next_5 : decode b_Ord_next 5 = .ok (.getfield 15, 3) := by decide +kernel
theorem d_Ord_next_8 : decode b_Ord_next 8 = .ok (.if_icmp .ge 15, 3) := by decide +kernel
theorem d_Ord_next_11 : decode b_Ord_next 11 = .ok (.aload_n 0, 1) := by decide +kernel
theorem d_Ord_next_12 : decode b_Ord_next 12 = .ok (.getfield 9, 3) := by decide +kernel
theorem d_Ord_next_15 : decode b_Ord_next 15 = .ok (.aload_n 0, 1) := by decide +kernel
theorem d_Ord_next_16 : decode b_Ord_next 16 = .ok (.getfield 19, 3) := by decide +kernel
theorem d_Ord_next_19 : decode b_Ord_next 19 = .ok (.iaload, 1) := by decide +kernel
theorem d_Ord_next_20 : decode b_Ord_next 20 = .ok (.goto 4, 3) := by decide +kernel
theorem d_Ord_next_23 : decode b_Ord_next 23 = .ok (.iconst 0, 1) := by decide +kernel
theorem d_Ord_next_24 : decode b_Ord_next 24 = .ok (.ireturn, 1) := by decide +kernel
theorem d_Ord_isDigit_0 : decode b_Ord_isDigit 0 = .ok (.iload_n 0, 1) := by decide +kernel
theorem d_Ord_isDigit_1 : decode b_Ord_isDigit 1 = .ok (.bipush 48, 2) := by decide +kernel
theorem d_Ord_isDigit_3 : decode b_Ord_isDigit 3 = .ok (.if_icmp .lt 13, 3) := by decide +kernel
theorem d_Ord_isDigit_6 : decode b_Ord_isDigit 6 = .ok (.iload_n 0, 1) := by decide +kernel
theorem d_Ord_isDigit_7 : decode b_Ord_isDigit 7 = .ok (.bipush 57, 2) := by decide +kernel
theorem d_Ord_isDigit_9 : decode b_Ord_isDigit 9 = .ok (.if_icmp .gt 7, 3) := by decide +kernel
theorem d_Ord_isDigit_12 : decode b_Ord_isDigit 12 = .ok (.iconst 1, 1) := by decide +kernel
theorem d_Ord_isDigit_13 : decode b_Ord_isDigit 13 = .ok (.goto 4, 3) := by decide +kernel
theorem d_Ord_isDigit_16 : decode b_Ord_isDigit 16 = .ok (.iconst 0, 1) := by decide +kernel
theorem d_Ord_isDigit_17 : decode b_Ord_isDigit 17 = .ok (.ireturn, 1) := by decide +kernel
theorem d_Snp_init_0 : decode b_Snp_init 0 = .ok (.aload_n 0, 1) := by decide +kernel
theorem d_Snp_init_1 : decode b_Snp_init 1 = .ok (.invokespecial 1, 3) := by decide +kernel
theorem d_Snp_init_4 : decode b_Snp_init 4 = .ok (.aload_n 0, 1) := by decide +kernel
theorem d_Snp_init_5 : decode b_Snp_init 5 = .ok (.new 7, 3) := by decide +kernel
theorem d_Snp_init_8 : decode b_Snp_init 8 = .ok (.dup, 1) := by decide +kernel
theorem d_Snp_init_9 : decode b_Snp_init 9 = .ok (.invokespecial 9, 3) := by decide +kernel
theorem d_Snp_init_12 : decode b_Snp_init 12 = .ok (.putfield 10, 3) := by decide +kernel
theorem d_Snp_init_15 : decode b_Snp_init 15 = .ok (.return_, 1) := by decide +kernel
theorem d_Snp_copyFrom_0 : decode b_Snp_copyFrom 0 = .ok (.aload_n 0, 1) := by decide +kernel
theorem d_Snp_copyFrom_1 : decode b_Snp_copyFrom 1 = .ok (.aload_n 1, 1) := by decide +kernel
theorem d_Snp_copyFrom_2 : decode b_Snp_copyFrom 2 = .ok (.getfield 16, 3) := by decide +kernel
theorem d_Snp_copyFrom_5 : decode b_Snp_copyFrom 5 = .ok (.putfield 16, 3) := by decide +kernel
theorem d_Snp_copyFrom_8 : decode b_Snp_copyFrom 8 = .ok (.aload_n 0, 1) := by decide +kernel
theorem d_Snp_copyFrom_9 : decode b_Snp_copyFrom 9 = .ok (.getfield 16, 3) := by decide +kernel
theorem d_Snp_copyFrom_12 : decode b_Snp_copyFrom 12 = .ok (.ifCond .eq 14, 3) := by decide +kernel
theorem d_Snp_copyFrom_15 : decode b_Snp_copyFrom 15 = .ok (.aload_n 0, 1) := by decide +kernel
theorem d_Snp_copyFrom_16 : decode b_Snp_copyFrom 16 = .ok (.getfield 10, 3) := by decide +kernel
theorem d_Snp_copyFrom_19 : decode b_Snp_copyFrom 19 = .ok (.aload_n 1, 1) := by decide +kernel
theorem d_Snp_copyFrom_20 : decode b_Snp_copyFrom 20 = .ok (.getfield 10, 3) := by decide +kernel
theorem d_Snp_copyFrom_23 : decode b_Snp_copyFrom 23 = .ok (.invokevirtual 20, 3) := by decide +kernel
theorem d_Snp_copyFrom_26 : decode b_Snp_copyFrom 26 = .ok (.return_, 1) := by decide +kernel
theorem d_Sta_init_0 : decode b_Sta_init 0 = .ok (.aload_n 0, 1) := by decide +kernel
theorem d_Sta_init_1 : decode b_Sta_init 1 = .ok (.invokespecial 3, 3) := by decide +kernel
theorem d_Sta_init_4 : decode b_Sta_init 4 = .ok (.aload_n 0, 1) := by decide +kernel
theorem d_Sta_init_5 : decode b_Sta_init 5 = .ok (.new 9, 3) := by decide +kernel
theorem d_Sta_init_8 : decode b_Sta_init 8 = .ok (.dup, 1) := by decide +kernel
theorem d_Sta_init_9 : decode b_Sta_init 9 = .ok (.invokespecial 11, 3) := by decide +kernel
theorem d_Sta_init_12 : decode b_Sta_init 12 = .ok (.putfield 12, 3) := by decide +kernel
theorem d_Sta_init_15 : decode b_Sta_init 15 = .ok (.aload_n 0, 1) := by decide +kernel
theorem d_Sta_init_16 : decode b_Sta_init 16 = .ok (.new 18, 3) := by decide +kernel
theorem d_Sta_init_19 : decode b_Sta_init 19 = .ok (.dup, 1) := by decide +kernel
theorem d_Sta_init_20 : decode b_Sta_init 20 = .ok (.invokespecial 20, 3) := by decide +kernel
theorem d_Sta_init_23 : decode b_Sta_init 23 = .ok (.putfield 21, 3) := by decide +kernel
theorem d_Sta_init_26 : decode b_Sta_init 26 = .ok (.aload_n 0, 1) := by decide +kernel
theorem d_Sta_init_27 : decode b_Sta_init 27 = .ok (.new 18, 3) := by decide +kernel
theorem d_Sta_init_30 : decode b_Sta_init 30 = .ok (.dup, 1) := by decide +kernel
theorem d_Sta_init_31 : decode b_Sta_init 31 = .ok (.invokespecial 20, 3) := by decide +kernel
theorem d_Sta_init_34 : decode b_Sta_init 34 = .ok (.putfield 25, 3) := by decide +kernel
theorem d_Sta_init_37 : decode b_Sta_init 37 = .ok (.return_, 1) := by decide +kernel
theorem d_Sta_copyFrom_0 : decode b_Sta_copyFrom 0 = .ok (.aload_n 0, 1) := by decide +kernel
theorem d_Sta_copyFrom_1 : decode b_Sta_copyFrom 1 = .ok (.getfield 12, 3) := by decide +kernel
theorem d_Sta_copyFrom_4 : decode b_Sta_copyFrom 4 = .ok (.aload_n 1, 1) := by decide +kernel
theorem d_Sta_copyFrom_5 : decode b_Sta_copyFrom 5 = .ok (.getfield 12, 3) := by decide +kernel
theorem d_Sta_copyFrom_8 : decode b_Sta_copyFrom 8 = .ok (.invokevirtual 28, 3) := by decide +kernel
theorem d_Sta_copyFrom_11 : decode b_Sta_copyFrom 11 = .ok (.aload_n 0, 1) := by decide +kernel
theorem d_Sta_copyFrom_12 : decode b_Sta_copyFrom 12 = .ok (.getfield 21, 3) := by decide +kernel
theorem d_Sta_copyFrom_15 : decode b_Sta_copyFrom 15 = .ok (.aload_n 1, 1) := by decide +kernel
theorem d_Sta_copyFrom_16 : decode b_Sta_copyFrom 16 = .ok (.getfield 21, 3) := by decide +kernel
theorem d_Sta_copyFrom_19 : decode b_Sta_copyFrom 19 = .ok (.invokevirtual 32, 3) := by decide +kernel
theorem d_Sta_copyFrom_22 : decode b_Sta_copyFrom 22 = .ok (.aload_n 0, 1) := by decide +kernel
theorem d_Sta_copyFrom_23 : decode b_Sta_copyFrom 23 = .ok (.getfield 25, 3) := by decide +kernel
theorem d_Sta_copyFrom_26 : decode b_Sta_copyFrom 26 = .ok (.aload_n 1, 1) := by decide +kernel
theorem d_Sta_copyFrom_27 : decode b_Sta_copyFrom 27 = .ok (.getfield 25, 3) := by decide +kernel
theorem d_Sta_copyFrom_30 : decode b_Sta_copyFrom 30 = .ok (.invokevirtual 32, 3) := by decide +kernel
theorem d_Sta_copyFrom_33 : decode b_Sta_copyFrom 33 = .ok (.return_, 1) := by decide +kernel
theorem d_Sta_snapshots_0 : decode b_Sta_snapshots 0 = .ok (.aload_n 0, 1) := by decide +kernel
theorem d_Sta_snapshots_1 : decode b_Sta_snapshots 1 = .ok (.getfield 21, 3) := by decide +kernel
theorem d_Sta_snapshots_4 : decode b_Sta_snapshots 4 = .ok (.getfield 35, 3) := by decide +kernel
theorem d_Sta_snapshots_7 : decode b_Sta_snapshots 7 = .ok (.ifCond .eq 7, 3) := by decide +kernel
theorem d_Sta_snapshots_10 : decode b_Sta_snapshots 10 = .ok (.iconst 1, 1) := by decide +kernel
theorem d_Sta_snapshots_11 : decode b_Sta_snapshots 11 = .ok (.goto 4, 3) := by decide +kernel
theorem d_Sta_snapshots_14 : decode b_Sta_snapshots 14 = .ok (.iconst 0, 1) := by decide +kernel
theorem d_Sta_snapshots_15 : decode b_Sta_snapshots 15 = .ok (.aload_n 0, 1) := by decide +kernel
theorem d_Sta_snapshots_16 : decode b_Sta_snapshots 16 = .ok (.getfield 25, 3) := by decide +kernel
theorem d_Sta_snapshots_19 : decode b_Sta_snapshots 19 = .ok (.getfield 35, 3) := by decide +kernel
theorem d_Sta_snapshots_22 : decode b_Sta_snapshots 22 = .ok (.ifCond .eq 7, 3) := by decide +kernel
theorem d_Sta_snapshots_25 : decode b_Sta_snapshots 25 = .ok (.iconst 1, 1) := by decide +kernel
theorem d_Sta_snapshots_26 : decode b_Sta_snapshots 26 = .ok (.goto 4, 3) := by decide +kernel
theorem d_Sta_snapshots_29 : decode b_Sta_snapshots 29 = .ok (.iconst 0, 1) := by decide +kernel
theorem d_Sta_snapshots_30 : decode b_Sta_snapshots 30 = .ok (.iadd, 1) := by decide +kernel
theorem d_Sta_snapshots_31 : decode b_Sta_snapshots 31 = .ok (.ireturn, 1) := by decide +kernel
theorem d_Sta_takeSnapshot_0 : decode b_Sta_takeSnapshot 0 = .ok (.iload_n 1, 1) := by decide +kernel
theorem d_Sta_takeSnapshot_1 : decode b_Sta_takeSnapshot 1 = .ok (.ifCond .lt 8, 3) := by decide +kernel
theorem d_Sta_takeSnapshot_4 : decode b_Sta_takeSnapshot 4 = .ok (.iload_n 1, 1) := by decide +kernel
theorem d_Sta_takeSnapshot_5 : decode b_Sta_takeSnapshot 5 = .ok (.iconst 1, 1) := by decide +kernel
theorem d_Sta_takeSnapshot_6 : decode b_Sta_takeSnapshot 6 = .ok (.if_icmp .le 5, 3) := by decide +kernel
theorem d_Sta_takeSnapshot_9 : decode b_Sta_takeSnapshot 9 = .ok (.iconst (-1), 1) := by decide +kernel
theorem d_Sta_takeSnapshot_10 : decode b_Sta_takeSnapshot 10 = .ok (.ireturn, 1) := by decide +kernel
theorem d_Sta_takeSnapshot_11 : decode b_Sta_takeSnapshot 11 = .ok (.iload_n 1, 1) := by decide +kernel
theorem d_Sta_takeSnapshot_12 : decode b_Sta_takeSnapshot 12 = .ok (.ifCond .ne 10, 3) := by decide +kernel
theorem d_Sta_takeSnapshot_15 : decode b_Sta_takeSnapshot 15 = .ok (.aload_n 0, 1) := by decide +kernel
theorem d_Sta_takeSnapshot_16 : decode b_Sta_takeSnapshot 16 = .ok (.getfield 21, 3) := by decide +kernel
theorem d_Sta_takeSnapshot_19 : decode b_Sta_takeSnapshot 19 = .ok (.goto 7, 3) := by decide +kernel
theorem d_Sta_takeSnapshot_22 : decode b_Sta_takeSnapshot 22 = .ok (.aload_n 0, 1) := by decide +kernel
theorem d_Sta_takeSnapshot_23 : decode b_Sta_takeSnapshot 23 = .ok (.getfield 25, 3) := by decide +kernel
theorem d_Sta_takeSnapshot_26 : decode b_Sta_takeSnapshot 26 = .ok (.astore_n 2, 1) := by decide +kernel
theorem d_Sta_takeSnapshot_27 : decode b_Sta_takeSnapshot 27 = .ok (.aload_n 2, 1) := by decide +kernel
theorem d_Sta_takeSnapshot_28 : decode b_Sta_takeSnapshot 28 = .ok (.getfield 39, 3) := by decide +kernel
theorem d_Sta_takeSnapshot_31 : decode b_Sta_takeSnapshot 31 = .ok (.aload_n 0, 1) := by decide +kernel
theorem d_Sta_takeSnapshot_32 : decode b_Sta_takeSnapshot 32 = .ok (.getfield 12, 3) := by decide +kernel
theorem d_Sta_takeSnapshot_35 : decode b_Sta_takeSnapshot 35 = .ok (.invokevirtual 28, 3) := by decide +kernel
theorem d_Sta_takeSnapshot_38 : decode b_Sta_takeSnapshot 38 = .ok (.aload_n 2, 1) := by decide +kernel
theorem d_Sta_takeSnapshot_39 : decode b_Sta_takeSnapshot 39 = .ok (.iconst 1, 1) := by decide +kernel
theorem d_Sta_takeSnapshot_40 : decode b_Sta_takeSnapshot 40 = .ok (.putfield 35, 3) := by decide +kernel
theorem d_Sta_takeSnapshot_43 : decode b_Sta_takeSnapshot 43 = .ok (.aload_n 0, 1) := by decide +kernel
theorem d_Sta_takeSnapshot_44 : decode b_Sta_takeSnapshot 44 = .ok (.getfield 12, 3) := by decide +kernel
theorem d_Sta_takeSnapshot_47 : decode b_Sta_takeSnapshot 47 = .ok (.getfield 40, 3) := by decide +kernel
theorem d_Sta_takeSnapshot_50 : decode b_Sta_takeSnapshot 50 = .ok (.ireturn, 1) := by decide +kernel
theorem d_Sta_restoreSnapshot_0 : decode b_Sta_restoreSnapshot 0 = .ok (.iload_n 1, 1) := by decide +kernel
theorem d_Sta_restoreSnapshot_1 : decode b_Sta_restoreSnapshot 1 = .ok (.ifCond .lt 8, 3) := by decide +kernel
theorem d_Sta_restoreSnapshot_4 : decode b_Sta_restoreSnapshot 4 = .ok (.iload_n 1, 1) := by decide +kernel
theorem d_Sta_restoreSnapshot_5 : decode b_Sta_restoreSnapshot 5 = .ok (.iconst 1, 1) := by decide +kernel
theorem d_Sta_restoreSnapshot_6 : decode b_Sta_restoreSnapshot 6 = .ok (.if_icmp .le 5, 3) := by decide +kernel
theorem d_Sta_restoreSnapshot_9 : decode b_Sta_restoreSnapshot 9 = .ok (.iconst (-1), 1) := by decide +kernel
theorem d_Sta_restoreSnapshot_10 : decode b_Sta_restoreSnapshot 10 = .ok (.ireturn, 1) := by decide +kernel
theorem d_Sta_restoreSnapshot_11 : decode b_Sta_restoreSnapshot 11 = .ok (.iload_n 1, 1) := by decide +kernel
theorem d_Sta_restoreSnapshot_12 : decode b_Sta_restoreSnapshot 12 = .ok (.ifCond .ne 10, 3) := by decide +kernel
theorem d_Sta_restoreSnapshot_15 : decode b_Sta_restoreSnapshot 15 = .ok (.aload_n 0, 1) := by decide +kernel
theorem d_Sta_restoreSnapshot_16 : decode b_Sta_restoreSnapshot 16 = .ok (.getfield 21, 3) := by decide +kernel
theorem d_Sta_restoreSnapshot_19 : decode b_Sta_restoreSnapshot 19 = .ok (.goto 7, 3) := by decide +kernel
theorem d_Sta_restoreSnapshot_22 : decode b_Sta_restoreSnapshot 22 = .ok (.aload_n 0, 1) := by decide +kernel
theorem d_Sta_restoreSnapshot_23 : decode b_Sta_restoreSnapshot 23 = .ok (.getfield 25, 3) := by decide +kernel
theorem d_Sta_restoreSnapshot_26 : decode b_Sta_restoreSnapshot 26 = .ok (.astore_n 2, 1) := by decide +kernel
theorem d_Sta_restoreSnapshot_27 : decode b_Sta_restoreSnapshot 27 = .ok (.aload_n 2, 1) := by decide +kernel
theorem d_Sta_restoreSnapshot_28 : decode b_Sta_restoreSnapshot 28 = .ok (.getfield 35, 3) := by decide +kernel
theorem d_Sta_restoreSnapshot_31 : decode b_Sta_restoreSnapshot 31 = .ok (.ifCond .ne 6, 3) := by decide +kernel
theorem d_Sta_restoreSnapshot_34 : decode b_Sta_restoreSnapshot 34 = .ok (.bipush (-2), 2) := by decide +kernel
theorem d_Sta_restoreSnapshot_36 : decode b_Sta_restoreSnapshot 36 = .ok (.ireturn, 1) := by decide +kernel
theorem d_Sta_restoreSnapshot_37 : decode b_Sta_restoreSnapshot 37 = .ok (.aload_n 0, 1) := by decide +kernel
theorem d_Sta_restoreSnapshot_38 : decode b_Sta_restoreSnapshot 38 = .ok (.getfield 12, 3) := by decide +kernel
theorem d_Sta_restoreSnapshot_41 : decode b_Sta_restoreSnapshot 41 = .ok (.aload_n 2, 1) := by decide +kernel
theorem d_Sta_restoreSnapshot_42 : decode b_Sta_restoreSnapshot 42 = .ok (.getfield 39, 3) := by decide +kernel
theorem d_Sta_restoreSnapshot_45 : decode b_Sta_restoreSnapshot 45 = .ok (.invokevirtual 28, 3) := by decide +kernel
theorem d_Sta_restoreSnapshot_48 : decode b_Sta_restoreSnapshot 48 = .ok (.aload_n 0, 1) := by decide +kernel
theorem d_Sta_restoreSnapshot_49 : decode b_Sta_restoreSnapshot 49 = .ok (.getfield 12, 3) := by decide +kernel
theorem d_Sta_restoreSnapshot_52 : decode b_Sta_restoreSnapshot 52 = .ok (.getfield 40, 3) := by decide +kernel
theorem d_Sta_restoreSnapshot_55 : decode b_Sta_restoreSnapshot 55 = .ok (.ireturn, 1) := by decide +kernel
theorem d_Ham_init_0 : decode b_Ham_init 0 = .ok (.aload_n 0, 1) := by decide +kernel
theorem d_Ham_init_1 : decode b_Ham_init 1 = .ok (.invokespecial 1, 3) := by decide +kernel
theorem d_Ham_init_4 : decode b_Ham_init 4 = .ok (.aload_n 0, 1) := by decide +kernel
theorem d_Ham_init_5 : decode b_Ham_init 5 = .ok (.new 7, 3) := by decide +kernel
theorem d_Ham_init_8 : decode b_Ham_init 8 = .ok (.dup, 1) := by decide +kernel
theorem d_Ham_init_9 : decode b_Ham_init 9 = .ok (.invokespecial 9, 3) := by decide +kernel
theorem d_Ham_init_12 : decode b_Ham_init 12 = .ok (.putfield 10, 3) := by decide +kernel
theorem d_Ham_init_15 : decode b_Ham_init 15 = .ok (.aload_n 0, 1) := by decide +kernel
theorem d_Ham_init_16 : decode b_Ham_init 16 = .ok (.new 16, 3) := by decide +kernel
theorem d_Ham_init_19 : decode b_Ham_init 19 = .ok (.dup, 1) := by decide +kernel
theorem d_Ham_init_20 : decode b_Ham_init 20 = .ok (.invokespecial 18, 3) := by decide +kernel
theorem d_Ham_init_23 : decode b_Ham_init 23 = .ok (.putfield 19, 3) := by decide +kernel
theorem d_Ham_init_26 : decode b_Ham_init 26 = .ok (.aload_n 0, 1) := by decide +kernel
theorem d_Ham_init_27 : decode b_Ham_init 27 = .ok (.new 23, 3) := by decide +kernel
theorem d_Ham_init_30 : decode b_Ham_init 30 = .ok (.dup, 1) := by decide +kernel
theorem d_Ham_init_31 : decode b_Ham_init 31 = .ok (.invokespecial 25, 3) := by decide +kernel
theorem d_Ham_init_34 : decode b_Ham_init 34 = .ok (.putfield 26, 3) := by decide +kernel
theorem d_Ham_init_37 : decode b_Ham_init 37 = .ok (.aload_n 0, 1) := by decide +kernel
theorem d_Ham_init_38 : decode b_Ham_init 38 = .ok (.new 30, 3) := by decide +kernel
theorem d_Ham_init_41 : decode b_Ham_init 41 = .ok (.dup, 1) := by decide +kernel
theorem d_Ham_init_42 : decode b_Ham_init 42 = .ok (.invokespecial 32, 3) := by decide +kernel
theorem d_Ham_init_45 : decode b_Ham_init 45 = .ok (.putfield 33, 3) := by decide +kernel
theorem d_Ham_init_48 : decode b_Ham_init 48 = .ok (.return_, 1) := by decide +kernel
theorem d_Ham_join_0 : decode b_Ham_join 0 = .ok (.aload_n 0, 1) := by decide +kernel
theorem d_Ham_join_1 : decode b_Ham_join 1 = .ok (.getfield 19, 3) := by decide +kernel
theorem d_Ham_join_4 : decode b_Ham_join 4 = .ok (.aload_n 0, 1) := by decide +kernel
theorem d_Ham_join_5 : decode b_Ham_join 5 = .ok (.getfield 10, 3) := by decide +kernel
theorem d_Ham_join_8 : decode b_Ham_join 8 = .ok (.invokevirtual 37, 3) := by decide +kernel
theorem d_Ham_join_11 : decode b_Ham_join 11 = .ok (.aload_n 0, 1) := by decide +kernel
theorem d_Ham_join_12 : decode b_Ham_join 12 = .ok (.aload_n 0, 1) := by decide +kernel
theorem d_Ham_join_13 : decode b_Ham_join 13 = .ok (.getfield 10, 3) := by decide +kernel
theorem d_Ham_join_16 : decode b_Ham_join 16 = .ok (.getfield 41, 3) := by decide +kernel
theorem d_Ham_join_19 : decode b_Ham_join 19 = .ok (.invokevirtual 44, 3) := by decide +kernel
theorem d_Ham_join_22 : decode b_Ham_join 22 = .ok (.invokevirtual 48, 3) := by decide +kernel
theorem d_Ham_join_25 : decode b_Ham_join 25 = .ok (.ireturn, 1) := by decide +kernel
theorem d_Ham_stick_0 : decode b_Ham_stick 0 = .ok (.aload_n 0, 1) := by decide +kernel
theorem d_Ham_stick_1 : decode b_Ham_stick 1 = .ok (.getfield 19, 3) := by decide +kernel
theorem d_Ham_stick_4 : decode b_Ham_stick 4 = .ok (.aload_n 0, 1) := by decide +kernel
theorem d_Ham_stick_5 : decode b_Ham_stick 5 = .ok (.getfield 10, 3) := by decide +kernel
theorem d_Ham_stick_8 : decode b_Ham_stick 8 = .ok (.invokevirtual 37, 3) := by decide +kernel
theorem d_Ham_stick_11 : decode b_Ham_stick 11 = .ok (.aload_n 0, 1) := by decide +kernel
theorem d_Ham_stick_12 : decode b_Ham_stick 12 = .ok (.aload_n 0, 1) := by decide +kernel
theorem d_Ham_stick_13 : decode b_Ham_stick 13 = .ok (.getfield 10, 3) := by decide +kernel
theorem d_Ham_stick_16 : decode b_Ham_stick 16 = .ok (.getfield 41, 3) := by decide +kernel
theorem d_Ham_stick_19 : decode b_Ham_stick 19 = .ok (.iload_n 1, 1) := by decide +kernel
theorem d_Ham_stick_20 : decode b_Ham_stick 20 = .ok (.iload_n 2, 1) := by decide +kernel
theorem d_Ham_stick_21 : decode b_Ham_stick 21 = .ok (.invokevirtual 52, 3) := by decide +kernel
theorem d_Ham_stick_24 : decode b_Ham_stick 24 = .ok (.invokevirtual 48, 3) := by decide +kernel
theorem d_Ham_stick_27 : decode b_Ham_stick 27 = .ok (.ireturn, 1) := by decide +kernel
theorem d_Ham_withdraw_0 : decode b_Ham_withdraw 0 = .ok (.aload_n 0, 1) := by decide +kernel
theorem d_Ham_withdraw_1 : decode b_Ham_withdraw 1 = .ok (.getfield 19, 3) := by decide +kernel
theorem d_Ham_withdraw_4 : decode b_Ham_withdraw 4 = .ok (.aload_n 0, 1) := by decide +kernel
theorem d_Ham_withdraw_5 : decode b_Ham_withdraw 5 = .ok (.getfield 10, 3) := by decide +kernel
theorem d_Ham_withdraw_8 : decode b_Ham_withdraw 8 = .ok (.invokevirtual 37, 3) := by decide +kernel
theorem d_Ham_withdraw_11 : decode b_Ham_withdraw 11 = .ok (.aload_n 0, 1) := by decide +kernel
theorem d_Ham_withdraw_12 : decode b_Ham_withdraw 12 = .ok (.aload_n 0, 1) := by decide +kernel
theorem d_Ham_withdraw_13 : decode b_Ham_withdraw 13 = .ok (.getfield 10, 3) := by decide +kernel
theorem d_Ham_withdraw_16 : decode b_Ham_withdraw 16 = .ok (.getfield 41, 3) := by decide +kernel
theorem d_Ham_withdraw_19 : decode b_Ham_withdraw 19 = .ok (.iload_n 1, 1) := by decide +kernel
theorem d_Ham_withdraw_20 : decode b_Ham_withdraw 20 = .ok (.iload_n 2, 1) := by decide +kernel
theorem d_Ham_withdraw_21 : decode b_Ham_withdraw 21 = .ok (.invokevirtual 56, 3) := by decide +kernel
theorem d_Ham_withdraw_24 : decode b_Ham_withdraw 24 = .ok (.invokevirtual 48, 3) := by decide +kernel
theorem d_Ham_withdraw_27 : decode b_Ham_withdraw 27 = .ok (.ireturn, 1) := by decide +kernel
theorem d_Ham_mislay_0 : decode b_Ham_mislay 0 = .ok (.aload_n 0, 1) := by decide +kernel
theorem d_Ham_mislay_1 : decode b_Ham_mislay 1 = .ok (.getfield 19, 3) := by decide +kernel
theorem d_Ham_mislay_4 : decode b_Ham_mislay 4 = .ok (.aload_n 0, 1) := by decide +kernel
theorem d_Ham_mislay_5 : decode b_Ham_mislay 5 = .ok (.getfield 10, 3) := by decide +kernel
theorem d_Ham_mislay_8 : decode b_Ham_mislay 8 = .ok (.invokevirtual 37, 3) := by decide +kernel
theorem d_Ham_mislay_11 : decode b_Ham_mislay 11 = .ok (.aload_n 0, 1) := by decide +kernel
theorem d_Ham_mislay_12 : decode b_Ham_mislay 12 = .ok (.aload_n 0, 1) := by decide +kernel
theorem d_Ham_mislay_13 : decode b_Ham_mislay 13 = .ok (.getfield 10, 3) := by decide +kernel
theorem d_Ham_mislay_16 : decode b_Ham_mislay 16 = .ok (.getfield 41, 3) := by decide +kernel
theorem d_Ham_mislay_19 : decode b_Ham_mislay 19 = .ok (.iload_n 1, 1) := by decide +kernel
theorem d_Ham_mislay_20 : decode b_Ham_mislay 20 = .ok (.invokevirtual 59, 3) := by decide +kernel
theorem d_Ham_mislay_23 : decode b_Ham_mislay 23 = .ok (.invokevirtual 48, 3) := by decide +kernel
theorem d_Ham_mislay_26 : decode b_Ham_mislay 26 = .ok (.ireturn, 1) := by decide +kernel
theorem d_Ham_find_0 : decode b_Ham_find 0 = .ok (.aload_n 0, 1) := by decide +kernel
theorem d_Ham_find_1 : decode b_Ham_find 1 = .ok (.getfield 19, 3) := by decide +kernel
theorem d_Ham_find_4 : decode b_Ham_find 4 = .ok (.aload_n 0, 1) := by decide +kernel
theorem d_Ham_find_5 : decode b_Ham_find 5 = .ok (.getfield 10, 3) := by decide +kernel
theorem d_Ham_find_8 : decode b_Ham_find 8 = .ok (.invokevirtual 37, 3) := by decide +kernel
theorem d_Ham_find_11 : decode b_Ham_find 11 = .ok (.aload_n 0, 1) := by decide +kernel
theorem d_Ham_find_12 : decode b_Ham_find 12 = .ok (.aload_n 0, 1) := by decide +kernel
theorem d_Ham_find_13 : decode b_Ham_find 13 = .ok (.getfield 10, 3) := by decide +kernel
theorem d_Ham_find_16 : decode b_Ham_find 16 = .ok (.getfield 41, 3) := by decide +kernel
theorem d_Ham_find_19 : decode b_Ham_find 19 = .ok (.iload_n 1, 1) := by decide +kernel
theorem d_Ham_find_20 : decode b_Ham_find 20 = .ok (.invokevirtual 62, 3) := by decide +kernel
theorem d_Ham_find_23 : decode b_Ham_find 23 = .ok (.invokevirtual 48, 3) := by decide +kernel
theorem d_Ham_find_26 : decode b_Ham_find 26 = .ok (.ireturn, 1) := by decide +kernel
theorem d_Ham_setHamper_0 : decode b_Ham_setHamper 0 = .ok (.aload_n 0, 1) := by decide +kernel
theorem d_Ham_setHamper_1 : decode b_Ham_setHamper 1 = .ok (.getfield 19, 3) := by decide +kernel
theorem d_Ham_setHamper_4 : decode b_Ham_setHamper 4 = .ok (.aload_n 0, 1) := by decide +kernel
theorem d_Ham_setHamper_5 : decode b_Ham_setHamper 5 = .ok (.getfield 10, 3) := by decide +kernel
theorem d_Ham_setHamper_8 : decode b_Ham_setHamper 8 = .ok (.invokevirtual 37, 3) := by decide +kernel
theorem d_Ham_setHamper_11 : decode b_Ham_setHamper 11 = .ok (.aload_n 0, 1) := by decide +kernel
theorem d_Ham_setHamper_12 : decode b_Ham_setHamper 12 = .ok (.aload_n 0, 1) := by decide +kernel
theorem d_Ham_setHamper_13 : decode b_Ham_setHamper 13 = .ok (.getfield 10, 3) := by decide +kernel
theorem d_Ham_setHamper_16 : decode b_Ham_setHamper 16 = .ok (.getfield 41, 3) := by decide +kernel
theorem d_Ham_setHamper_19 : decode b_Ham_setHamper 19 = .ok (.iload_n 1, 1) := by decide +kernel
theorem d_Ham_setHamper_20 : decode b_Ham_setHamper 20 = .ok (.iload_n 2, 1) := by decide +kernel
theorem d_Ham_setHamper_21 : decode b_Ham_setHamper 21 = .ok (.iload_n 3, 1) := by decide +kernel
theorem d_Ham_setHamper_22 : decode b_Ham_setHamper 22 = .ok (.invokevirtual 65, 3) := by decide +kernel
theorem d_Ham_setHamper_25 : decode b_Ham_setHamper 25 = .ok (.invokevirtual 48, 3) := by decide +kernel
theorem d_Ham_setHamper_28 : decode b_Ham_setHamper 28 = .ok (.ireturn, 1) := by decide +kernel
theorem d_Ham_choose_0 : decode b_Ham_choose 0 = .ok (.aload_n 0, 1) := by decide +kernel
theorem d_Ham_choose_1 : decode b_Ham_choose 1 = .ok (.getfield 19, 3) := by decide +kernel
theorem d_Ham_choose_4 : decode b_Ham_choose 4 = .ok (.aload_n 0, 1) := by decide +kernel
theorem d_Ham_choose_5 : decode b_Ham_choose 5 = .ok (.getfield 10, 3) := by decide +kernel
theorem d_Ham_choose_8 : decode b_Ham_choose 8 = .ok (.invokevirtual 37, 3) := by decide +kernel
theorem d_Ham_choose_11 : decode b_Ham_choose 11 = .ok (.aload_n 0, 1) := by decide +kernel
theorem d_Ham_choose_12 : decode b_Ham_choose 12 = .ok (.aload_n 0, 1) := by decide +kernel
theorem d_Ham_choose_13 : decode b_Ham_choose 13 = .ok (.getfield 10, 3) := by decide +kernel
theorem d_Ham_choose_16 : decode b_Ham_choose 16 = .ok (.getfield 41, 3) := by decide +kernel
theorem d_Ham_choose_19 : decode b_Ham_choose 19 = .ok (.iload_n 1, 1) := by decide +kernel
theorem d_Ham_choose_20 : decode b_Ham_choose 20 = .ok (.iload_n 2, 1) := by decide +kernel
theorem d_Ham_choose_21 : decode b_Ham_choose 21 = .ok (.invokevirtual 69, 3) := by decide +kernel
theorem d_Ham_choose_24 : decode b_Ham_choose 24 = .ok (.invokevirtual 48, 3) := by decide +kernel
theorem d_Ham_choose_27 : decode b_Ham_choose 27 = .ok (.ireturn, 1) := by decide +kernel
theorem d_Ham_giveUp_0 : decode b_Ham_giveUp 0 = .ok (.aload_n 0, 1) := by decide +kernel
theorem d_Ham_giveUp_1 : decode b_Ham_giveUp 1 = .ok (.getfield 19, 3) := by decide +kernel
theorem d_Ham_giveUp_4 : decode b_Ham_giveUp 4 = .ok (.aload_n 0, 1) := by decide +kernel
theorem d_Ham_giveUp_5 : decode b_Ham_giveUp 5 = .ok (.getfield 10, 3) := by decide +kernel
theorem d_Ham_giveUp_8 : decode b_Ham_giveUp 8 = .ok (.invokevirtual 37, 3) := by decide +kernel
theorem d_Ham_giveUp_11 : decode b_Ham_giveUp 11 = .ok (.aload_n 0, 1) := by decide +kernel
theorem d_Ham_giveUp_12 : decode b_Ham_giveUp 12 = .ok (.aload_n 0, 1) := by decide +kernel
theorem d_Ham_giveUp_13 : decode b_Ham_giveUp 13 = .ok (.getfield 10, 3) := by decide +kernel
theorem d_Ham_giveUp_16 : decode b_Ham_giveUp 16 = .ok (.getfield 41, 3) := by decide +kernel
theorem d_Ham_giveUp_19 : decode b_Ham_giveUp 19 = .ok (.iload_n 1, 1) := by decide +kernel
theorem d_Ham_giveUp_20 : decode b_Ham_giveUp 20 = .ok (.invokevirtual 72, 3) := by decide +kernel
theorem d_Ham_giveUp_23 : decode b_Ham_giveUp 23 = .ok (.invokevirtual 48, 3) := by decide +kernel
theorem d_Ham_giveUp_26 : decode b_Ham_giveUp 26 = .ok (.ireturn, 1) := by decide +kernel
theorem d_Ham_week_0 : decode b_Ham_week 0 = .ok (.aload_n 0, 1) := by decide +kernel
theorem d_Ham_week_1 : decode b_Ham_week 1 = .ok (.getfield 19, 3) := by decide +kernel
theorem d_Ham_week_4 : decode b_Ham_week 4 = .ok (.aload_n 0, 1) := by decide +kernel
theorem d_Ham_week_5 : decode b_Ham_week 5 = .ok (.getfield 10, 3) := by decide +kernel
theorem d_Ham_week_8 : decode b_Ham_week 8 = .ok (.invokevirtual 37, 3) := by decide +kernel
theorem d_Ham_week_11 : decode b_Ham_week 11 = .ok (.aload_n 0, 1) := by decide +kernel
theorem d_Ham_week_12 : decode b_Ham_week 12 = .ok (.aload_n 0, 1) := by decide +kernel
theorem d_Ham_week_13 : decode b_Ham_week 13 = .ok (.getfield 10, 3) := by decide +kernel
theorem d_Ham_week_16 : decode b_Ham_week 16 = .ok (.getfield 41, 3) := by decide +kernel
theorem d_Ham_week_19 : decode b_Ham_week 19 = .ok (.invokevirtual 75, 3) := by decide +kernel
theorem d_Ham_week_22 : decode b_Ham_week 22 = .ok (.invokevirtual 48, 3) := by decide +kernel
theorem d_Ham_week_25 : decode b_Ham_week 25 = .ok (.ireturn, 1) := by decide +kernel
theorem d_Ham_settle_0 : decode b_Ham_settle 0 = .ok (.aload_n 0, 1) := by decide +kernel
theorem d_Ham_settle_1 : decode b_Ham_settle 1 = .ok (.getfield 19, 3) := by decide +kernel
theorem d_Ham_settle_4 : decode b_Ham_settle 4 = .ok (.aload_n 0, 1) := by decide +kernel
theorem d_Ham_settle_5 : decode b_Ham_settle 5 = .ok (.getfield 10, 3) := by decide +kernel
theorem d_Ham_settle_8 : decode b_Ham_settle 8 = .ok (.invokevirtual 37, 3) := by decide +kernel
theorem d_Ham_settle_11 : decode b_Ham_settle 11 = .ok (.aload_n 0, 1) := by decide +kernel
theorem d_Ham_settle_12 : decode b_Ham_settle 12 = .ok (.aload_n 0, 1) := by decide +kernel
theorem d_Ham_settle_13 : decode b_Ham_settle 13 = .ok (.getfield 10, 3) := by decide +kernel
theorem d_Ham_settle_16 : decode b_Ham_settle 16 = .ok (.getfield 41, 3) := by decide +kernel
theorem d_Ham_settle_19 : decode b_Ham_settle 19 = .ok (.invokevirtual 78, 3) := by decide +kernel
theorem d_Ham_settle_22 : decode b_Ham_settle 22 = .ok (.invokevirtual 48, 3) := by decide +kernel
theorem d_Ham_settle_25 : decode b_Ham_settle 25 = .ok (.ireturn, 1) := by decide +kernel
theorem d_Ham_take_0 : decode b_Ham_take 0 = .ok (.aload_n 0, 1) := by decide +kernel
theorem d_Ham_take_1 : decode b_Ham_take 1 = .ok (.getfield 19, 3) := by decide +kernel
theorem d_Ham_take_4 : decode b_Ham_take 4 = .ok (.aload_n 0, 1) := by decide +kernel
theorem d_Ham_take_5 : decode b_Ham_take 5 = .ok (.getfield 10, 3) := by decide +kernel
theorem d_Ham_take_8 : decode b_Ham_take 8 = .ok (.invokevirtual 37, 3) := by decide +kernel
theorem d_Ham_take_11 : decode b_Ham_take 11 = .ok (.aload_n 0, 1) := by decide +kernel
theorem d_Ham_take_12 : decode b_Ham_take 12 = .ok (.aload_n 0, 1) := by decide +kernel
theorem d_Ham_take_13 : decode b_Ham_take 13 = .ok (.getfield 10, 3) := by decide +kernel
theorem d_Ham_take_16 : decode b_Ham_take 16 = .ok (.iload_n 1, 1) := by decide +kernel
theorem d_Ham_take_17 : decode b_Ham_take 17 = .ok (.invokevirtual 81, 3) := by decide +kernel
theorem d_Ham_take_20 : decode b_Ham_take 20 = .ok (.invokevirtual 48, 3) := by decide +kernel
theorem d_Ham_take_23 : decode b_Ham_take 23 = .ok (.ireturn, 1) := by decide +kernel
theorem d_Ham_restore_0 : decode b_Ham_restore 0 = .ok (.aload_n 0, 1) := by decide +kernel
theorem d_Ham_restore_1 : decode b_Ham_restore 1 = .ok (.getfield 19, 3) := by decide +kernel
theorem d_Ham_restore_4 : decode b_Ham_restore 4 = .ok (.aload_n 0, 1) := by decide +kernel
theorem d_Ham_restore_5 : decode b_Ham_restore 5 = .ok (.getfield 10, 3) := by decide +kernel
theorem d_Ham_restore_8 : decode b_Ham_restore 8 = .ok (.invokevirtual 37, 3) := by decide +kernel
theorem d_Ham_restore_11 : decode b_Ham_restore 11 = .ok (.aload_n 0, 1) := by decide +kernel
theorem d_Ham_restore_12 : decode b_Ham_restore 12 = .ok (.aload_n 0, 1) := by decide +kernel
theorem d_Ham_restore_13 : decode b_Ham_restore 13 = .ok (.getfield 10, 3) := by decide +kernel
theorem d_Ham_restore_16 : decode b_Ham_restore 16 = .ok (.iload_n 1, 1) := by decide +kernel
theorem d_Ham_restore_17 : decode b_Ham_restore 17 = .ok (.invokevirtual 84, 3) := by decide +kernel
theorem d_Ham_restore_20 : decode b_Ham_restore 20 = .ok (.invokevirtual 48, 3) := by decide +kernel
theorem d_Ham_restore_23 : decode b_Ham_restore 23 = .ok (.ireturn, 1) := by decide +kernel
theorem d_Ham_undo_0 : decode b_Ham_undo 0 = .ok (.aload_n 0, 1) := by decide +kernel
theorem d_Ham_undo_1 : decode b_Ham_undo 1 = .ok (.getfield 19, 3) := by decide +kernel
theorem d_Ham_undo_4 : decode b_Ham_undo 4 = .ok (.aload_n 0, 1) := by decide +kernel
theorem d_Ham_undo_5 : decode b_Ham_undo 5 = .ok (.getfield 10, 3) := by decide +kernel
theorem d_Ham_undo_8 : decode b_Ham_undo 8 = .ok (.invokevirtual 87, 3) := by decide +kernel
theorem d_Ham_undo_11 : decode b_Ham_undo 11 = .ok (.ifCond .eq 13, 3) := by decide +kernel
theorem d_Ham_undo_14 : decode b_Ham_undo 14 = .ok (.aload_n 0, 1) := by decide +kernel
theorem d_Ham_undo_15 : decode b_Ham_undo 15 = .ok (.getfield 19, 3) := by decide +kernel
theorem d_Ham_undo_18 : decode b_Ham_undo 18 = .ok (.getfield 91, 3) := by decide +kernel
theorem d_Ham_undo_21 : decode b_Ham_undo 21 = .ok (.goto 5, 3) := by decide +kernel
theorem d_Ham_undo_24 : decode b_Ham_undo 24 = .ok (.bipush (-2), 2) := by decide +kernel
theorem d_Ham_undo_26 : decode b_Ham_undo 26 = .ok (.ireturn, 1) := by decide +kernel
theorem d_Ham_append_0 : decode b_Ham_append 0 = .ok (.iload_n 1, 1) := by decide +kernel
theorem d_Ham_append_1 : decode b_Ham_append 1 = .ok (.iconst 1, 1) := by decide +kernel
theorem d_Ham_append_2 : decode b_Ham_append 2 = .ok (.if_icmp .lt 10, 3) := by decide +kernel
theorem d_Ham_append_5 : decode b_Ham_append 5 = .ok (.iload_n 1, 1) := by decide +kernel
theorem d_Ham_append_6 : decode b_Ham_append 6 = .ok (.sipush 255, 3) := by decide +kernel
theorem d_Ham_append_9 : decode b_Ham_append 9 = .ok (.if_icmp .le 5, 3) := by decide +kernel
theorem d_Ham_append_12 : decode b_Ham_append 12 = .ok (.iconst (-1), 1) := by decide +kernel
theorem d_Ham_append_13 : decode b_Ham_append 13 = .ok (.ireturn, 1) := by decide +kernel
theorem d_Ham_append_14 : decode b_Ham_append 14 = .ok (.aload_n 0, 1) := by decide +kernel
theorem d_Ham_append_15 : decode b_Ham_append 15 = .ok (.getfield 26, 3) := by decide +kernel
theorem d_Ham_append_18 : decode b_Ham_append 18 = .ok (.iload_n 1, 1) := by decide +kernel
theorem d_Ham_append_19 : decode b_Ham_append 19 = .ok (.invokevirtual 95, 3) := by decide +kernel
theorem d_Ham_append_22 : decode b_Ham_append 22 = .ok (.ifCond .eq 13, 3) := by decide +kernel
theorem d_Ham_append_25 : decode b_Ham_append 25 = .ok (.aload_n 0, 1) := by decide +kernel
theorem d_Ham_append_26 : decode b_Ham_append 26 = .ok (.getfield 26, 3) := by decide +kernel
theorem d_Ham_append_29 : decode b_Ham_append 29 = .ok (.getfield 99, 3) := by decide +kernel
theorem d_Ham_append_32 : decode b_Ham_append 32 = .ok (.goto 5, 3) := by decide +kernel
theorem d_Ham_append_35 : decode b_Ham_append 35 = .ok (.bipush (-3), 2) := by decide +kernel
theorem d_Ham_append_37 : decode b_Ham_append 37 = .ok (.ireturn, 1) := by decide +kernel
theorem d_Ham_clearText_0 : decode b_Ham_clearText 0 = .ok (.aload_n 0, 1) := by decide +kernel
theorem d_Ham_clearText_1 : decode b_Ham_clearText 1 = .ok (.getfield 26, 3) := by decide +kernel
theorem d_Ham_clearText_4 : decode b_Ham_clearText 4 = .ok (.getfield 99, 3) := by decide +kernel
theorem d_Ham_clearText_7 : decode b_Ham_clearText 7 = .ok (.istore_n 1, 1) := by decide +kernel
theorem d_Ham_clearText_8 : decode b_Ham_clearText 8 = .ok (.aload_n 0, 1) := by decide +kernel
theorem d_Ham_clearText_9 : decode b_Ham_clearText 9 = .ok (.getfield 26, 3) := by decide +kernel
theorem d_Ham_clearText_12 : decode b_Ham_clearText 12 = .ok (.iconst 0, 1) := by decide +kernel
theorem d_Ham_clearText_13 : decode b_Ham_clearText 13 = .ok (.putfield 99, 3) := by decide +kernel
theorem d_Ham_clearText_16 : decode b_Ham_clearText 16 = .ok (.iload_n 1, 1) := by decide +kernel
theorem d_Ham_clearText_17 : decode b_Ham_clearText 17 = .ok (.ireturn, 1) := by decide +kernel
theorem d_Ham_carryOut_0 : decode b_Ham_carryOut 0 = .ok (.aload_n 0, 1) := by decide +kernel
theorem d_Ham_carryOut_1 : decode b_Ham_carryOut 1 = .ok (.getfield 26, 3) := by decide +kernel
theorem d_Ham_carryOut_4 : decode b_Ham_carryOut 4 = .ok (.invokevirtual 102, 3) := by decide +kernel
theorem d_Ham_carryOut_7 : decode b_Ham_carryOut 7 = .ok (.istore_n 1, 1) := by decide +kernel
theorem d_Ham_carryOut_8 : decode b_Ham_carryOut 8 = .ok (.iload_n 1, 1) := by decide +kernel
theorem d_Ham_carryOut_9 : decode b_Ham_carryOut 9 = .ok (.iconst (-1), 1) := by decide +kernel
theorem d_Ham_carryOut_10 : decode b_Ham_carryOut 10 = .ok (.if_icmp .eq 9, 3) := by decide +kernel
theorem d_Ham_carryOut_13 : decode b_Ham_carryOut 13 = .ok (.sipush (-1000), 3) := by decide +kernel
theorem d_Ham_carryOut_16 : decode b_Ham_carryOut 16 = .ok (.iload_n 1, 1) := by decide +kernel
theorem d_Ham_carryOut_17 : decode b_Ham_carryOut 17 = .ok (.isub, 1) := by decide +kernel
theorem d_Ham_carryOut_18 : decode b_Ham_carryOut 18 = .ok (.ireturn, 1) := by decide +kernel
theorem d_Ham_carryOut_19 : decode b_Ham_carryOut 19 = .ok (.aload_n 0, 1) := by decide +kernel
theorem d_Ham_carryOut_20 : decode b_Ham_carryOut 20 = .ok (.getfield 10, 3) := by decide +kernel
theorem d_Ham_carryOut_23 : decode b_Ham_carryOut 23 = .ok (.getfield 41, 3) := by decide +kernel
theorem d_Ham_carryOut_26 : decode b_Ham_carryOut 26 = .ok (.getfield 105, 3) := by decide +kernel
theorem d_Ham_carryOut_29 : decode b_Ham_carryOut 29 = .ok (.ifCond .eq 6, 3) := by decide +kernel
theorem d_Ham_carryOut_32 : decode b_Ham_carryOut 32 = .ok (.bipush (-2), 2) := by decide +kernel
theorem d_Ham_carryOut_34 : decode b_Ham_carryOut 34 = .ok (.ireturn, 1) := by decide +kernel
theorem d_Ham_carryOut_35 : decode b_Ham_carryOut 35 = .ok (.aload_n 0, 1) := by decide +kernel
theorem d_Ham_carryOut_36 : decode b_Ham_carryOut 36 = .ok (.getfield 19, 3) := by decide +kernel
theorem d_Ham_carryOut_39 : decode b_Ham_carryOut 39 = .ok (.aload_n 0, 1) := by decide +kernel
theorem d_Ham_carryOut_40 : decode b_Ham_carryOut 40 = .ok (.getfield 10, 3) := by decide +kernel
theorem d_Ham_carryOut_43 : decode b_Ham_carryOut 43 = .ok (.invokevirtual 37, 3) := by decide +kernel
theorem d_Ham_carryOut_46 : decode b_Ham_carryOut 46 = .ok (.aload_n 0, 1) := by decide +kernel
theorem d_Ham_carryOut_47 : decode b_Ham_carryOut 47 = .ok (.getfield 26, 3) := by decide +kernel
theorem d_Ham_carryOut_50 : decode b_Ham_carryOut 50 = .ok (.aload_n 0, 1) := by decide +kernel
theorem d_Ham_carryOut_51 : decode b_Ham_carryOut 51 = .ok (.getfield 10, 3) := by decide +kernel
theorem d_Ham_carryOut_54 : decode b_Ham_carryOut 54 = .ok (.getfield 41, 3) := by decide +kernel
theorem d_Ham_carryOut_57 : decode b_Ham_carryOut 57 = .ok (.invokevirtual 109, 3) := by decide +kernel
theorem d_Ham_carryOut_60 : decode b_Ham_carryOut 60 = .ok (.istore_n 2, 1) := by decide +kernel
theorem d_Ham_carryOut_61 : decode b_Ham_carryOut 61 = .ok (.aload_n 0, 1) := by decide +kernel
theorem d_Ham_carryOut_62 : decode b_Ham_carryOut 62 = .ok (.getfield 26, 3) := by decide +kernel
theorem d_Ham_carryOut_65 : decode b_Ham_carryOut 65 = .ok (.iconst 0, 1) := by decide +kernel
theorem d_Ham_carryOut_66 : decode b_Ham_carryOut 66 = .ok (.putfield 99, 3) := by decide +kernel
theorem d_Ham_carryOut_69 : decode b_Ham_carryOut 69 = .ok (.aload_n 0, 1) := by decide +kernel
theorem d_Ham_carryOut_70 : decode b_Ham_carryOut 70 = .ok (.iload_n 2, 1) := by decide +kernel
theorem d_Ham_carryOut_71 : decode b_Ham_carryOut 71 = .ok (.invokevirtual 48, 3) := by decide +kernel
theorem d_Ham_carryOut_74 : decode b_Ham_carryOut 74 = .ok (.ireturn, 1) := by decide +kernel
theorem d_Ham_count_0 : decode b_Ham_count 0 = .ok (.iload_n 1, 1) := by decide +kernel
theorem d_Ham_count_1 : decode b_Ham_count 1 = .ok (.tableswitch 51 13 15 #[27, 35, 43], 27) := by decide +kernel
theorem d_Ham_count_28 : decode b_Ham_count 28 = .ok (.aload_n 0, 1) := by decide +kernel
theorem d_Ham_count_29 : decode b_Ham_count 29 = .ok (.getfield 10, 3) := by decide +kernel
theorem d_Ham_count_32 : decode b_Ham_count 32 = .ok (.invokevirtual 113, 3) := by decide +kernel
theorem d_Ham_count_35 : decode b_Ham_count 35 = .ok (.ireturn, 1) := by decide +kernel
theorem d_Ham_count_36 : decode b_Ham_count 36 = .ok (.aload_n 0, 1) := by decide +kernel
theorem d_Ham_count_37 : decode b_Ham_count 37 = .ok (.getfield 19, 3) := by decide +kernel
theorem d_Ham_count_40 : decode b_Ham_count 40 = .ok (.getfield 91, 3) := by decide +kernel
theorem d_Ham_count_43 : decode b_Ham_count 43 = .ok (.ireturn, 1) := by decide +kernel
theorem d_Ham_count_44 : decode b_Ham_count 44 = .ok (.aload_n 0, 1) := by decide +kernel
theorem d_Ham_count_45 : decode b_Ham_count 45 = .ok (.getfield 26, 3) := by decide +kernel
theorem d_Ham_count_48 : decode b_Ham_count 48 = .ok (.getfield 99, 3) := by decide +kernel
theorem d_Ham_count_51 : decode b_Ham_count 51 = .ok (.ireturn, 1) := by decide +kernel
theorem d_Ham_count_52 : decode b_Ham_count 52 = .ok (.aload_n 0, 1) := by decide +kernel
theorem d_Ham_count_53 : decode b_Ham_count 53 = .ok (.getfield 10, 3) := by decide +kernel
theorem d_Ham_count_56 : decode b_Ham_count 56 = .ok (.getfield 41, 3) := by decide +kernel
theorem d_Ham_count_59 : decode b_Ham_count 59 = .ok (.iload_n 1, 1) := by decide +kernel
theorem d_Ham_count_60 : decode b_Ham_count 60 = .ok (.invokevirtual 116, 3) := by decide +kernel
theorem d_Ham_count_63 : decode b_Ham_count 63 = .ok (.ireturn, 1) := by decide +kernel
theorem d_Ham_member_0 : decode b_Ham_member 0 = .ok (.aload_n 0, 1) := by decide +kernel
theorem d_Ham_member_1 : decode b_Ham_member 1 = .ok (.getfield 10, 3) := by decide +kernel
theorem d_Ham_member_4 : decode b_Ham_member 4 = .ok (.getfield 41, 3) := by decide +kernel
theorem d_Ham_member_7 : decode b_Ham_member 7 = .ok (.iload_n 1, 1) := by decide +kernel
theorem d_Ham_member_8 : decode b_Ham_member 8 = .ok (.iload_n 2, 1) := by decide +kernel
theorem d_Ham_member_9 : decode b_Ham_member 9 = .ok (.invokevirtual 119, 3) := by decide +kernel
theorem d_Ham_member_12 : decode b_Ham_member 12 = .ok (.ireturn, 1) := by decide +kernel
theorem d_Ham_isGood_0 : decode b_Ham_isGood 0 = .ok (.aload_n 0, 1) := by decide +kernel
theorem d_Ham_isGood_1 : decode b_Ham_isGood 1 = .ok (.getfield 10, 3) := by decide +kernel
theorem d_Ham_isGood_4 : decode b_Ham_isGood 4 = .ok (.getfield 41, 3) := by decide +kernel
theorem d_Ham_isGood_7 : decode b_Ham_isGood 7 = .ok (.getfield 122, 3) := by decide +kernel
theorem d_Ham_isGood_10 : decode b_Ham_isGood 10 = .ok (.astore_n 3, 1) := by decide +kernel
theorem d_Ham_isGood_11 : decode b_Ham_isGood 11 = .ok (.aload_n 3, 1) := by decide +kernel
theorem d_Ham_isGood_12 : decode b_Ham_isGood 12 = .ok (.iload_n 1, 1) := by decide +kernel
theorem d_Ham_isGood_13 : decode b_Ham_isGood 13 = .ok (.invokevirtual 126, 3) := by decide +kernel
theorem d_Ham_isGood_16 : decode b_Ham_isGood 16 = .ok (.ifCond .eq 13, 3) := by decide +kernel
theorem d_Ham_isGood_19 : decode b_Ham_isGood 19 = .ok (.iload_n 2, 1) := by decide +kernel
theorem d_Ham_isGood_20 : decode b_Ham_isGood 20 = .ok (.ifCond .lt 9, 3) := by decide +kernel
theorem d_Ham_isGood_23 : decode b_Ham_isGood 23 = .ok (.iload_n 2, 1) := by decide +kernel
theorem d_Ham_isGood_24 : decode b_Ham_isGood 24 = .ok (.bipush 60, 2) := by decide +kernel
theorem d_Ham_isGood_26 : decode b_Ham_isGood 26 = .ok (.if_icmp .le 5, 3) := by decide +kernel
theorem d_Ham_isGood_29 : decode b_Ham_isGood 29 = .ok (.iconst (-1), 1) := by decide +kernel
theorem d_Ham_isGood_30 : decode b_Ham_isGood 30 = .ok (.ireturn, 1) := by decide +kernel
theorem d_Ham_isGood_31 : decode b_Ham_isGood 31 = .ok (.aload_n 3, 1) := by decide +kernel
theorem d_Ham_isGood_32 : decode b_Ham_isGood 32 = .ok (.iload_n 1, 1) := by decide +kernel
theorem d_Ham_isGood_33 : decode b_Ham_isGood 33 = .ok (.iload_n 2, 1) := by decide +kernel
theorem d_Ham_isGood_34 : decode b_Ham_isGood 34 = .ok (.invokevirtual 131, 3) := by decide +kernel
theorem d_Ham_isGood_37 : decode b_Ham_isGood 37 = .ok (.ifCond .eq 7, 3) := by decide +kernel
theorem d_Ham_isGood_40 : decode b_Ham_isGood 40 = .ok (.iconst 1, 1) := by decide +kernel
theorem d_Ham_isGood_41 : decode b_Ham_isGood 41 = .ok (.goto 4, 3) := by decide +kernel
theorem d_Ham_isGood_44 : decode b_Ham_isGood 44 = .ok (.iconst 0, 1) := by decide +kernel
theorem d_Ham_isGood_45 : decode b_Ham_isGood 45 = .ok (.ireturn, 1) := by decide +kernel
theorem d_Ham_hamper_0 : decode b_Ham_hamper 0 = .ok (.aload_n 0, 1) := by decide +kernel
theorem d_Ham_hamper_1 : decode b_Ham_hamper 1 = .ok (.getfield 10, 3) := by decide +kernel
theorem d_Ham_hamper_4 : decode b_Ham_hamper 4 = .ok (.getfield 41, 3) := by decide +kernel
theorem d_Ham_hamper_7 : decode b_Ham_hamper 7 = .ok (.getfield 135, 3) := by decide +kernel
theorem d_Ham_hamper_10 : decode b_Ham_hamper 10 = .ok (.iload_n 1, 1) := by decide +kernel
theorem d_Ham_hamper_11 : decode b_Ham_hamper 11 = .ok (.iload_n 2, 1) := by decide +kernel
theorem d_Ham_hamper_12 : decode b_Ham_hamper 12 = .ok (.invokevirtual 139, 3) := by decide +kernel
theorem d_Ham_hamper_15 : decode b_Ham_hamper 15 = .ok (.ireturn, 1) := by decide +kernel
theorem d_Ham_waiting_0 : decode b_Ham_waiting 0 = .ok (.iload_n 1, 1) := by decide +kernel
theorem d_Ham_waiting_1 : decode b_Ham_waiting 1 = .ok (.invokestatic 143, 3) := by decide +kernel
theorem d_Ham_waiting_4 : decode b_Ham_waiting 4 = .ok (.ifCond .eq 7, 3) := by decide +kernel
theorem d_Ham_waiting_7 : decode b_Ham_waiting 7 = .ok (.iload_n 2, 1) := by decide +kernel
theorem d_Ham_waiting_8 : decode b_Ham_waiting 8 = .ok (.ifCond .ge 5, 3) := by decide +kernel
theorem d_Ham_waiting_11 : decode b_Ham_waiting 11 = .ok (.iconst (-1), 1) := by decide +kernel
theorem d_Ham_waiting_12 : decode b_Ham_waiting 12 = .ok (.ireturn, 1) := by decide +kernel
theorem d_Ham_waiting_13 : decode b_Ham_waiting 13 = .ok (.aload_n 0, 1) := by decide +kernel
theorem d_Ham_waiting_14 : decode b_Ham_waiting 14 = .ok (.getfield 10, 3) := by decide +kernel
theorem d_Ham_waiting_17 : decode b_Ham_waiting 17 = .ok (.getfield 41, 3) := by decide +kernel
theorem d_Ham_waiting_20 : decode b_Ham_waiting 20 = .ok (.getfield 135, 3) := by decide +kernel
theorem d_Ham_waiting_23 : decode b_Ham_waiting 23 = .ok (.iload_n 1, 1) := by decide +kernel
theorem d_Ham_waiting_24 : decode b_Ham_waiting 24 = .ok (.iload_n 2, 1) := by decide +kernel
theorem d_Ham_waiting_25 : decode b_Ham_waiting 25 = .ok (.invokevirtual 146, 3) := by decide +kernel
theorem d_Ham_waiting_28 : decode b_Ham_waiting 28 = .ok (.ireturn, 1) := by decide +kernel
theorem d_Ham_would_0 : decode b_Ham_would 0 = .ok (.aload_n 0, 1) := by decide +kernel
theorem d_Ham_would_1 : decode b_Ham_would 1 = .ok (.getfield 10, 3) := by decide +kernel
theorem d_Ham_would_4 : decode b_Ham_would 4 = .ok (.getfield 41, 3) := by decide +kernel
theorem d_Ham_would_7 : decode b_Ham_would 7 = .ok (.astore_n 3, 1) := by decide +kernel
theorem d_Ham_would_8 : decode b_Ham_would 8 = .ok (.aload_n 3, 1) := by decide +kernel
theorem d_Ham_would_9 : decode b_Ham_would 9 = .ok (.getfield 122, 3) := by decide +kernel
theorem d_Ham_would_12 : decode b_Ham_would 12 = .ok (.iload_n 1, 1) := by decide +kernel
theorem d_Ham_would_13 : decode b_Ham_would 13 = .ok (.invokevirtual 126, 3) := by decide +kernel
theorem d_Ham_would_16 : decode b_Ham_would 16 = .ok (.ifCond .eq 12, 3) := by decide +kernel
theorem d_Ham_would_19 : decode b_Ham_would 19 = .ok (.iload_n 2, 1) := by decide +kernel
theorem d_Ham_would_20 : decode b_Ham_would 20 = .ok (.ifCond .lt 8, 3) := by decide +kernel
theorem d_Ham_would_23 : decode b_Ham_would 23 = .ok (.iload_n 2, 1) := by decide +kernel
theorem d_Ham_would_24 : decode b_Ham_would 24 = .ok (.iconst 2, 1) := by decide +kernel
theorem d_Ham_would_25 : decode b_Ham_would 25 = .ok (.if_icmp .le 5, 3) := by decide +kernel
theorem d_Ham_would_28 : decode b_Ham_would 28 = .ok (.iconst (-1), 1) := by decide +kernel
theorem d_Ham_would_29 : decode b_Ham_would 29 = .ok (.ireturn, 1) := by decide +kernel
theorem d_Ham_would_30 : decode b_Ham_would 30 = .ok (.aload_n 3, 1) := by decide +kernel
theorem d_Ham_would_31 : decode b_Ham_would 31 = .ok (.getfield 105, 3) := by decide +kernel
theorem d_Ham_would_34 : decode b_Ham_would 34 = .ok (.ifCond .eq 6, 3) := by decide +kernel
theorem d_Ham_would_37 : decode b_Ham_would 37 = .ok (.bipush (-2), 2) := by decide +kernel
theorem d_Ham_would_39 : decode b_Ham_would 39 = .ok (.ireturn, 1) := by decide +kernel
theorem d_Ham_would_40 : decode b_Ham_would 40 = .ok (.iload_n 2, 1) := by decide +kernel
theorem d_Ham_would_41 : decode b_Ham_would 41 = .ok (.ifCond .ne 9, 3) := by decide +kernel
theorem d_Ham_would_44 : decode b_Ham_would 44 = .ok (.aload_n 3, 1) := by decide +kernel
theorem d_Ham_would_45 : decode b_Ham_would 45 = .ok (.iload_n 1, 1) := by decide +kernel
theorem d_Ham_would_46 : decode b_Ham_would 46 = .ok (.invokevirtual 149, 3) := by decide +kernel
theorem d_Ham_would_49 : decode b_Ham_would 49 = .ok (.ireturn, 1) := by decide +kernel
theorem d_Ham_would_50 : decode b_Ham_would 50 = .ok (.aload_n 0, 1) := by decide +kernel
theorem d_Ham_would_51 : decode b_Ham_would 51 = .ok (.getfield 33, 3) := by decide +kernel
theorem d_Ham_would_54 : decode b_Ham_would 54 = .ok (.aload_n 3, 1) := by decide +kernel
theorem d_Ham_would_55 : decode b_Ham_would 55 = .ok (.invokevirtual 152, 3) := by decide +kernel
theorem d_Ham_would_58 : decode b_Ham_would 58 = .ok (.aload_n 0, 1) := by decide +kernel
theorem d_Ham_would_59 : decode b_Ham_would 59 = .ok (.getfield 33, 3) := by decide +kernel
theorem d_Ham_would_62 : decode b_Ham_would 62 = .ok (.invokevirtual 78, 3) := by decide +kernel
theorem d_Ham_would_65 : decode b_Ham_would 65 = .ok (.pop, 1) := by decide +kernel
theorem d_Ham_would_66 : decode b_Ham_would 66 = .ok (.iload_n 2, 1) := by decide +kernel
theorem d_Ham_would_67 : decode b_Ham_would 67 = .ok (.iconst 1, 1) := by decide +kernel
theorem d_Ham_would_68 : decode b_Ham_would 68 = .ok (.if_icmp .ne 16, 3) := by decide +kernel
theorem d_Ham_would_71 : decode b_Ham_would 71 = .ok (.aload_n 0, 1) := by decide +kernel
theorem d_Ham_would_72 : decode b_Ham_would 72 = .ok (.getfield 33, 3) := by decide +kernel
theorem d_Ham_would_75 : decode b_Ham_would 75 = .ok (.getfield 135, 3) := by decide +kernel
theorem d_Ham_would_78 : decode b_Ham_would 78 = .ok (.getfield 156, 3) := by decide +kernel
theorem d_Ham_would_81 : decode b_Ham_would 81 = .ok (.iload_n 1, 1) := by decide +kernel
theorem d_Ham_would_82 : decode b_Ham_would 82 = .ok (.iaload, 1) := by decide +kernel
theorem d_Ham_would_83 : decode b_Ham_would 83 = .ok (.ireturn, 1) := by decide +kernel
theorem d_Ham_would_84 : decode b_Ham_would 84 = .ok (.aload_n 0, 1) := by decide +kernel
theorem d_Ham_would_85 : decode b_Ham_would 85 = .ok (.getfield 33, 3) := by decide +kernel
theorem d_Ham_would_88 : decode b_Ham_would 88 = .ok (.getfield 122, 3) := by decide +kernel
theorem d_Ham_would_91 : decode b_Ham_would 91 = .ok (.getfield 160, 3) := by decide +kernel
theorem d_Ham_would_94 : decode b_Ham_would 94 = .ok (.iload_n 1, 1) := by decide +kernel
theorem d_Ham_would_95 : decode b_Ham_would 95 = .ok (.iaload, 1) := by decide +kernel
theorem d_Ham_would_96 : decode b_Ham_would 96 = .ok (.aload_n 3, 1) := by decide +kernel
theorem d_Ham_would_97 : decode b_Ham_would 97 = .ok (.getfield 122, 3) := by decide +kernel
theorem d_Ham_would_100 : decode b_Ham_would 100 = .ok (.getfield 160, 3) := by decide +kernel
theorem d_Ham_would_103 : decode b_Ham_would 103 = .ok (.iload_n 1, 1) := by decide +kernel
theorem d_Ham_would_104 : decode b_Ham_would 104 = .ok (.iaload, 1) := by decide +kernel
theorem d_Ham_would_105 : decode b_Ham_would 105 = .ok (.isub, 1) := by decide +kernel
theorem d_Ham_would_106 : decode b_Ham_would 106 = .ok (.ireturn, 1) := by decide +kernel
theorem d_Ham_bestKind_0 : decode b_Ham_bestKind 0 = .ok (.aload_n 0, 1) := by decide +kernel
theorem d_Ham_bestKind_1 : decode b_Ham_bestKind 1 = .ok (.getfield 10, 3) := by decide +kernel
theorem d_Ham_bestKind_4 : decode b_Ham_bestKind 4 = .ok (.getfield 41, 3) := by decide +kernel
theorem d_Ham_bestKind_7 : decode b_Ham_bestKind 7 = .ok (.astore_n 2, 1) := by decide +kernel
theorem d_Ham_bestKind_8 : decode b_Ham_bestKind 8 = .ok (.aload_n 2, 1) := by decide +kernel
theorem d_Ham_bestKind_9 : decode b_Ham_bestKind 9 = .ok (.getfield 122, 3) := by decide +kernel
theorem d_Ham_bestKind_12 : decode b_Ham_bestKind 12 = .ok (.iload_n 1, 1) := by decide +kernel
theorem d_Ham_bestKind_13 : decode b_Ham_bestKind 13 = .ok (.invokevirtual 126, 3) := by decide +kernel
theorem d_Ham_bestKind_16 : decode b_Ham_bestKind 16 = .ok (.ifCond .ne 5, 3) := by decide +kernel
theorem d_Ham_bestKind_19 : decode b_Ham_bestKind 19 = .ok (.iconst (-1), 1) := by decide +kernel
theorem d_Ham_bestKind_20 : decode b_Ham_bestKind 20 = .ok (.ireturn, 1) := by decide +kernel
theorem d_Ham_bestKind_21 : decode b_Ham_bestKind 21 = .ok (.aload_n 2, 1) := by decide +kernel
theorem d_Ham_bestKind_22 : decode b_Ham_bestKind 22 = .ok (.getfield 105, 3) := by decide +kernel
theorem d_Ham_bestKind_25 : decode b_Ham_bestKind 25 = .ok (.ifCond .eq 6, 3) := by decide +kernel
theorem d_Ham_bestKind_28 : decode b_Ham_bestKind 28 = .ok (.bipush (-2), 2) := by decide +kernel
theorem d_Ham_bestKind_30 : decode b_Ham_bestKind 30 = .ok (.ireturn, 1) := by decide +kernel
theorem d_Ham_bestKind_31 : decode b_Ham_bestKind 31 = .ok (.bipush (-9), 2) := by decide +kernel
theorem d_Ham_bestKind_33 : decode b_Ham_bestKind 33 = .ok (.istore_n 3, 1) := by decide +kernel
theorem d_Ham_bestKind_34 : decode b_Ham_bestKind 34 = .ok (.iconst 0, 1) := by decide +kernel
theorem d_Ham_bestKind_35 : decode b_Ham_bestKind 35 = .ok (.istore 4, 2) := by decide +kernel
theorem d_Ham_bestKind_37 : decode b_Ham_bestKind 37 = .ok (.iload 4, 2) := by decide +kernel
theorem d_Ham_bestKind_39 : decode b_Ham_bestKind 39 = .ok (.iconst 4, 1) := by decide +kernel
theorem d_Ham_bestKind_40 : decode b_Ham_bestKind 40 = .ok (.if_icmp .ge 62, 3) := by decide +kernel
theorem d_Ham_bestKind_43 : decode b_Ham_bestKind 43 = .ok (.iload_n 3, 1) := by decide +kernel
theorem d_Ham_bestKind_44 : decode b_Ham_bestKind 44 = .ok (.bipush (-9), 2) := by decide +kernel
theorem d_Ham_bestKind_46 : decode b_Ham_bestKind 46 = .ok (.if_icmp .eq 25, 3) := by decide +kernel
theorem d_Ham_bestKind_49 : decode b_Ham_bestKind 49 = .ok (.aload_n 2, 1) := by decide +kernel
theorem d_Ham_bestKind_50 : decode b_Ham_bestKind 50 = .ok (.getfield 135, 3) := by decide +kernel
theorem d_Ham_bestKind_53 : decode b_Ham_bestKind 53 = .ok (.getfield 163, 3) := by decide +kernel
theorem d_Ham_bestKind_56 : decode b_Ham_bestKind 56 = .ok (.iload 4, 2) := by decide +kernel
theorem d_Ham_bestKind_58 : decode b_Ham_bestKind 58 = .ok (.iaload, 1) := by decide +kernel
theorem d_Ham_bestKind_59 : decode b_Ham_bestKind 59 = .ok (.aload_n 2, 1) := by decide +kernel
theorem d_Ham_bestKind_60 : decode b_Ham_bestKind 60 = .ok (.getfield 135, 3) := by decide +kernel
theorem d_Ham_bestKind_63 : decode b_Ham_bestKind 63 = .ok (.getfield 163, 3) := by decide +kernel
theorem d_Ham_bestKind_66 : decode b_Ham_bestKind 66 = .ok (.iload_n 3, 1) := by decide +kernel
theorem d_Ham_bestKind_67 : decode b_Ham_bestKind 67 = .ok (.iaload, 1) := by decide +kernel
theorem d_Ham_bestKind_68 : decode b_Ham_bestKind 68 = .ok (.if_icmp .le 7, 3) := by decide +kernel
theorem d_Ham_bestKind_71 : decode b_Ham_bestKind 71 = .ok (.iconst 1, 1) := by decide +kernel
theorem d_Ham_bestKind_72 : decode b_Ham_bestKind 72 = .ok (.goto 4, 3) := by decide +kernel
theorem d_Ham_bestKind_75 : decode b_Ham_bestKind 75 = .ok (.iconst 0, 1) := by decide +kernel
theorem d_Ham_bestKind_76 : decode b_Ham_bestKind 76 = .ok (.istore 5, 2) := by decide +kernel
theorem d_Ham_bestKind_78 : decode b_Ham_bestKind 78 = .ok (.iload 5, 2) := by decide +kernel
theorem d_Ham_bestKind_80 : decode b_Ham_bestKind 80 = .ok (.ifCond .eq 16, 3) := by decide +kernel
theorem d_Ham_bestKind_83 : decode b_Ham_bestKind 83 = .ok (.aload_n 0, 1) := by decide +kernel
theorem d_Ham_bestKind_84 : decode b_Ham_bestKind 84 = .ok (.iload_n 1, 1) := by decide +kernel
theorem d_Ham_bestKind_85 : decode b_Ham_bestKind 85 = .ok (.iload 4, 2) := by decide +kernel
theorem d_Ham_bestKind_87 : decode b_Ham_bestKind 87 = .ok (.invokevirtual 166, 3) := by decide +kernel
theorem d_Ham_bestKind_90 : decode b_Ham_bestKind 90 = .ok (.ifCond .eq 6, 3) := by decide +kernel
theorem d_Ham_bestKind_93 : decode b_Ham_bestKind 93 = .ok (.iload 4, 2) := by decide +kernel
theorem d_Ham_bestKind_95 : decode b_Ham_bestKind 95 = .ok (.istore_n 3, 1) := by decide +kernel
theorem d_Ham_bestKind_96 : decode b_Ham_bestKind 96 = .ok (.iinc 4 1, 3) := by decide +kernel
theorem d_Ham_bestKind_99 : decode b_Ham_bestKind 99 = .ok (.goto (-62), 3) := by decide +kernel
theorem d_Ham_bestKind_102 : decode b_Ham_bestKind 102 = .ok (.iload_n 3, 1) := by decide +kernel
theorem d_Ham_bestKind_103 : decode b_Ham_bestKind 103 = .ok (.ireturn, 1) := by decide +kernel
theorem d_Ham_weeksFor_0 : decode b_Ham_weeksFor 0 = .ok (.aload_n 0, 1) := by decide +kernel
theorem d_Ham_weeksFor_1 : decode b_Ham_weeksFor 1 = .ok (.getfield 10, 3) := by decide +kernel
theorem d_Ham_weeksFor_4 : decode b_Ham_weeksFor 4 = .ok (.getfield 41, 3) := by decide +kernel
theorem d_Ham_weeksFor_7 : decode b_Ham_weeksFor 7 = .ok (.astore 4, 2) := by decide +kernel
theorem d_Ham_weeksFor_9 : decode b_Ham_weeksFor 9 = .ok (.aload 4, 2) := by decide +kernel
theorem d_Ham_weeksFor_11 : decode b_Ham_weeksFor 11 = .ok (.getfield 122, 3) := by decide +kernel
theorem d_Ham_weeksFor_14 : decode b_Ham_weeksFor 14 = .ok (.iload_n 1, 1) := by decide +kernel
theorem d_Ham_weeksFor_15 : decode b_Ham_weeksFor 15 = .ok (.invokevirtual 126, 3) := by decide +kernel
theorem d_Ham_weeksFor_18 : decode b_Ham_weeksFor 18 = .ok (.ifCond .eq 20, 3) := by decide +kernel
theorem d_Ham_weeksFor_21 : decode b_Ham_weeksFor 21 = .ok (.iload_n 2, 1) := by decide +kernel
theorem d_Ham_weeksFor_22 : decode b_Ham_weeksFor 22 = .ok (.invokestatic 143, 3) := by decide +kernel
theorem d_Ham_weeksFor_25 : decode b_Ham_weeksFor 25 = .ok (.ifCond .eq 13, 3) := by decide +kernel
theorem d_Ham_weeksFor_28 : decode b_Ham_weeksFor 28 = .ok (.iload_n 3, 1) := by decide +kernel
theorem d_Ham_weeksFor_29 : decode b_Ham_weeksFor 29 = .ok (.iconst 1, 1) := by decide +kernel
theorem d_Ham_weeksFor_30 : decode b_Ham_weeksFor 30 = .ok (.if_icmp .lt 8, 3) := by decide +kernel
theorem d_Ham_weeksFor_33 : decode b_Ham_weeksFor 33 = .ok (.iload_n 3, 1) := by decide +kernel
theorem d_Ham_weeksFor_34 : decode b_Ham_weeksFor 34 = .ok (.iconst 5, 1) := by decide +kernel
theorem d_Ham_weeksFor_35 : decode b_Ham_weeksFor 35 = .ok (.if_icmp .le 5, 3) := by decide +kernel
theorem d_Ham_weeksFor_38 : decode b_Ham_weeksFor 38 = .ok (.iconst (-1), 1) := by decide +kernel
theorem d_Ham_weeksFor_39 : decode b_Ham_weeksFor 39 = .ok (.ireturn, 1) := by decide +kernel
theorem d_Ham_weeksFor_40 : decode b_Ham_weeksFor 40 = .ok (.aload 4, 2) := by decide +kernel
theorem d_Ham_weeksFor_42 : decode b_Ham_weeksFor 42 = .ok (.getfield 122, 3) := by decide +kernel
theorem d_Ham_weeksFor_45 : decode b_Ham_weeksFor 45 = .ok (.iload_n 1, 1) := by decide +kernel
theorem d_Ham_weeksFor_46 : decode b_Ham_weeksFor 46 = .ok (.invokevirtual 169, 3) := by decide +kernel
theorem d_Ham_weeksFor_49 : decode b_Ham_weeksFor 49 = .ok (.ifCond .ne 6, 3) := by decide +kernel
theorem d_Ham_weeksFor_52 : decode b_Ham_weeksFor 52 = .ok (.bipush (-2), 2) := by decide +kernel
theorem d_Ham_weeksFor_54 : decode b_Ham_weeksFor 54 = .ok (.ireturn, 1) := by decide +kernel
theorem d_Ham_weeksFor_55 : decode b_Ham_weeksFor 55 = .ok (.aload 4, 2) := by decide +kernel
theorem d_Ham_weeksFor_57 : decode b_Ham_weeksFor 57 = .ok (.getfield 122, 3) := by decide +kernel
theorem d_Ham_weeksFor_60 : decode b_Ham_weeksFor 60 = .ok (.iload_n 1, 1) := by decide +kernel
theorem d_Ham_weeksFor_61 : decode b_Ham_weeksFor 61 = .ok (.aload 4, 2) := by decide +kernel
theorem d_Ham_weeksFor_63 : decode b_Ham_weeksFor 63 = .ok (.getfield 172, 3) := by decide +kernel
theorem d_Ham_weeksFor_66 : decode b_Ham_weeksFor 66 = .ok (.invokevirtual 131, 3) := by decide +kernel
theorem d_Ham_weeksFor_69 : decode b_Ham_weeksFor 69 = .ok (.ifCond .eq 7, 3) := by decide +kernel
theorem d_Ham_weeksFor_72 : decode b_Ham_weeksFor 72 = .ok (.iconst 0, 1) := by decide +kernel
theorem d_Ham_weeksFor_73 : decode b_Ham_weeksFor 73 = .ok (.goto 4, 3) := by decide +kernel
theorem d_Ham_weeksFor_76 : decode b_Ham_weeksFor 76 = .ok (.iload_n 3, 1) := by decide +kernel
theorem d_Ham_weeksFor_77 : decode b_Ham_weeksFor 77 = .ok (.istore 5, 2) := by decide +kernel
theorem d_Ham_weeksFor_79 : decode b_Ham_weeksFor 79 = .ok (.aload 4, 2) := by decide +kernel
theorem d_Ham_weeksFor_81 : decode b_Ham_weeksFor 81 = .ok (.getfield 135, 3) := by decide +kernel
theorem d_Ham_weeksFor_84 : decode b_Ham_weeksFor 84 = .ok (.getfield 163, 3) := by decide +kernel
theorem d_Ham_weeksFor_87 : decode b_Ham_weeksFor 87 = .ok (.iload_n 2, 1) := by decide +kernel
theorem d_Ham_weeksFor_88 : decode b_Ham_weeksFor 88 = .ok (.iaload, 1) := by decide +kernel
theorem d_Ham_weeksFor_89 : decode b_Ham_weeksFor 89 = .ok (.aload 4, 2) := by decide +kernel
theorem d_Ham_weeksFor_91 : decode b_Ham_weeksFor 91 = .ok (.getfield 122, 3) := by decide +kernel
theorem d_Ham_weeksFor_94 : decode b_Ham_weeksFor 94 = .ok (.getfield 175, 3) := by decide +kernel
theorem d_Ham_weeksFor_97 : decode b_Ham_weeksFor 97 = .ok (.iload_n 1, 1) := by decide +kernel
theorem d_Ham_weeksFor_98 : decode b_Ham_weeksFor 98 = .ok (.iaload, 1) := by decide +kernel
theorem d_Ham_weeksFor_99 : decode b_Ham_weeksFor 99 = .ok (.isub, 1) := by decide +kernel
theorem d_Ham_weeksFor_100 : decode b_Ham_weeksFor 100 = .ok (.iload 5, 2) := by decide +kernel
theorem d_Ham_weeksFor_102 : decode b_Ham_weeksFor 102 = .ok (.isub, 1) := by decide +kernel
theorem d_Ham_weeksFor_103 : decode b_Ham_weeksFor 103 = .ok (.istore 6, 2) := by decide +kernel
theorem d_Ham_weeksFor_105 : decode b_Ham_weeksFor 105 = .ok (.iload 6, 2) := by decide +kernel
theorem d_Ham_weeksFor_107 : decode b_Ham_weeksFor 107 = .ok (.ifCond .gt 7, 3) := by decide +kernel
theorem d_Ham_weeksFor_110 : decode b_Ham_weeksFor 110 = .ok (.iconst 0, 1) := by decide +kernel
theorem d_Ham_weeksFor_111 : decode b_Ham_weeksFor 111 = .ok (.goto 11, 3) := by decide +kernel
theorem d_Ham_weeksFor_114 : decode b_Ham_weeksFor 114 = .ok (.iload 6, 2) := by decide +kernel
theorem d_Ham_weeksFor_116 : decode b_Ham_weeksFor 116 = .ok (.iload_n 3, 1) := by decide +kernel
theorem d_Ham_weeksFor_117 : decode b_Ham_weeksFor 117 = .ok (.iadd, 1) := by decide +kernel
theorem d_Ham_weeksFor_118 : decode b_Ham_weeksFor 118 = .ok (.iconst 1, 1) := by decide +kernel
theorem d_Ham_weeksFor_119 : decode b_Ham_weeksFor 119 = .ok (.isub, 1) := by decide +kernel
theorem d_Ham_weeksFor_120 : decode b_Ham_weeksFor 120 = .ok (.iload_n 3, 1) := by decide +kernel
theorem d_Ham_weeksFor_121 : decode b_Ham_weeksFor 121 = .ok (.idiv, 1) := by decide +kernel
theorem d_Ham_weeksFor_122 : decode b_Ham_weeksFor 122 = .ok (.ireturn, 1) := by decide +kernel
theorem d_Ham_recorded_0 : decode b_Ham_recorded 0 = .ok (.iload_n 1, 1) := by decide +kernel
theorem d_Ham_recorded_1 : decode b_Ham_recorded 1 = .ok (.ifCond .lt 10, 3) := by decide +kernel
theorem d_Ham_recorded_4 : decode b_Ham_recorded 4 = .ok (.aload_n 0, 1) := by decide +kernel
theorem d_Ham_recorded_5 : decode b_Ham_recorded 5 = .ok (.getfield 19, 3) := by decide +kernel
theorem d_Ham_recorded_8 : decode b_Ham_recorded 8 = .ok (.invokevirtual 178, 3) := by decide +kernel
theorem d_Ham_recorded_11 : decode b_Ham_recorded 11 = .ok (.iload_n 1, 1) := by decide +kernel
theorem d_Ham_recorded_12 : decode b_Ham_recorded 12 = .ok (.ireturn, 1) := by decide +kernel
theorem d_Ham_wouldGet_0 : decode b_Ham_wouldGet 0 = .ok (.aload_n 0, 1) := by decide +kernel
theorem d_Ham_wouldGet_1 : decode b_Ham_wouldGet 1 = .ok (.getfield 33, 3) := by decide +kernel
theorem d_Ham_wouldGet_4 : decode b_Ham_wouldGet 4 = .ok (.aload_n 0, 1) := by decide +kernel
theorem d_Ham_wouldGet_5 : decode b_Ham_wouldGet 5 = .ok (.getfield 10, 3) := by decide +kernel
theorem d_Ham_wouldGet_8 : decode b_Ham_wouldGet 8 = .ok (.getfield 41, 3) := by decide +kernel
theorem d_Ham_wouldGet_11 : decode b_Ham_wouldGet 11 = .ok (.invokevirtual 152, 3) := by decide +kernel
theorem d_Ham_wouldGet_14 : decode b_Ham_wouldGet 14 = .ok (.aload_n 0, 1) := by decide +kernel
theorem d_Ham_wouldGet_15 : decode b_Ham_wouldGet 15 = .ok (.getfield 33, 3) := by decide +kernel
theorem d_Ham_wouldGet_18 : decode b_Ham_wouldGet 18 = .ok (.iload_n 1, 1) := by decide +kernel
theorem d_Ham_wouldGet_19 : decode b_Ham_wouldGet 19 = .ok (.iload_n 2, 1) := by decide +kernel
theorem d_Ham_wouldGet_20 : decode b_Ham_wouldGet 20 = .ok (.invokevirtual 69, 3) := by decide +kernel
theorem d_Ham_wouldGet_23 : decode b_Ham_wouldGet 23 = .ok (.pop, 1) := by decide +kernel
theorem d_Ham_wouldGet_24 : decode b_Ham_wouldGet 24 = .ok (.aload_n 0, 1) := by decide +kernel
theorem d_Ham_wouldGet_25 : decode b_Ham_wouldGet 25 = .ok (.getfield 33, 3) := by decide +kernel
theorem d_Ham_wouldGet_28 : decode b_Ham_wouldGet 28 = .ok (.invokevirtual 78, 3) := by decide +kernel
theorem d_Ham_wouldGet_31 : decode b_Ham_wouldGet 31 = .ok (.pop, 1) := by decide +kernel
theorem d_Ham_wouldGet_32 : decode b_Ham_wouldGet 32 = .ok (.aload_n 0, 1) := by decide +kernel
theorem d_Ham_wouldGet_33 : decode b_Ham_wouldGet 33 = .ok (.getfield 33, 3) := by decide +kernel
theorem d_Ham_wouldGet_36 : decode b_Ham_wouldGet 36 = .ok (.getfield 135, 3) := by decide +kernel
theorem d_Ham_wouldGet_39 : decode b_Ham_wouldGet 39 = .ok (.getfield 156, 3) := by decide +kernel
theorem d_Ham_wouldGet_42 : decode b_Ham_wouldGet 42 = .ok (.iload_n 1, 1) := by decide +kernel
theorem d_Ham_wouldGet_43 : decode b_Ham_wouldGet 43 = .ok (.iaload, 1) := by decide +kernel
theorem d_Ham_wouldGet_44 : decode b_Ham_wouldGet 44 = .ok (.iload_n 2, 1) := by decide +kernel
theorem d_Ham_wouldGet_45 : decode b_Ham_wouldGet 45 = .ok (.if_icmp .ne 7, 3) := by decide +kernel
theorem d_Ham_wouldGet_48 : decode b_Ham_wouldGet 48 = .ok (.iconst 1, 1) := by decide +kernel
theorem d_Ham_wouldGet_49 : decode b_Ham_wouldGet 49 = .ok (.goto 4, 3) := by decide +kernel
theorem d_Ham_wouldGet_52 : decode b_Ham_wouldGet 52 = .ok (.iconst 0, 1) := by decide +kernel
theorem d_Ham_wouldGet_53 : decode b_Ham_wouldGet 53 = .ok (.ireturn, 1) := by decide +kernel
theorem d_Ham_isKind_0 : decode b_Ham_isKind 0 = .ok (.iload_n 0, 1) := by decide +kernel
theorem d_Ham_isKind_1 : decode b_Ham_isKind 1 = .ok (.ifCond .lt 12, 3) := by decide +kernel
theorem d_Ham_isKind_4 : decode b_Ham_isKind 4 = .ok (.iload_n 0, 1) := by decide +kernel
theorem d_Ham_isKind_5 : decode b_Ham_isKind 5 = .ok (.iconst 4, 1) := by decide +kernel
theorem d_Ham_isKind_6 : decode b_Ham_isKind 6 = .ok (.if_icmp .ge 7, 3) := by decide +kernel
theorem d_Ham_isKind_9 : decode b_Ham_isKind 9 = .ok (.iconst 1, 1) := by decide +kernel
theorem d_Ham_isKind_10 : decode b_Ham_isKind 10 = .ok (.goto 4, 3) := by decide +kernel
theorem d_Ham_isKind_13 : decode b_Ham_isKind 13 = .ok (.iconst 0, 1) := by decide +kernel
theorem d_Ham_isKind_14 : decode b_Ham_isKind 14 = .ok (.ireturn, 1) := by decide +kernel
theorem d_Mod_init_0 : decode b_Mod_init 0 = .ok (.aload_n 0, 1) := by decide +kernel
theorem d_Mod_init_1 : decode b_Mod_init 1 = .ok (.invokespecial 1, 3) := by decide +kernel
theorem d_Mod_init_4 : decode b_Mod_init 4 = .ok (.aload_n 0, 1) := by decide +kernel
theorem d_Mod_init_5 : decode b_Mod_init 5 = .ok (.sipush 4306, 3) := by decide +kernel
theorem d_Mod_init_8 : decode b_Mod_init 8 = .ok (.newarray .int, 2) := by decide +kernel
theorem d_Mod_init_10 : decode b_Mod_init 10 = .ok (.putfield 7, 3) := by decide +kernel
theorem d_Mod_init_13 : decode b_Mod_init 13 = .ok (.aload_n 0, 1) := by decide +kernel
theorem d_Mod_init_14 : decode b_Mod_init 14 = .ok (.bipush 100, 2) := by decide +kernel
theorem d_Mod_init_16 : decode b_Mod_init 16 = .ok (.newarray .int, 2) := by decide +kernel
theorem d_Mod_init_18 : decode b_Mod_init 18 = .ok (.putfield 13, 3) := by decide +kernel
theorem d_Mod_init_21 : decode b_Mod_init 21 = .ok (.aload_n 0, 1) := by decide +kernel
theorem d_Mod_init_22 : decode b_Mod_init 22 = .ok (.bipush 12, 2) := by decide +kernel
theorem d_Mod_init_24 : decode b_Mod_init 24 = .ok (.newarray .boolean, 2) := by decide +kernel
theorem d_Mod_init_26 : decode b_Mod_init 26 = .ok (.putfield 16, 3) := by decide +kernel
theorem d_Mod_init_29 : decode b_Mod_init 29 = .ok (.aload_n 0, 1) := by decide +kernel
theorem d_Mod_init_30 : decode b_Mod_init 30 = .ok (.getfield 7, 3) := by decide +kernel
theorem d_Mod_init_33 : decode b_Mod_init 33 = .ok (.iconst 0, 1) := by decide +kernel
theorem d_Mod_init_34 : decode b_Mod_init 34 = .ok (.iconst 0, 1) := by decide +kernel
theorem d_Mod_init_35 : decode b_Mod_init 35 = .ok (.invokestatic 20, 3) := by decide +kernel
theorem d_Mod_init_38 : decode b_Mod_init 38 = .ok (.bipush 20, 2) := by decide +kernel
theorem d_Mod_init_40 : decode b_Mod_init 40 = .ok (.iastore, 1) := by decide +kernel
theorem d_Mod_init_41 : decode b_Mod_init 41 = .ok (.aload_n 0, 1) := by decide +kernel
theorem d_Mod_init_42 : decode b_Mod_init 42 = .ok (.getfield 7, 3) := by decide +kernel
theorem d_Mod_init_45 : decode b_Mod_init 45 = .ok (.iconst 1, 1) := by decide +kernel
theorem d_Mod_init_46 : decode b_Mod_init 46 = .ok (.iconst 0, 1) := by decide +kernel
theorem d_Mod_init_47 : decode b_Mod_init 47 = .ok (.invokestatic 20, 3) := by decide +kernel
theorem d_Mod_init_50 : decode b_Mod_init 50 = .ok (.bipush 40, 2) := by decide +kernel
theorem d_Mod_init_52 : decode b_Mod_init 52 = .ok (.iastore, 1) := by decide +kernel
theorem d_Mod_init_53 : decode b_Mod_init 53 = .ok (.aload_n 0, 1) := by decide +kernel
theorem d_Mod_init_54 : decode b_Mod_init 54 = .ok (.getfield 7, 3) := by decide +kernel
theorem d_Mod_init_57 : decode b_Mod_init 57 = .ok (.iconst 2, 1) := by decide +kernel
theorem d_Mod_init_58 : decode b_Mod_init 58 = .ok (.iconst 0, 1) := by decide +kernel
theorem d_Mod_init_59 : decode b_Mod_init 59 = .ok (.invokestatic 20, 3) := by decide +kernel
theorem d_Mod_init_62 : decode b_Mod_init 62 = .ok (.bipush 60, 2) := by decide +kernel
theorem d_Mod_init_64 : decode b_Mod_init 64 = .ok (.iastore, 1) := by decide +kernel
theorem d_Mod_init_65 : decode b_Mod_init 65 = .ok (.aload_n 0, 1) := by decide +kernel
theorem d_Mod_init_66 : decode b_Mod_init 66 = .ok (.getfield 7, 3) := by decide +kernel
theorem d_Mod_init_69 : decode b_Mod_init 69 = .ok (.iconst 3, 1) := by decide +kernel
theorem d_Mod_init_70 : decode b_Mod_init 70 = .ok (.iconst 0, 1) := by decide +kernel
theorem d_Mod_init_71 : decode b_Mod_init 71 = .ok (.invokestatic 20, 3) := by decide +kernel
theorem d_Mod_init_74 : decode b_Mod_init 74 = .ok (.bipush 100, 2) := by decide +kernel
theorem d_Mod_init_76 : decode b_Mod_init 76 = .ok (.iastore, 1) := by decide +kernel
theorem d_Mod_init_77 : decode b_Mod_init 77 = .ok (.aload_n 0, 1) := by decide +kernel
theorem d_Mod_init_78 : decode b_Mod_init 78 = .ok (.getfield 7, 3) := by decide +kernel
theorem d_Mod_init_81 : decode b_Mod_init 81 = .ok (.iconst 0, 1) := by decide +kernel
theorem d_Mod_init_82 : decode b_Mod_init 82 = .ok (.iconst 1, 1) := by decide +kernel
theorem d_Mod_init_83 : decode b_Mod_init 83 = .ok (.invokestatic 20, 3) := by decide +kernel
theorem d_Mod_init_86 : decode b_Mod_init 86 = .ok (.iconst 2, 1) := by decide +kernel
theorem d_Mod_init_87 : decode b_Mod_init 87 = .ok (.iastore, 1) := by decide +kernel
theorem d_Mod_init_88 : decode b_Mod_init 88 = .ok (.aload_n 0, 1) := by decide +kernel
theorem d_Mod_init_89 : decode b_Mod_init 89 = .ok (.getfield 7, 3) := by decide +kernel
theorem d_Mod_init_92 : decode b_Mod_init 92 = .ok (.iconst 1, 1) := by decide +kernel
theorem d_Mod_init_93 : decode b_Mod_init 93 = .ok (.iconst 1, 1) := by decide +kernel
theorem d_Mod_init_94 : decode b_Mod_init 94 = .ok (.invokestatic 20, 3) := by decide +kernel
theorem d_Mod_init_97 : decode b_Mod_init 97 = .ok (.iconst 2, 1) := by decide +kernel
theorem d_Mod_init_98 : decode b_Mod_init 98 = .ok (.iastore, 1) := by decide +kernel
theorem d_Mod_init_99 : decode b_Mod_init 99 = .ok (.aload_n 0, 1) := by decide +kernel
theorem d_Mod_init_100 : decode b_Mod_init 100 = .ok (.getfield 7, 3) := by decide +kernel
theorem d_Mod_init_103 : decode b_Mod_init 103 = .ok (.iconst 2, 1) := by decide +kernel
theorem d_Mod_init_104 : decode b_Mod_init 104 = .ok (.iconst 1, 1) := by decide +kernel
theorem d_Mod_init_105 : decode b_Mod_init 105 = .ok (.invokestatic 20, 3) := by decide +kernel
theorem d_Mod_init_108 : decode b_Mod_init 108 = .ok (.iconst 1, 1) := by decide +kernel
theorem d_Mod_init_109 : decode b_Mod_init 109 = .ok (.iastore, 1) := by decide +kernel
theorem d_Mod_init_110 : decode b_Mod_init 110 = .ok (.aload_n 0, 1) := by decide +kernel
theorem d_Mod_init_111 : decode b_Mod_init 111 = .ok (.getfield 7, 3) := by decide +kernel
theorem d_Mod_init_114 : decode b_Mod_init 114 = .ok (.iconst 3, 1) := by decide +kernel
theorem d_Mod_init_115 : decode b_Mod_init 115 = .ok (.iconst 1, 1) := by decide +kernel
theorem d_Mod_init_116 : decode b_Mod_init 116 = .ok (.invokestatic 20, 3) := by decide +kernel
theorem d_Mod_init_119 : decode b_Mod_init 119 = .ok (.iconst 1, 1) := by decide +kernel
theorem d_Mod_init_120 : decode b_Mod_init 120 = .ok (.iastore, 1) := by decide +kernel
theorem d_Mod_init_121 : decode b_Mod_init 121 = .ok (.return_, 1) := by decide +kernel
theorem d_Mod_in_0 : decode b_Mod_in 0 = .ok (.iload_n 0, 1) := by decide +kernel
theorem d_Mod_in_1 : decode b_Mod_in 1 = .ok (.iload_n 1, 1) := by decide +kernel
theorem d_Mod_in_2 : decode b_Mod_in 2 = .ok (.if_icmp .lt 12, 3) := by decide +kernel
theorem d_Mod_in_5 : decode b_Mod_in 5 = .ok (.iload_n 0, 1) := by decide +kernel
theorem d_Mod_in_6 : decode b_Mod_in 6 = .ok (.iload_n 2, 1) := by decide +kernel
theorem d_Mod_in_7 : decode b_Mod_in 7 = .ok (.if_icmp .gt 7, 3) := by decide +kernel
theorem d_Mod_in_10 : decode b_Mod_in 10 = .ok (.iconst 1, 1) := by decide +kernel
theorem d_Mod_in_11 : decode b_Mod_in 11 = .ok (.goto 4, 3) := by decide +kernel
theorem d_Mod_in_14 : decode b_Mod_in 14 = .ok (.iconst 0, 1) := by decide +kernel
theorem d_Mod_in_15 : decode b_Mod_in 15 = .ok (.ireturn, 1) := by decide +kernel
theorem d_Mod_ofKind_0 : decode b_Mod_ofKind 0 = .ok (.bipush 10, 2) := by decide +kernel
theorem d_Mod_ofKind_2 : decode b_Mod_ofKind 2 = .ok (.bipush 15, 2) := by decide +kernel
theorem d_Mod_ofKind_4 : decode b_Mod_ofKind 4 = .ok (.iload_n 0, 1) := by decide +kernel
theorem d_Mod_ofKind_5 : decode b_Mod_ofKind 5 = .ok (.imul, 1) := by decide +kernel
theorem d_Mod_ofKind_6 : decode b_Mod_ofKind 6 = .ok (.iadd, 1) := by decide +kernel
theorem d_Mod_ofKind_7 : decode b_Mod_ofKind 7 = .ok (.iload_n 1, 1) := by decide +kernel
theorem d_Mod_ofKind_8 : decode b_Mod_ofKind 8 = .ok (.iadd, 1) := by decide +kernel
theorem d_Mod_ofKind_9 : decode b_Mod_ofKind 9 = .ok (.ireturn, 1) := by decide +kernel
theorem d_Mod_of_0 : decode b_Mod_of 0 = .ok (.bipush 70, 2) := by decide +kernel
theorem d_Mod_of_2 : decode b_Mod_of 2 = .ok (.bipush 13, 2) := by decide +kernel
theorem d_Mod_of_4 : decode b_Mod_of 4 = .ok (.iload_n 0, 1) := by decide +kernel
theorem d_Mod_of_5 : decode b_Mod_of 5 = .ok (.imul, 1) := by decide +kernel
theorem d_Mod_of_6 : decode b_Mod_of 6 = .ok (.iadd, 1) := by decide +kernel
theorem d_Mod_of_7 : decode b_Mod_of 7 = .ok (.iload_n 1, 1) := by decide +kernel
theorem d_Mod_of_8 : decode b_Mod_of 8 = .ok (.iadd, 1) := by decide +kernel
theorem d_Mod_of_9 : decode b_Mod_of 9 = .ok (.ireturn, 1) := by decide +kernel
theorem d_Mod_isMember_0 : decode b_Mod_isMember 0 = .ok (.iload_n 1, 1) := by decide +kernel
theorem d_Mod_isMember_1 : decode b_Mod_isMember 1 = .ok (.iconst 0, 1) := by decide +kernel
theorem d_Mod_isMember_2 : decode b_Mod_isMember 2 = .ok (.aload_n 0, 1) := by decide +kernel
theorem d_Mod_isMember_3 : decode b_Mod_isMember 3 = .ok (.getfield 7, 3) := by decide +kernel
theorem d_Mod_isMember_6 : decode b_Mod_isMember 6 = .ok (.iconst 1, 1) := by decide +kernel
theorem d_Mod_isMember_7 : decode b_Mod_isMember 7 = .ok (.iaload, 1) := by decide +kernel
theorem d_Mod_isMember_8 : decode b_Mod_isMember 8 = .ok (.iconst 1, 1) := by decide +kernel
theorem d_Mod_isMember_9 : decode b_Mod_isMember 9 = .ok (.isub, 1) := by decide +kernel
theorem d_Mod_isMember_10 : decode b_Mod_isMember 10 = .ok (.invokestatic 24, 3) := by decide +kernel
theorem d_Mod_isMember_13 : decode b_Mod_isMember 13 = .ok (.ireturn, 1) := by decide +kernel
theorem d_Mod_isKind_0 : decode b_Mod_isKind 0 = .ok (.iload_n 0, 1) := by decide +kernel
theorem d_Mod_isKind_1 : decode b_Mod_isKind 1 = .ok (.iconst 0, 1) := by decide +kernel
theorem d_Mod_isKind_2 : decode b_Mod_isKind 2 = .ok (.iconst 3, 1) := by decide +kernel
theorem d_Mod_isKind_3 : decode b_Mod_isKind 3 = .ok (.invokestatic 24, 3) := by decide +kernel
theorem d_Mod_isKind_6 : decode b_Mod_isKind 6 = .ok (.ireturn, 1) := by decide +kernel
theorem d_Mod_isSettled_0 : decode b_Mod_isSettled 0 = .ok (.aload_n 0, 1) := by decide +kernel
theorem d_Mod_isSettled_1 : decode b_Mod_isSettled 1 = .ok (.getfield 7, 3) := by decide +kernel
theorem d_Mod_isSettled_4 : decode b_Mod_isSettled 4 = .ok (.iconst 2, 1) := by decide +kernel
theorem d_Mod_isSettled_5 : decode b_Mod_isSettled 5 = .ok (.iaload, 1) := by decide +kernel
theorem d_Mod_isSettled_6 : decode b_Mod_isSettled 6 = .ok (.iconst 1, 1) := by decide +kernel
theorem d_Mod_isSettled_7 : decode b_Mod_isSettled 7 = .ok (.if_icmp .ne 7, 3) := by decide +kernel
theorem d_Mod_isSettled_10 : decode b_Mod_isSettled 10 = .ok (.iconst 1, 1) := by decide +kernel
theorem d_Mod_isSettled_11 : decode b_Mod_isSettled 11 = .ok (.goto 4, 3) := by decide +kernel
theorem d_Mod_isSettled_14 : decode b_Mod_isSettled 14 = .ok (.iconst 0, 1) := by decide +kernel
theorem d_Mod_isSettled_15 : decode b_Mod_isSettled 15 = .ok (.ireturn, 1) := by decide +kernel
theorem d_Mod_copy_0 : decode b_Mod_copy 0 = .ok (.iconst 0, 1) := by decide +kernel
theorem d_Mod_copy_1 : decode b_Mod_copy 1 = .ok (.istore 4, 2) := by decide +kernel
theorem d_Mod_copy_3 : decode b_Mod_copy 3 = .ok (.iload 4, 2) := by decide +kernel
theorem d_Mod_copy_5 : decode b_Mod_copy 5 = .ok (.iload_n 3, 1) := by decide +kernel
theorem d_Mod_copy_6 : decode b_Mod_copy 6 = .ok (.if_icmp .ge 27, 3) := by decide +kernel
theorem d_Mod_copy_9 : decode b_Mod_copy 9 = .ok (.aload_n 0, 1) := by decide +kernel
theorem d_Mod_copy_10 : decode b_Mod_copy 10 = .ok (.getfield 7, 3) := by decide +kernel
theorem d_Mod_copy_13 : decode b_Mod_copy 13 = .ok (.iload_n 2, 1) := by decide +kernel
theorem d_Mod_copy_14 : decode b_Mod_copy 14 = .ok (.iload 4, 2) := by decide +kernel
theorem d_Mod_copy_16 : decode b_Mod_copy 16 = .ok (.iadd, 1) := by decide +kernel
theorem d_Mod_copy_17 : decode b_Mod_copy 17 = .ok (.aload_n 0, 1) := by decide +kernel
theorem d_Mod_copy_18 : decode b_Mod_copy 18 = .ok (.getfield 7, 3) := by decide +kernel
theorem d_Mod_copy_21 : decode b_Mod_copy 21 = .ok (.iload_n 1, 1) := by decide +kernel
theorem d_Mod_copy_22 : decode b_Mod_copy 22 = .ok (.iload 4, 2) := by decide +kernel
theorem d_Mod_copy_24 : decode b_Mod_copy 24 = .ok (.iadd, 1) := by decide +kernel
theorem d_Mod_copy_25 : decode b_Mod_copy 25 = .ok (.iaload, 1) := by decide +kernel
theorem d_Mod_copy_26 : decode b_Mod_copy 26 = .ok (.iastore, 1) := by decide +kernel
theorem d_Mod_copy_27 : decode b_Mod_copy 27 = .ok (.iinc 4 1, 3) := by decide +kernel
theorem d_Mod_copy_30 : decode b_Mod_copy 30 = .ok (.goto (-27), 3) := by decide +kernel
theorem d_Mod_copy_33 : decode b_Mod_copy 33 = .ok (.return_, 1) := by decide +kernel
theorem d_Mod_record_0 : decode b_Mod_record 0 = .ok (.aload_n 0, 1) := by decide +kernel
theorem d_Mod_record_1 : decode b_Mod_record 1 = .ok (.getfield 28, 3) := by decide +kernel
theorem d_Mod_record_4 : decode b_Mod_record 4 = .ok (.iconst 5, 1) := by decide +kernel
theorem d_Mod_record_5 : decode b_Mod_record 5 = .ok (.if_icmp .ne 47, 3) := by decide +kernel
theorem d_Mod_record_8 : decode b_Mod_record 8 = .ok (.iconst 1, 1) := by decide +kernel
theorem d_Mod_record_9 : decode b_Mod_record 9 = .ok (.istore_n 1, 1) := by decide +kernel
theorem d_Mod_record_10 : decode b_Mod_record 10 = .ok (.iload_n 1, 1) := by decide +kernel
theorem d_Mod_record_11 : decode b_Mod_record 11 = .ok (.iconst 5, 1) := by decide +kernel
theorem d_Mod_record_12 : decode b_Mod_record 12 = .ok (.if_icmp .ge 30, 3) := by decide +kernel
theorem d_Mod_record_15 : decode b_Mod_record 15 = .ok (.aload_n 0, 1) := by decide +kernel
theorem d_Mod_record_16 : decode b_Mod_record 16 = .ok (.sipush 680, 3) := by decide +kernel
theorem d_Mod_record_19 : decode b_Mod_record 19 = .ok (.sipush 680, 3) := by decide +kernel
theorem d_Mod_record_22 : decode b_Mod_record 22 = .ok (.iload_n 1, 1) := by decide +kernel
theorem d_Mod_record_23 : decode b_Mod_record 23 = .ok (.imul, 1) := by decide +kernel
theorem d_Mod_record_24 : decode b_Mod_record 24 = .ok (.iadd, 1) := by decide +kernel
theorem d_Mod_record_25 : decode b_Mod_record 25 = .ok (.sipush 680, 3) := by decide +kernel
theorem d_Mod_record_28 : decode b_Mod_record 28 = .ok (.iload_n 1, 1) := by decide +kernel
theorem d_Mod_record_29 : decode b_Mod_record 29 = .ok (.imul, 1) := by decide +kernel
theorem d_Mod_record_30 : decode b_Mod_record 30 = .ok (.sipush 680, 3) := by decide +kernel
theorem d_Mod_record_33 : decode b_Mod_record 33 = .ok (.invokevirtual 32, 3) := by decide +kernel
theorem d_Mod_record_36 : decode b_Mod_record 36 = .ok (.iinc 1 1, 3) := by decide +kernel
theorem d_Mod_record_39 : decode b_Mod_record 39 = .ok (.goto (-29), 3) := by decide +kernel
theorem d_Mod_record_42 : decode b_Mod_record 42 = .ok (.aload_n 0, 1) := by decide +kernel
theorem d_Mod_record_43 : decode b_Mod_record 43 = .ok (.dup, 1) := by decide +kernel
theorem d_Mod_record_44 : decode b_Mod_record 44 = .ok (.getfield 28, 3) := by decide +kernel
theorem d_Mod_record_47 : decode b_Mod_record 47 = .ok (.iconst 1, 1) := by decide +kernel
theorem d_Mod_record_48 : decode b_Mod_record 48 = .ok (.isub, 1) := by decide +kernel
theorem d_Mod_record_49 : decode b_Mod_record 49 = .ok (.putfield 28, 3) := by decide +kernel
theorem d_Mod_record_52 : decode b_Mod_record 52 = .ok (.aload_n 0, 1) := by decide +kernel
theorem d_Mod_record_53 : decode b_Mod_record 53 = .ok (.iconst 0, 1) := by decide +kernel
theorem d_Mod_record_54 : decode b_Mod_record 54 = .ok (.sipush 680, 3) := by decide +kernel
theorem d_Mod_record_57 : decode b_Mod_record 57 = .ok (.sipush 680, 3) := by decide +kernel
theorem d_Mod_record_60 : decode b_Mod_record 60 = .ok (.aload_n 0, 1) := by decide +kernel
theorem d_Mod_record_61 : decode b_Mod_record 61 = .ok (.getfield 28, 3) := by decide +kernel
theorem d_Mod_record_64 : decode b_Mod_record 64 = .ok (.imul, 1) := by decide +kernel
theorem d_Mod_record_65 : decode b_Mod_record 65 = .ok (.iadd, 1) := by decide +kernel
theorem d_Mod_record_66 : decode b_Mod_record 66 = .ok (.sipush 680, 3) := by decide +kernel
theorem d_Mod_record_69 : decode b_Mod_record 69 = .ok (.invokevirtual 32, 3) := by decide +kernel
theorem d_Mod_record_72 : decode b_Mod_record 72 = .ok (.aload_n 0, 1) := by decide +kernel
theorem d_Mod_record_73 : decode b_Mod_record 73 = .ok (.dup, 1) := by decide +kernel
theorem d_Mod_record_74 : decode b_Mod_record 74 = .ok (.getfield 28, 3) := by decide +kernel
theorem d_Mod_record_77 : decode b_Mod_record 77 = .ok (.iconst 1, 1) := by decide +kernel
theorem d_Mod_record_78 : decode b_Mod_record 78 = .ok (.iadd, 1) := by decide +kernel
theorem d_Mod_record_79 : decode b_Mod_record 79 = .ok (.putfield 28, 3) := by decide +kernel
theorem d_Mod_record_82 : decode b_Mod_record 82 = .ok (.return_, 1) := by decide +kernel
theorem d_Mod_undo_0 : decode b_Mod_undo 0 = .ok (.aload_n 0, 1) := by decide +kernel
theorem d_Mod_undo_1 : decode b_Mod_undo 1 = .ok (.getfield 28, 3) := by decide +kernel
theorem d_Mod_undo_4 : decode b_Mod_undo 4 = .ok (.ifCond .ne 6, 3) := by decide +kernel
theorem d_Mod_undo_7 : decode b_Mod_undo 7 = .ok (.bipush (-2), 2) := by decide +kernel
theorem d_Mod_undo_9 : decode b_Mod_undo 9 = .ok (.ireturn, 1) := by decide +kernel
theorem d_Mod_undo_10 : decode b_Mod_undo 10 = .ok (.aload_n 0, 1) := by decide +kernel
theorem d_Mod_undo_11 : decode b_Mod_undo 11 = .ok (.dup, 1) := by decide +kernel
theorem d_Mod_undo_12 : decode b_Mod_undo 12 = .ok (.getfield 28, 3) := by decide +kernel
theorem d_Mod_undo_15 : decode b_Mod_undo 15 = .ok (.iconst 1, 1) := by decide +kernel
theorem d_Mod_undo_16 : decode b_Mod_undo 16 = .ok (.isub, 1) := by decide +kernel
theorem d_Mod_undo_17 : decode b_Mod_undo 17 = .ok (.putfield 28, 3) := by decide +kernel
theorem d_Mod_undo_20 : decode b_Mod_undo 20 = .ok (.aload_n 0, 1) := by decide +kernel
theorem d_Mod_undo_21 : decode b_Mod_undo 21 = .ok (.sipush 680, 3) := by decide +kernel
theorem d_Mod_undo_24 : decode b_Mod_undo 24 = .ok (.sipush 680, 3) := by decide +kernel
theorem d_Mod_undo_27 : decode b_Mod_undo 27 = .ok (.aload_n 0, 1) := by decide +kernel
theorem d_Mod_undo_28 : decode b_Mod_undo 28 = .ok (.getfield 28, 3) := by decide +kernel
theorem d_Mod_undo_31 : decode b_Mod_undo 31 = .ok (.imul, 1) := by decide +kernel
theorem d_Mod_undo_32 : decode b_Mod_undo 32 = .ok (.iadd, 1) := by decide +kernel
theorem d_Mod_undo_33 : decode b_Mod_undo 33 = .ok (.iconst 0, 1) := by decide +kernel
theorem d_Mod_undo_34 : decode b_Mod_undo 34 = .ok (.sipush 680, 3) := by decide +kernel
theorem d_Mod_undo_37 : decode b_Mod_undo 37 = .ok (.invokevirtual 32, 3) := by decide +kernel
theorem d_Mod_undo_40 : decode b_Mod_undo 40 = .ok (.aload_n 0, 1) := by decide +kernel
theorem d_Mod_undo_41 : decode b_Mod_undo 41 = .ok (.getfield 28, 3) := by decide +kernel
theorem d_Mod_undo_44 : decode b_Mod_undo 44 = .ok (.ireturn, 1) := by decide +kernel
theorem d_Mod_take_0 : decode b_Mod_take 0 = .ok (.iload_n 1, 1) := by decide +kernel
theorem d_Mod_take_1 : decode b_Mod_take 1 = .ok (.iconst 0, 1) := by decide +kernel
theorem d_Mod_take_2 : decode b_Mod_take 2 = .ok (.iconst 1, 1) := by decide +kernel
theorem d_Mod_take_3 : decode b_Mod_take 3 = .ok (.invokestatic 24, 3) := by decide +kernel
theorem d_Mod_take_6 : decode b_Mod_take 6 = .ok (.ifCond .ne 5, 3) := by decide +kernel
theorem d_Mod_take_9 : decode b_Mod_take 9 = .ok (.iconst (-1), 1) := by decide +kernel
theorem d_Mod_take_10 : decode b_Mod_take 10 = .ok (.ireturn, 1) := by decide +kernel
theorem d_Mod_take_11 : decode b_Mod_take 11 = .ok (.aload_n 0, 1) := by decide +kernel
theorem d_Mod_take_12 : decode b_Mod_take 12 = .ok (.invokevirtual 36, 3) := by decide +kernel
theorem d_Mod_take_15 : decode b_Mod_take 15 = .ok (.aload_n 0, 1) := by decide +kernel
theorem d_Mod_take_16 : decode b_Mod_take 16 = .ok (.iconst 0, 1) := by decide +kernel
theorem d_Mod_take_17 : decode b_Mod_take 17 = .ok (.sipush 226, 3) := by decide +kernel
theorem d_Mod_take_20 : decode b_Mod_take 20 = .ok (.sipush 226, 3) := by decide +kernel
theorem d_Mod_take_23 : decode b_Mod_take 23 = .ok (.iload_n 1, 1) := by decide +kernel
theorem d_Mod_take_24 : decode b_Mod_take 24 = .ok (.imul, 1) := by decide +kernel
theorem d_Mod_take_25 : decode b_Mod_take 25 = .ok (.iadd, 1) := by decide +kernel
theorem d_Mod_take_26 : decode b_Mod_take 26 = .ok (.sipush 226, 3) := by decide +kernel
theorem d_Mod_take_29 : decode b_Mod_take 29 = .ok (.invokevirtual 32, 3) := by decide +kernel
theorem d_Mod_take_32 : decode b_Mod_take 32 = .ok (.aload_n 0, 1) := by decide +kernel
theorem d_Mod_take_33 : decode b_Mod_take 33 = .ok (.getfield 7, 3) := by decide +kernel
theorem d_Mod_take_36 : decode b_Mod_take 36 = .ok (.sipush 678, 3) := by decide +kernel
theorem d_Mod_take_39 : decode b_Mod_take 39 = .ok (.iload_n 1, 1) := by decide +kernel
theorem d_Mod_take_40 : decode b_Mod_take 40 = .ok (.iadd, 1) := by decide +kernel
theorem d_Mod_take_41 : decode b_Mod_take 41 = .ok (.iconst 1, 1) := by decide +kernel
theorem d_Mod_take_42 : decode b_Mod_take 42 = .ok (.iastore, 1) := by decide +kernel
theorem d_Mod_take_43 : decode b_Mod_take 43 = .ok (.aload_n 0, 1) := by decide +kernel
theorem d_Mod_take_44 : decode b_Mod_take 44 = .ok (.getfield 7, 3) := by decide +kernel
theorem d_Mod_take_47 : decode b_Mod_take 47 = .ok (.iconst 0, 1) := by decide +kernel
theorem d_Mod_take_48 : decode b_Mod_take 48 = .ok (.iaload, 1) := by decide +kernel
theorem d_Mod_take_49 : decode b_Mod_take 49 = .ok (.ireturn, 1) := by decide +kernel
theorem d_Mod_restore_0 : decode b_Mod_restore 0 = .ok (.iload_n 1, 1) := by decide +kernel
theorem d_Mod_restore_1 : decode b_Mod_restore 1 = .ok (.iconst 0, 1) := by decide +kernel
theorem d_Mod_restore_2 : decode b_Mod_restore 2 = .ok (.iconst 1, 1) := by decide +kernel
theorem d_Mod_restore_3 : decode b_Mod_restore 3 = .ok (.invokestatic 24, 3) := by decide +kernel
theorem d_Mod_restore_6 : decode b_Mod_restore 6 = .ok (.ifCond .ne 5, 3) := by decide +kernel
theorem d_Mod_restore_9 : decode b_Mod_restore 9 = .ok (.iconst (-1), 1) := by decide +kernel
theorem d_Mod_restore_10 : decode b_Mod_restore 10 = .ok (.ireturn, 1) := by decide +kernel
theorem d_Mod_restore_11 : decode b_Mod_restore 11 = .ok (.aload_n 0, 1) := by decide +kernel
theorem d_Mod_restore_12 : decode b_Mod_restore 12 = .ok (.getfield 7, 3) := by decide +kernel
theorem d_Mod_restore_15 : decode b_Mod_restore 15 = .ok (.sipush 678, 3) := by decide +kernel
theorem d_Mod_restore_18 : decode b_Mod_restore 18 = .ok (.iload_n 1, 1) := by decide +kernel
theorem d_Mod_restore_19 : decode b_Mod_restore 19 = .ok (.iadd, 1) := by decide +kernel
theorem d_Mod_restore_20 : decode b_Mod_restore 20 = .ok (.iaload, 1) := by decide +kernel
theorem d_Mod_restore_21 : decode b_Mod_restore 21 = .ok (.ifCond .ne 6, 3) := by decide +kernel
theorem d_Mod_restore_24 : decode b_Mod_restore 24 = .ok (.bipush (-2), 2) := by decide +kernel
theorem d_Mod_restore_26 : decode b_Mod_restore 26 = .ok (.ireturn, 1) := by decide +kernel
theorem d_Mod_restore_27 : decode b_Mod_restore 27 = .ok (.aload_n 0, 1) := by decide +kernel
theorem d_Mod_restore_28 : decode b_Mod_restore 28 = .ok (.invokevirtual 36, 3) := by decide +kernel
theorem d_Mod_restore_31 : decode b_Mod_restore 31 = .ok (.aload_n 0, 1) := by decide +kernel
theorem d_Mod_restore_32 : decode b_Mod_restore 32 = .ok (.sipush 226, 3) := by decide +kernel
theorem d_Mod_restore_35 : decode b_Mod_restore 35 = .ok (.sipush 226, 3) := by decide +kernel
theorem d_Mod_restore_38 : decode b_Mod_restore 38 = .ok (.iload_n 1, 1) := by decide +kernel
theorem d_Mod_restore_39 : decode b_Mod_restore 39 = .ok (.imul, 1) := by decide +kernel
theorem d_Mod_restore_40 : decode b_Mod_restore 40 = .ok (.iadd, 1) := by decide +kernel
theorem d_Mod_restore_41 : decode b_Mod_restore 41 = .ok (.iconst 0, 1) := by decide +kernel
theorem d_Mod_restore_42 : decode b_Mod_restore 42 = .ok (.sipush 226, 3) := by decide +kernel
theorem d_Mod_restore_45 : decode b_Mod_restore 45 = .ok (.invokevirtual 32, 3) := by decide +kernel
theorem d_Mod_restore_48 : decode b_Mod_restore 48 = .ok (.aload_n 0, 1) := by decide +kernel
theorem d_Mod_restore_49 : decode b_Mod_restore 49 = .ok (.getfield 7, 3) := by decide +kernel
theorem d_Mod_restore_52 : decode b_Mod_restore 52 = .ok (.iconst 0, 1) := by decide +kernel
theorem d_Mod_restore_53 : decode b_Mod_restore 53 = .ok (.iaload, 1) := by decide +kernel
theorem d_Mod_restore_54 : decode b_Mod_restore 54 = .ok (.ireturn, 1) := by decide +kernel
theorem d_Mod_join_0 : decode b_Mod_join 0 = .ok (.aload_n 0, 1) := by decide +kernel
theorem d_Mod_join_1 : decode b_Mod_join 1 = .ok (.invokevirtual 39, 3) := by decide +kernel
theorem d_Mod_join_4 : decode b_Mod_join 4 = .ok (.ifCond .eq 6, 3) := by decide +kernel
theorem d_Mod_join_7 : decode b_Mod_join 7 = .ok (.bipush (-2), 2) := by decide +kernel
theorem d_Mod_join_9 : decode b_Mod_join 9 = .ok (.ireturn, 1) := by decide +kernel
theorem d_Mod_join_10 : decode b_Mod_join 10 = .ok (.aload_n 0, 1) := by decide +kernel
theorem d_Mod_join_11 : decode b_Mod_join 11 = .ok (.getfield 7, 3) := by decide +kernel
theorem d_Mod_join_14 : decode b_Mod_join 14 = .ok (.iconst 1, 1) := by decide +kernel
theorem d_Mod_join_15 : decode b_Mod_join 15 = .ok (.iaload, 1) := by decide +kernel
theorem d_Mod_join_16 : decode b_Mod_join 16 = .ok (.bipush 12, 2) := by decide +kernel
theorem d_Mod_join_18 : decode b_Mod_join 18 = .ok (.if_icmp .ne 6, 3) := by decide +kernel
theorem d_Mod_join_21 : decode b_Mod_join 21 = .ok (.bipush (-3), 2) := by decide +kernel
theorem d_Mod_join_23 : decode b_Mod_join 23 = .ok (.ireturn, 1) := by decide +kernel
theorem d_Mod_join_24 : decode b_Mod_join 24 = .ok (.aload_n 0, 1) := by decide +kernel
theorem d_Mod_join_25 : decode b_Mod_join 25 = .ok (.invokevirtual 36, 3) := by decide +kernel
theorem d_Mod_join_28 : decode b_Mod_join 28 = .ok (.aload_n 0, 1) := by decide +kernel
theorem d_Mod_join_29 : decode b_Mod_join 29 = .ok (.getfield 7, 3) := by decide +kernel
theorem d_Mod_join_32 : decode b_Mod_join 32 = .ok (.iconst 1, 1) := by decide +kernel
theorem d_Mod_join_33 : decode b_Mod_join 33 = .ok (.iaload, 1) := by decide +kernel
theorem d_Mod_join_34 : decode b_Mod_join 34 = .ok (.istore_n 1, 1) := by decide +kernel
theorem d_Mod_join_35 : decode b_Mod_join 35 = .ok (.iconst 0, 1) := by decide +kernel
theorem d_Mod_join_36 : decode b_Mod_join 36 = .ok (.istore_n 2, 1) := by decide +kernel
theorem d_Mod_join_37 : decode b_Mod_join 37 = .ok (.iload_n 2, 1) := by decide +kernel
theorem d_Mod_join_38 : decode b_Mod_join 38 = .ok (.bipush 13, 2) := by decide +kernel
theorem d_Mod_join_40 : decode b_Mod_join 40 = .ok (.if_icmp .ge 20, 3) := by decide +kernel
theorem d_Mod_join_43 : decode b_Mod_join 43 = .ok (.aload_n 0, 1) := by decide +kernel
theorem d_Mod_join_44 : decode b_Mod_join 44 = .ok (.getfield 7, 3) := by decide +kernel
theorem d_Mod_join_47 : decode b_Mod_join 47 = .ok (.iload_n 1, 1) := by decide +kernel
theorem d_Mod_join_48 : decode b_Mod_join 48 = .ok (.iload_n 2, 1) := by decide +kernel
theorem d_Mod_join_49 : decode b_Mod_join 49 = .ok (.invokestatic 43, 3) := by decide +kernel
theorem d_Mod_join_52 : decode b_Mod_join 52 = .ok (.iconst 0, 1) := by decide +kernel
theorem d_Mod_join_53 : decode b_Mod_join 53 = .ok (.iastore, 1) := by decide +kernel
theorem d_Mod_join_54 : decode b_Mod_join 54 = .ok (.iinc 2 1, 3) := by decide +kernel
theorem d_Mod_join_57 : decode b_Mod_join 57 = .ok (.goto (-20), 3) := by decide +kernel
theorem d_Mod_join_60 : decode b_Mod_join 60 = .ok (.aload_n 0, 1) := by decide +kernel
theorem d_Mod_join_61 : decode b_Mod_join 61 = .ok (.getfield 7, 3) := by decide +kernel
theorem d_Mod_join_64 : decode b_Mod_join 64 = .ok (.iload_n 1, 1) := by decide +kernel
theorem d_Mod_join_65 : decode b_Mod_join 65 = .ok (.iconst 3, 1) := by decide +kernel
theorem d_Mod_join_66 : decode b_Mod_join 66 = .ok (.invokestatic 43, 3) := by decide +kernel
theorem d_Mod_join_69 : decode b_Mod_join 69 = .ok (.bipush (-9), 2) := by decide +kernel
theorem d_Mod_join_71 : decode b_Mod_join 71 = .ok (.iastore, 1) := by decide +kernel
theorem d_Mod_join_72 : decode b_Mod_join 72 = .ok (.aload_n 0, 1) := by decide +kernel
theorem d_Mod_join_73 : decode b_Mod_join 73 = .ok (.getfield 7, 3) := by decide +kernel
theorem d_Mod_join_76 : decode b_Mod_join 76 = .ok (.iload_n 1, 1) := by decide +kernel
theorem d_Mod_join_77 : decode b_Mod_join 77 = .ok (.bipush 6, 2) := by decide +kernel
theorem d_Mod_join_79 : decode b_Mod_join 79 = .ok (.invokestatic 43, 3) := by decide +kernel
theorem d_Mod_join_82 : decode b_Mod_join 82 = .ok (.aload_n 0, 1) := by decide +kernel
theorem d_Mod_join_83 : decode b_Mod_join 83 = .ok (.getfield 7, 3) := by decide +kernel
theorem d_Mod_join_86 : decode b_Mod_join 86 = .ok (.iconst 0, 1) := by decide +kernel
theorem d_Mod_join_87 : decode b_Mod_join 87 = .ok (.iaload, 1) := by decide +kernel
theorem d_Mod_join_88 : decode b_Mod_join 88 = .ok (.iastore, 1) := by decide +kernel
theorem d_Mod_join_89 : decode b_Mod_join 89 = .ok (.aload_n 0, 1) := by decide +kernel
theorem d_Mod_join_90 : decode b_Mod_join 90 = .ok (.getfield 7, 3) := by decide +kernel
theorem d_Mod_join_93 : decode b_Mod_join 93 = .ok (.iload_n 1, 1) := by decide +kernel
theorem d_Mod_join_94 : decode b_Mod_join 94 = .ok (.bipush 9, 2) := by decide +kernel
theorem d_Mod_join_96 : decode b_Mod_join 96 = .ok (.invokestatic 43, 3) := by decide +kernel
theorem d_Mod_join_99 : decode b_Mod_join 99 = .ok (.bipush (-9), 2) := by decide +kernel
theorem d_Mod_join_101 : decode b_Mod_join 101 = .ok (.iastore, 1) := by decide +kernel
theorem d_Mod_join_102 : decode b_Mod_join 102 = .ok (.aload_n 0, 1) := by decide +kernel
theorem d_Mod_join_103 : decode b_Mod_join 103 = .ok (.getfield 7, 3) := by decide +kernel
theorem d_Mod_join_106 : decode b_Mod_join 106 = .ok (.iload_n 1, 1) := by decide +kernel
theorem d_Mod_join_107 : decode b_Mod_join 107 = .ok (.bipush 11, 2) := by decide +kernel
theorem d_Mod_join_109 : decode b_Mod_join 109 = .ok (.invokestatic 43, 3) := by decide +kernel
theorem d_Mod_join_112 : decode b_Mod_join 112 = .ok (.bipush (-9), 2) := by decide +kernel
theorem d_Mod_join_114 : decode b_Mod_join 114 = .ok (.iastore, 1) := by decide +kernel
theorem d_Mod_join_115 : decode b_Mod_join 115 = .ok (.aload_n 0, 1) := by decide +kernel
theorem d_Mod_join_116 : decode b_Mod_join 116 = .ok (.getfield 7, 3) := by decide +kernel
theorem d_Mod_join_119 : decode b_Mod_join 119 = .ok (.iconst 1, 1) := by decide +kernel
theorem d_Mod_join_120 : decode b_Mod_join 120 = .ok (.dup2, 1) := by decide +kernel
theorem d_Mod_join_121 : decode b_Mod_join 121 = .ok (.iaload, 1) := by decide +kernel
theorem d_Mod_join_122 : decode b_Mod_join 122 = .ok (.iconst 1, 1) := by decide +kernel
theorem d_Mod_join_123 : decode b_Mod_join 123 = .ok (.iadd, 1) := by decide +kernel
theorem d_Mod_join_124 : decode b_Mod_join 124 = .ok (.iastore, 1) := by decide +kernel
theorem d_Mod_join_125 : decode b_Mod_join 125 = .ok (.iload_n 1, 1) := by decide +kernel
theorem d_Mod_join_126 : decode b_Mod_join 126 = .ok (.ireturn, 1) := by decide +kernel
theorem d_Mod_isGoodWeek_0 : decode b_Mod_isGoodWeek 0 = .ok (.iload_n 2, 1) := by decide +kernel
theorem d_Mod_isGoodWeek_1 : decode b_Mod_isGoodWeek 1 = .ok (.ifCond .lt 34, 3) := by decide +kernel
theorem d_Mod_isGoodWeek_4 : decode b_Mod_isGoodWeek 4 = .ok (.aload_n 0, 1) := by decide +kernel
theorem d_Mod_isGoodWeek_5 : decode b_Mod_isGoodWeek 5 = .ok (.getfield 7, 3) := by decide +kernel
theorem d_Mod_isGoodWeek_8 : decode b_Mod_isGoodWeek 8 = .ok (.iload_n 1, 1) := by decide +kernel
theorem d_Mod_isGoodWeek_9 : decode b_Mod_isGoodWeek 9 = .ok (.bipush 7, 2) := by decide +kernel
theorem d_Mod_isGoodWeek_11 : decode b_Mod_isGoodWeek 11 = .ok (.iload_n 2, 1) := by decide +kernel
theorem d_Mod_isGoodWeek_12 : decode b_Mod_isGoodWeek 12 = .ok (.bipush 31, 2) := by decide +kernel
theorem d_Mod_isGoodWeek_14 : decode b_Mod_isGoodWeek 14 = .ok (.idiv, 1) := by decide +kernel
theorem d_Mod_isGoodWeek_15 : decode b_Mod_isGoodWeek 15 = .ok (.iadd, 1) := by decide +kernel
theorem d_Mod_isGoodWeek_16 : decode b_Mod_isGoodWeek 16 = .ok (.invokestatic 43, 3) := by decide +kernel
theorem d_Mod_isGoodWeek_19 : decode b_Mod_isGoodWeek 19 = .ok (.iaload, 1) := by decide +kernel
theorem d_Mod_isGoodWeek_20 : decode b_Mod_isGoodWeek 20 = .ok (.iload_n 2, 1) := by decide +kernel
theorem d_Mod_isGoodWeek_21 : decode b_Mod_isGoodWeek 21 = .ok (.bipush 31, 2) := by decide +kernel
theorem d_Mod_isGoodWeek_23 : decode b_Mod_isGoodWeek 23 = .ok (.irem, 1) := by decide +kernel
theorem d_Mod_isGoodWeek_24 : decode b_Mod_isGoodWeek 24 = .ok (.ishr, 1) := by decide +kernel
theorem d_Mod_isGoodWeek_25 : decode b_Mod_isGoodWeek 25 = .ok (.iconst 1, 1) := by decide +kernel
theorem d_Mod_isGoodWeek_26 : decode b_Mod_isGoodWeek 26 = .ok (.iand, 1) := by decide +kernel
theorem d_Mod_isGoodWeek_27 : decode b_Mod_isGoodWeek 27 = .ok (.iconst 1, 1) := by decide +kernel
theorem d_Mod_isGoodWeek_28 : decode b_Mod_isGoodWeek 28 = .ok (.if_icmp .ne 7, 3) := by decide +kernel
theorem d_Mod_isGoodWeek_31 : decode b_Mod_isGoodWeek 31 = .ok (.iconst 1, 1) := by decide +kernel
theorem d_Mod_isGoodWeek_32 : decode b_Mod_isGoodWeek 32 = .ok (.goto 4, 3) := by decide +kernel
theorem d_Mod_isGoodWeek_35 : decode b_Mod_isGoodWeek 35 = .ok (.iconst 0, 1) := by decide +kernel
theorem d_Mod_isGoodWeek_36 : decode b_Mod_isGoodWeek 36 = .ok (.ireturn, 1) := by decide +kernel
theorem d_Mod_isInHand_0 : decode b_Mod_isInHand 0 = .ok (.aload_n 0, 1) := by decide +kernel
theorem d_Mod_isInHand_1 : decode b_Mod_isInHand 1 = .ok (.getfield 7, 3) := by decide +kernel
theorem d_Mod_isInHand_4 : decode b_Mod_isInHand 4 = .ok (.iload_n 1, 1) := by decide +kernel
theorem d_Mod_isInHand_5 : decode b_Mod_isInHand 5 = .ok (.iconst 1, 1) := by decide +kernel
theorem d_Mod_isInHand_6 : decode b_Mod_isInHand 6 = .ok (.invokestatic 43, 3) := by decide +kernel
theorem d_Mod_isInHand_9 : decode b_Mod_isInHand 9 = .ok (.iaload, 1) := by decide +kernel
theorem d_Mod_isInHand_10 : decode b_Mod_isInHand 10 = .ok (.ifCond .ne 7, 3) := by decide +kernel
theorem d_Mod_isInHand_13 : decode b_Mod_isInHand 13 = .ok (.iconst 1, 1) := by decide +kernel
theorem d_Mod_isInHand_14 : decode b_Mod_isInHand 14 = .ok (.goto 4, 3) := by decide +kernel
theorem d_Mod_isInHand_17 : decode b_Mod_isInHand 17 = .ok (.iconst 0, 1) := by decide +kernel
theorem d_Mod_isInHand_18 : decode b_Mod_isInHand 18 = .ok (.ireturn, 1) := by decide +kernel
theorem d_Mod_noStick_0 : decode b_Mod_noStick 0 = .ok (.aload_n 0, 1) := by decide +kernel
theorem d_Mod_noStick_1 : decode b_Mod_noStick 1 = .ok (.iload_n 1, 1) := by decide +kernel
theorem d_Mod_noStick_2 : decode b_Mod_noStick 2 = .ok (.invokevirtual 46, 3) := by decide +kernel
theorem d_Mod_noStick_5 : decode b_Mod_noStick 5 = .ok (.ifCond .eq 12, 3) := by decide +kernel
theorem d_Mod_noStick_8 : decode b_Mod_noStick 8 = .ok (.iload_n 2, 1) := by decide +kernel
theorem d_Mod_noStick_9 : decode b_Mod_noStick 9 = .ok (.iconst 1, 1) := by decide +kernel
theorem d_Mod_noStick_10 : decode b_Mod_noStick 10 = .ok (.iconst 5, 1) := by decide +kernel
theorem d_Mod_noStick_11 : decode b_Mod_noStick 11 = .ok (.invokestatic 24, 3) := by decide +kernel
theorem d_Mod_noStick_14 : decode b_Mod_noStick 14 = .ok (.ifCond .ne 5, 3) := by decide +kernel
theorem d_Mod_noStick_17 : decode b_Mod_noStick 17 = .ok (.iconst (-1), 1) := by decide +kernel
theorem d_Mod_noStick_18 : decode b_Mod_noStick 18 = .ok (.ireturn, 1) := by decide +kernel
theorem d_Mod_noStick_19 : decode b_Mod_noStick 19 = .ok (.aload_n 0, 1) := by decide +kernel
theorem d_Mod_noStick_20 : decode b_Mod_noStick 20 = .ok (.invokevirtual 39, 3) := by decide +kernel
theorem d_Mod_noStick_23 : decode b_Mod_noStick 23 = .ok (.ifCond .ne 25, 3) := by decide +kernel
theorem d_Mod_noStick_26 : decode b_Mod_noStick 26 = .ok (.aload_n 0, 1) := by decide +kernel
theorem d_Mod_noStick_27 : decode b_Mod_noStick 27 = .ok (.iload_n 1, 1) := by decide +kernel
theorem d_Mod_noStick_28 : decode b_Mod_noStick 28 = .ok (.invokevirtual 50, 3) := by decide +kernel
theorem d_Mod_noStick_31 : decode b_Mod_noStick 31 = .ok (.ifCond .eq 17, 3) := by decide +kernel
theorem d_Mod_noStick_34 : decode b_Mod_noStick 34 = .ok (.aload_n 0, 1) := by decide +kernel
theorem d_Mod_noStick_35 : decode b_Mod_noStick 35 = .ok (.iload_n 1, 1) := by decide +kernel
theorem d_Mod_noStick_36 : decode b_Mod_noStick 36 = .ok (.aload_n 0, 1) := by decide +kernel
theorem d_Mod_noStick_37 : decode b_Mod_noStick 37 = .ok (.getfield 7, 3) := by decide +kernel
theorem d_Mod_noStick_40 : decode b_Mod_noStick 40 = .ok (.iconst 0, 1) := by decide +kernel
theorem d_Mod_noStick_41 : decode b_Mod_noStick 41 = .ok (.iaload, 1) := by decide +kernel
theorem d_Mod_noStick_42 : decode b_Mod_noStick 42 = .ok (.invokevirtual 53, 3) := by decide +kernel
theorem d_Mod_noStick_45 : decode b_Mod_noStick 45 = .ok (.ifCond .eq 8, 3) := by decide +kernel
theorem d_Mod_noStick_48 : decode b_Mod_noStick 48 = .ok (.bipush (-2), 2) := by decide +kernel
theorem d_Mod_noStick_50 : decode b_Mod_noStick 50 = .ok (.goto 4, 3) := by decide +kernel
theorem d_Mod_noStick_53 : decode b_Mod_noStick 53 = .ok (.iconst 0, 1) := by decide +kernel
theorem d_Mod_noStick_54 : decode b_Mod_noStick 54 = .ok (.ireturn, 1) := by decide +kernel
theorem d_Mod_doStick_0 : decode b_Mod_doStick 0 = .ok (.aload_n 0, 1) := by decide +kernel
theorem d_Mod_doStick_1 : decode b_Mod_doStick 1 = .ok (.getfield 7, 3) := by decide +kernel
theorem d_Mod_doStick_4 : decode b_Mod_doStick 4 = .ok (.iload_n 1, 1) := by decide +kernel
theorem d_Mod_doStick_5 : decode b_Mod_doStick 5 = .ok (.iconst 0, 1) := by decide +kernel
theorem d_Mod_doStick_6 : decode b_Mod_doStick 6 = .ok (.invokestatic 43, 3) := by decide +kernel
theorem d_Mod_doStick_9 : decode b_Mod_doStick 9 = .ok (.dup2, 1) := by decide +kernel
theorem d_Mod_doStick_10 : decode b_Mod_doStick 10 = .ok (.iaload, 1) := by decide +kernel
theorem d_Mod_doStick_11 : decode b_Mod_doStick 11 = .ok (.iload_n 2, 1) := by decide +kernel
theorem d_Mod_doStick_12 : decode b_Mod_doStick 12 = .ok (.iadd, 1) := by decide +kernel
theorem d_Mod_doStick_13 : decode b_Mod_doStick 13 = .ok (.iastore, 1) := by decide +kernel
theorem d_Mod_doStick_14 : decode b_Mod_doStick 14 = .ok (.aload_n 0, 1) := by decide +kernel
theorem d_Mod_doStick_15 : decode b_Mod_doStick 15 = .ok (.getfield 7, 3) := by decide +kernel
theorem d_Mod_doStick_18 : decode b_Mod_doStick 18 = .ok (.iload_n 1, 1) := by decide +kernel
theorem d_Mod_doStick_19 : decode b_Mod_doStick 19 = .ok (.bipush 7, 2) := by decide +kernel
theorem d_Mod_doStick_21 : decode b_Mod_doStick 21 = .ok (.aload_n 0, 1) := by decide +kernel
theorem d_Mod_doStick_22 : decode b_Mod_doStick 22 = .ok (.getfield 7, 3) := by decide +kernel
theorem d_Mod_doStick_25 : decode b_Mod_doStick 25 = .ok (.iconst 0, 1) := by decide +kernel
theorem d_Mod_doStick_26 : decode b_Mod_doStick 26 = .ok (.iaload, 1) := by decide +kernel
theorem d_Mod_doStick_27 : decode b_Mod_doStick 27 = .ok (.bipush 31, 2) := by decide +kernel
theorem d_Mod_doStick_29 : decode b_Mod_doStick 29 = .ok (.idiv, 1) := by decide +kernel
theorem d_Mod_doStick_30 : decode b_Mod_doStick 30 = .ok (.iadd, 1) := by decide +kernel
theorem d_Mod_doStick_31 : decode b_Mod_doStick 31 = .ok (.invokestatic 43, 3) := by decide +kernel
theorem d_Mod_doStick_34 : decode b_Mod_doStick 34 = .ok (.dup2, 1) := by decide +kernel
theorem d_Mod_doStick_35 : decode b_Mod_doStick 35 = .ok (.iaload, 1) := by decide +kernel
theorem d_Mod_doStick_36 : decode b_Mod_doStick 36 = .ok (.iconst 1, 1) := by decide +kernel
theorem d_Mod_doStick_37 : decode b_Mod_doStick 37 = .ok (.aload_n 0, 1) := by decide +kernel
theorem d_Mod_doStick_38 : decode b_Mod_doStick 38 = .ok (.getfield 7, 3) := by decide +kernel
theorem d_Mod_doStick_41 : decode b_Mod_doStick 41 = .ok (.iconst 0, 1) := by decide +kernel
theorem d_Mod_doStick_42 : decode b_Mod_doStick 42 = .ok (.iaload, 1) := by decide +kernel
theorem d_Mod_doStick_43 : decode b_Mod_doStick 43 = .ok (.bipush 31, 2) := by decide +kernel
theorem d_Mod_doStick_45 : decode b_Mod_doStick 45 = .ok (.irem, 1) := by decide +kernel
theorem d_Mod_doStick_46 : decode b_Mod_doStick 46 = .ok (.ishl, 1) := by decide +kernel
theorem d_Mod_doStick_47 : decode b_Mod_doStick 47 = .ok (.ior, 1) := by decide +kernel
theorem d_Mod_doStick_48 : decode b_Mod_doStick 48 = .ok (.iastore, 1) := by decide +kernel
theorem d_Mod_doStick_49 : decode b_Mod_doStick 49 = .ok (.aload_n 0, 1) := by decide +kernel
theorem d_Mod_doStick_50 : decode b_Mod_doStick 50 = .ok (.getfield 7, 3) := by decide +kernel
theorem d_Mod_doStick_53 : decode b_Mod_doStick 53 = .ok (.iload_n 1, 1) := by decide +kernel
theorem d_Mod_doStick_54 : decode b_Mod_doStick 54 = .ok (.bipush 9, 2) := by decide +kernel
theorem d_Mod_doStick_56 : decode b_Mod_doStick 56 = .ok (.invokestatic 43, 3) := by decide +kernel
theorem d_Mod_doStick_59 : decode b_Mod_doStick 59 = .ok (.aload_n 0, 1) := by decide +kernel
theorem d_Mod_doStick_60 : decode b_Mod_doStick 60 = .ok (.getfield 7, 3) := by decide +kernel
theorem d_Mod_doStick_63 : decode b_Mod_doStick 63 = .ok (.iconst 0, 1) := by decide +kernel
theorem d_Mod_doStick_64 : decode b_Mod_doStick 64 = .ok (.iaload, 1) := by decide +kernel
theorem d_Mod_doStick_65 : decode b_Mod_doStick 65 = .ok (.iastore, 1) := by decide +kernel
theorem d_Mod_doStick_66 : decode b_Mod_doStick 66 = .ok (.aload_n 0, 1) := by decide +kernel
theorem d_Mod_doStick_67 : decode b_Mod_doStick 67 = .ok (.getfield 7, 3) := by decide +kernel
theorem d_Mod_doStick_70 : decode b_Mod_doStick 70 = .ok (.iconst 3, 1) := by decide +kernel
theorem d_Mod_doStick_71 : decode b_Mod_doStick 71 = .ok (.dup2, 1) := by decide +kernel
theorem d_Mod_doStick_72 : decode b_Mod_doStick 72 = .ok (.iaload, 1) := by decide +kernel
theorem d_Mod_doStick_73 : decode b_Mod_doStick 73 = .ok (.bipush 10, 2) := by decide +kernel
theorem d_Mod_doStick_75 : decode b_Mod_doStick 75 = .ok (.iload_n 2, 1) := by decide +kernel
theorem d_Mod_doStick_76 : decode b_Mod_doStick 76 = .ok (.imul, 1) := by decide +kernel
theorem d_Mod_doStick_77 : decode b_Mod_doStick 77 = .ok (.iadd, 1) := by decide +kernel
theorem d_Mod_doStick_78 : decode b_Mod_doStick 78 = .ok (.iastore, 1) := by decide +kernel
theorem d_Mod_doStick_79 : decode b_Mod_doStick 79 = .ok (.aload_n 0, 1) := by decide +kernel
theorem d_Mod_doStick_80 : decode b_Mod_doStick 80 = .ok (.getfield 7, 3) := by decide +kernel
theorem d_Mod_doStick_83 : decode b_Mod_doStick 83 = .ok (.iconst 5, 1) := by decide +kernel
theorem d_Mod_doStick_84 : decode b_Mod_doStick 84 = .ok (.dup2, 1) := by decide +kernel
theorem d_Mod_doStick_85 : decode b_Mod_doStick 85 = .ok (.iaload, 1) := by decide +kernel
theorem d_Mod_doStick_86 : decode b_Mod_doStick 86 = .ok (.bipush 10, 2) := by decide +kernel
theorem d_Mod_doStick_88 : decode b_Mod_doStick 88 = .ok (.iload_n 2, 1) := by decide +kernel
theorem d_Mod_doStick_89 : decode b_Mod_doStick 89 = .ok (.imul, 1) := by decide +kernel
theorem d_Mod_doStick_90 : decode b_Mod_doStick 90 = .ok (.iadd, 1) := by decide +kernel
theorem d_Mod_doStick_91 : decode b_Mod_doStick 91 = .ok (.iastore, 1) := by decide +kernel
theorem d_Mod_doStick_92 : decode b_Mod_doStick 92 = .ok (.aload_n 0, 1) := by decide +kernel
theorem d_Mod_doStick_93 : decode b_Mod_doStick 93 = .ok (.getfield 7, 3) := by decide +kernel
theorem d_Mod_doStick_96 : decode b_Mod_doStick 96 = .ok (.iload_n 1, 1) := by decide +kernel
theorem d_Mod_doStick_97 : decode b_Mod_doStick 97 = .ok (.iconst 0, 1) := by decide +kernel
theorem d_Mod_doStick_98 : decode b_Mod_doStick 98 = .ok (.invokestatic 43, 3) := by decide +kernel
theorem d_Mod_doStick_101 : decode b_Mod_doStick 101 = .ok (.iaload, 1) := by decide +kernel
theorem d_Mod_doStick_102 : decode b_Mod_doStick 102 = .ok (.ireturn, 1) := by decide +kernel
theorem d_Mod_stick_0 : decode b_Mod_stick 0 = .ok (.aload_n 0, 1) := by decide +kernel
theorem d_Mod_stick_1 : decode b_Mod_stick 1 = .ok (.iload_n 1, 1) := by decide +kernel
theorem d_Mod_stick_2 : decode b_Mod_stick 2 = .ok (.iload_n 2, 1) := by decide +kernel
theorem d_Mod_stick_3 : decode b_Mod_stick 3 = .ok (.invokevirtual 57, 3) := by decide +kernel
theorem d_Mod_stick_6 : decode b_Mod_stick 6 = .ok (.istore_n 3, 1) := by decide +kernel
theorem d_Mod_stick_7 : decode b_Mod_stick 7 = .ok (.iload_n 3, 1) := by decide +kernel
theorem d_Mod_stick_8 : decode b_Mod_stick 8 = .ok (.ifCond .eq 5, 3) := by decide +kernel
theorem d_Mod_stick_11 : decode b_Mod_stick 11 = .ok (.iload_n 3, 1) := by decide +kernel
theorem d_Mod_stick_12 : decode b_Mod_stick 12 = .ok (.ireturn, 1) := by decide +kernel
theorem d_Mod_stick_13 : decode b_Mod_stick 13 = .ok (.aload_n 0, 1) := by decide +kernel
theorem d_Mod_stick_14 : decode b_Mod_stick 14 = .ok (.invokevirtual 36, 3) := by decide +kernel
theorem d_Mod_stick_17 : decode b_Mod_stick 17 = .ok (.aload_n 0, 1) := by decide +kernel
theorem d_Mod_stick_18 : decode b_Mod_stick 18 = .ok (.iload_n 1, 1) := by decide +kernel
theorem d_Mod_stick_19 : decode b_Mod_stick 19 = .ok (.iload_n 2, 1) := by decide +kernel
theorem d_Mod_stick_20 : decode b_Mod_stick 20 = .ok (.invokevirtual 60, 3) := by decide +kernel
theorem d_Mod_stick_23 : decode b_Mod_stick 23 = .ok (.ireturn, 1) := by decide +kernel
theorem d_Mod_payOut_0 : decode b_Mod_payOut 0 = .ok (.aload_n 0, 1) := by decide +kernel
theorem d_Mod_payOut_1 : decode b_Mod_payOut 1 = .ok (.getfield 7, 3) := by decide +kernel
theorem d_Mod_payOut_4 : decode b_Mod_payOut 4 = .ok (.iconst 3, 1) := by decide +kernel
theorem d_Mod_payOut_5 : decode b_Mod_payOut 5 = .ok (.dup2, 1) := by decide +kernel
theorem d_Mod_payOut_6 : decode b_Mod_payOut 6 = .ok (.iaload, 1) := by decide +kernel
theorem d_Mod_payOut_7 : decode b_Mod_payOut 7 = .ok (.iload_n 2, 1) := by decide +kernel
theorem d_Mod_payOut_8 : decode b_Mod_payOut 8 = .ok (.isub, 1) := by decide +kernel
theorem d_Mod_payOut_9 : decode b_Mod_payOut 9 = .ok (.iastore, 1) := by decide +kernel
theorem d_Mod_payOut_10 : decode b_Mod_payOut 10 = .ok (.aload_n 0, 1) := by decide +kernel
theorem d_Mod_payOut_11 : decode b_Mod_payOut 11 = .ok (.getfield 7, 3) := by decide +kernel
theorem d_Mod_payOut_14 : decode b_Mod_payOut 14 = .ok (.bipush 6, 2) := by decide +kernel
theorem d_Mod_payOut_16 : decode b_Mod_payOut 16 = .ok (.dup2, 1) := by decide +kernel
theorem d_Mod_payOut_17 : decode b_Mod_payOut 17 = .ok (.iaload, 1) := by decide +kernel
theorem d_Mod_payOut_18 : decode b_Mod_payOut 18 = .ok (.iload_n 2, 1) := by decide +kernel
theorem d_Mod_payOut_19 : decode b_Mod_payOut 19 = .ok (.iadd, 1) := by decide +kernel
theorem d_Mod_payOut_20 : decode b_Mod_payOut 20 = .ok (.iastore, 1) := by decide +kernel
theorem d_Mod_payOut_21 : decode b_Mod_payOut 21 = .ok (.aload_n 0, 1) := by decide +kernel
theorem d_Mod_payOut_22 : decode b_Mod_payOut 22 = .ok (.getfield 7, 3) := by decide +kernel
theorem d_Mod_payOut_25 : decode b_Mod_payOut 25 = .ok (.iload_n 1, 1) := by decide +kernel
theorem d_Mod_payOut_26 : decode b_Mod_payOut 26 = .ok (.bipush 10, 2) := by decide +kernel
theorem d_Mod_payOut_28 : decode b_Mod_payOut 28 = .ok (.invokestatic 43, 3) := by decide +kernel
theorem d_Mod_payOut_31 : decode b_Mod_payOut 31 = .ok (.dup2, 1) := by decide +kernel
theorem d_Mod_payOut_32 : decode b_Mod_payOut 32 = .ok (.iaload, 1) := by decide +kernel
theorem d_Mod_payOut_33 : decode b_Mod_payOut 33 = .ok (.iload_n 2, 1) := by decide +kernel
theorem d_Mod_payOut_34 : decode b_Mod_payOut 34 = .ok (.iadd, 1) := by decide +kernel
theorem d_Mod_payOut_35 : decode b_Mod_payOut 35 = .ok (.iastore, 1) := by decide +kernel
theorem d_Mod_payOut_36 : decode b_Mod_payOut 36 = .ok (.return_, 1) := by decide +kernel
theorem d_Mod_noWithdraw_0 : decode b_Mod_noWithdraw 0 = .ok (.aload_n 0, 1) := by decide +kernel
theorem d_Mod_noWithdraw_1 : decode b_Mod_noWithdraw 1 = .ok (.iload_n 1, 1) := by decide +kernel
theorem d_Mod_noWithdraw_2 : decode b_Mod_noWithdraw 2 = .ok (.invokevirtual 46, 3) := by decide +kernel
theorem d_Mod_noWithdraw_5 : decode b_Mod_noWithdraw 5 = .ok (.ifCond .eq 14, 3) := by decide +kernel
theorem d_Mod_noWithdraw_8 : decode b_Mod_noWithdraw 8 = .ok (.iload_n 2, 1) := by decide +kernel
theorem d_Mod_noWithdraw_9 : decode b_Mod_noWithdraw 9 = .ok (.iconst 1, 1) := by decide +kernel
theorem d_Mod_noWithdraw_10 : decode b_Mod_noWithdraw 10 = .ok (.sipush 999, 3) := by decide +kernel
theorem d_Mod_noWithdraw_13 : decode b_Mod_noWithdraw 13 = .ok (.invokestatic 24, 3) := by decide +kernel
theorem d_Mod_noWithdraw_16 : decode b_Mod_noWithdraw 16 = .ok (.ifCond .ne 5, 3) := by decide +kernel
theorem d_Mod_noWithdraw_19 : decode b_Mod_noWithdraw 19 = .ok (.iconst (-1), 1) := by decide +kernel
theorem d_Mod_noWithdraw_20 : decode b_Mod_noWithdraw 20 = .ok (.ireturn, 1) := by decide +kernel
theorem d_Mod_noWithdraw_21 : decode b_Mod_noWithdraw 21 = .ok (.aload_n 0, 1) := by decide +kernel
theorem d_Mod_noWithdraw_22 : decode b_Mod_noWithdraw 22 = .ok (.invokevirtual 39, 3) := by decide +kernel
theorem d_Mod_noWithdraw_25 : decode b_Mod_noWithdraw 25 = .ok (.ifCond .ne 25, 3) := by decide +kernel
theorem d_Mod_noWithdraw_28 : decode b_Mod_noWithdraw 28 = .ok (.aload_n 0, 1) := by decide +kernel
theorem d_Mod_noWithdraw_29 : decode b_Mod_noWithdraw 29 = .ok (.iload_n 1, 1) := by decide +kernel
theorem d_Mod_noWithdraw_30 : decode b_Mod_noWithdraw 30 = .ok (.invokevirtual 50, 3) := by decide +kernel
theorem d_Mod_noWithdraw_33 : decode b_Mod_noWithdraw 33 = .ok (.ifCond .eq 17, 3) := by decide +kernel
theorem d_Mod_noWithdraw_36 : decode b_Mod_noWithdraw 36 = .ok (.aload_n 0, 1) := by decide +kernel
theorem d_Mod_noWithdraw_37 : decode b_Mod_noWithdraw 37 = .ok (.getfield 7, 3) := by decide +kernel
theorem d_Mod_noWithdraw_40 : decode b_Mod_noWithdraw 40 = .ok (.iload_n 1, 1) := by decide +kernel
theorem d_Mod_noWithdraw_41 : decode b_Mod_noWithdraw 41 = .ok (.iconst 0, 1) := by decide +kernel
theorem d_Mod_noWithdraw_42 : decode b_Mod_noWithdraw 42 = .ok (.invokestatic 43, 3) := by decide +kernel
theorem d_Mod_noWithdraw_45 : decode b_Mod_noWithdraw 45 = .ok (.iaload, 1) := by decide +kernel
theorem d_Mod_noWithdraw_46 : decode b_Mod_noWithdraw 46 = .ok (.iload_n 2, 1) := by decide +kernel
theorem d_Mod_noWithdraw_47 : decode b_Mod_noWithdraw 47 = .ok (.if_icmp .ge 8, 3) := by decide +kernel
theorem d_Mod_noWithdraw_50 : decode b_Mod_noWithdraw 50 = .ok (.bipush (-2), 2) := by decide +kernel
theorem d_Mod_noWithdraw_52 : decode b_Mod_noWithdraw 52 = .ok (.goto 4, 3) := by decide +kernel
theorem d_Mod_noWithdraw_55 : decode b_Mod_noWithdraw 55 = .ok (.iconst 0, 1) := by decide +kernel
theorem d_Mod_noWithdraw_56 : decode b_Mod_noWithdraw 56 = .ok (.ireturn, 1) := by decide +kernel
theorem d_Mod_doWithdraw_0 : decode b_Mod_doWithdraw 0 = .ok (.bipush 10, 2) := by decide +kernel
theorem d_Mod_doWithdraw_2 : decode b_Mod_doWithdraw 2 = .ok (.iload_n 2, 1) := by decide +kernel
theorem d_Mod_doWithdraw_3 : decode b_Mod_doWithdraw 3 = .ok (.imul, 1) := by decide +kernel
theorem d_Mod_doWithdraw_4 : decode b_Mod_doWithdraw 4 = .ok (.istore_n 3, 1) := by decide +kernel
theorem d_Mod_doWithdraw_5 : decode b_Mod_doWithdraw 5 = .ok (.iload_n 2, 1) := by decide +kernel
theorem d_Mod_doWithdraw_6 : decode b_Mod_doWithdraw 6 = .ok (.iconst 5, 1) := by decide +kernel
theorem d_Mod_doWithdraw_7 : decode b_Mod_doWithdraw 7 = .ok (.iadd, 1) := by decide +kernel
theorem d_Mod_doWithdraw_8 : decode b_Mod_doWithdraw 8 = .ok (.iload_n 3, 1) := by decide +kernel
theorem d_Mod_doWithdraw_9 : decode b_Mod_doWithdraw 9 = .ok (.if_icmp .ge 9, 3) := by decide +kernel
theorem d_Mod_doWithdraw_12 : decode b_Mod_doWithdraw 12 = .ok (.iload_n 2, 1) := by decide +kernel
theorem d_Mod_doWithdraw_13 : decode b_Mod_doWithdraw 13 = .ok (.iconst 5, 1) := by decide +kernel
theorem d_Mod_doWithdraw_14 : decode b_Mod_doWithdraw 14 = .ok (.iadd, 1) := by decide +kernel
theorem d_Mod_doWithdraw_15 : decode b_Mod_doWithdraw 15 = .ok (.goto 4, 3) := by decide +kernel
theorem d_Mod_doWithdraw_18 : decode b_Mod_doWithdraw 18 = .ok (.iload_n 3, 1) := by decide +kernel
theorem d_Mod_doWithdraw_19 : decode b_Mod_doWithdraw 19 = .ok (.istore 4, 2) := by decide +kernel
theorem d_Mod_doWithdraw_21 : decode b_Mod_doWithdraw 21 = .ok (.aload_n 0, 1) := by decide +kernel
theorem d_Mod_doWithdraw_22 : decode b_Mod_doWithdraw 22 = .ok (.getfield 7, 3) := by decide +kernel
theorem d_Mod_doWithdraw_25 : decode b_Mod_doWithdraw 25 = .ok (.iload_n 1, 1) := by decide +kernel
theorem d_Mod_doWithdraw_26 : decode b_Mod_doWithdraw 26 = .ok (.iconst 0, 1) := by decide +kernel
theorem d_Mod_doWithdraw_27 : decode b_Mod_doWithdraw 27 = .ok (.invokestatic 43, 3) := by decide +kernel
theorem d_Mod_doWithdraw_30 : decode b_Mod_doWithdraw 30 = .ok (.dup2, 1) := by decide +kernel
theorem d_Mod_doWithdraw_31 : decode b_Mod_doWithdraw 31 = .ok (.iaload, 1) := by decide +kernel
theorem d_Mod_doWithdraw_32 : decode b_Mod_doWithdraw 32 = .ok (.iload_n 2, 1) := by decide +kernel
theorem d_Mod_doWithdraw_33 : decode b_Mod_doWithdraw 33 = .ok (.isub, 1) := by decide +kernel
theorem d_Mod_doWithdraw_34 : decode b_Mod_doWithdraw 34 = .ok (.iastore, 1) := by decide +kernel
theorem d_Mod_doWithdraw_35 : decode b_Mod_doWithdraw 35 = .ok (.aload_n 0, 1) := by decide +kernel
theorem d_Mod_doWithdraw_36 : decode b_Mod_doWithdraw 36 = .ok (.getfield 7, 3) := by decide +kernel
theorem d_Mod_doWithdraw_39 : decode b_Mod_doWithdraw 39 = .ok (.iload_n 1, 1) := by decide +kernel
theorem d_Mod_doWithdraw_40 : decode b_Mod_doWithdraw 40 = .ok (.iconst 5, 1) := by decide +kernel
theorem d_Mod_doWithdraw_41 : decode b_Mod_doWithdraw 41 = .ok (.invokestatic 43, 3) := by decide +kernel
theorem d_Mod_doWithdraw_44 : decode b_Mod_doWithdraw 44 = .ok (.iconst 1, 1) := by decide +kernel
theorem d_Mod_doWithdraw_45 : decode b_Mod_doWithdraw 45 = .ok (.iastore, 1) := by decide +kernel
theorem d_Mod_doWithdraw_46 : decode b_Mod_doWithdraw 46 = .ok (.aload_n 0, 1) := by decide +kernel
theorem d_Mod_doWithdraw_47 : decode b_Mod_doWithdraw 47 = .ok (.getfield 7, 3) := by decide +kernel
theorem d_Mod_doWithdraw_50 : decode b_Mod_doWithdraw 50 = .ok (.iconst 4, 1) := by decide +kernel
theorem d_Mod_doWithdraw_51 : decode b_Mod_doWithdraw 51 = .ok (.dup2, 1) := by decide +kernel
theorem d_Mod_doWithdraw_52 : decode b_Mod_doWithdraw 52 = .ok (.iaload, 1) := by decide +kernel
theorem d_Mod_doWithdraw_53 : decode b_Mod_doWithdraw 53 = .ok (.iload 4, 2) := by decide +kernel
theorem d_Mod_doWithdraw_55 : decode b_Mod_doWithdraw 55 = .ok (.iadd, 1) := by decide +kernel
theorem d_Mod_doWithdraw_56 : decode b_Mod_doWithdraw 56 = .ok (.iastore, 1) := by decide +kernel
theorem d_Mod_doWithdraw_57 : decode b_Mod_doWithdraw 57 = .ok (.aload_n 0, 1) := by decide +kernel
theorem d_Mod_doWithdraw_58 : decode b_Mod_doWithdraw 58 = .ok (.iload_n 1, 1) := by decide +kernel
theorem d_Mod_doWithdraw_59 : decode b_Mod_doWithdraw 59 = .ok (.iload_n 3, 1) := by decide +kernel
theorem d_Mod_doWithdraw_60 : decode b_Mod_doWithdraw 60 = .ok (.iload 4, 2) := by decide +kernel
theorem d_Mod_doWithdraw_62 : decode b_Mod_doWithdraw 62 = .ok (.isub, 1) := by decide +kernel
theorem d_Mod_doWithdraw_63 : decode b_Mod_doWithdraw 63 = .ok (.invokevirtual 63, 3) := by decide +kernel
theorem d_Mod_doWithdraw_66 : decode b_Mod_doWithdraw 66 = .ok (.iload_n 3, 1) := by decide +kernel
theorem d_Mod_doWithdraw_67 : decode b_Mod_doWithdraw 67 = .ok (.iload 4, 2) := by decide +kernel
theorem d_Mod_doWithdraw_69 : decode b_Mod_doWithdraw 69 = .ok (.isub, 1) := by decide +kernel
theorem d_Mod_doWithdraw_70 : decode b_Mod_doWithdraw 70 = .ok (.ireturn, 1) := by decide +kernel
theorem d_Mod_withdraw_0 : decode b_Mod_withdraw 0 = .ok (.aload_n 0, 1) := by decide +kernel
theorem d_Mod_withdraw_1 : decode b_Mod_withdraw 1 = .ok (.iload_n 1, 1) := by decide +kernel
theorem d_Mod_withdraw_2 : decode b_Mod_withdraw 2 = .ok (.iload_n 2, 1) := by decide +kernel
theorem d_Mod_withdraw_3 : decode b_Mod_withdraw 3 = .ok (.invokevirtual 67, 3) := by decide +kernel
theorem d_Mod_withdraw_6 : decode b_Mod_withdraw 6 = .ok (.istore_n 3, 1) := by decide +kernel
theorem d_Mod_withdraw_7 : decode b_Mod_withdraw 7 = .ok (.iload_n 3, 1) := by decide +kernel
theorem d_Mod_withdraw_8 : decode b_Mod_withdraw 8 = .ok (.ifCond .eq 5, 3) := by decide +kernel
theorem d_Mod_withdraw_11 : decode b_Mod_withdraw 11 = .ok (.iload_n 3, 1) := by decide +kernel
theorem d_Mod_withdraw_12 : decode b_Mod_withdraw 12 = .ok (.ireturn, 1) := by decide +kernel
theorem d_Mod_withdraw_13 : decode b_Mod_withdraw 13 = .ok (.aload_n 0, 1) := by decide +kernel
theorem d_Mod_withdraw_14 : decode b_Mod_withdraw 14 = .ok (.invokevirtual 36, 3) := by decide +kernel
theorem d_Mod_withdraw_17 : decode b_Mod_withdraw 17 = .ok (.aload_n 0, 1) := by decide +kernel
theorem d_Mod_withdraw_18 : decode b_Mod_withdraw 18 = .ok (.iload_n 1, 1) := by decide +kernel
theorem d_Mod_withdraw_19 : decode b_Mod_withdraw 19 = .ok (.iload_n 2, 1) := by decide +kernel
theorem d_Mod_withdraw_20 : decode b_Mod_withdraw 20 = .ok (.invokevirtual 70, 3) := by decide +kernel
theorem d_Mod_withdraw_23 : decode b_Mod_withdraw 23 = .ok (.ireturn, 1) := by decide +kernel
theorem d_Mod_noMislay_0 : decode b_Mod_noMislay 0 = .ok (.aload_n 0, 1) := by decide +kernel
theorem d_Mod_noMislay_1 : decode b_Mod_noMislay 1 = .ok (.iload_n 1, 1) := by decide +kernel
theorem d_Mod_noMislay_2 : decode b_Mod_noMislay 2 = .ok (.invokevirtual 46, 3) := by decide +kernel
theorem d_Mod_noMislay_5 : decode b_Mod_noMislay 5 = .ok (.ifCond .ne 7, 3) := by decide +kernel
theorem d_Mod_noMislay_8 : decode b_Mod_noMislay 8 = .ok (.iconst (-1), 1) := by decide +kernel
theorem d_Mod_noMislay_9 : decode b_Mod_noMislay 9 = .ok (.goto 24, 3) := by decide +kernel
theorem d_Mod_noMislay_12 : decode b_Mod_noMislay 12 = .ok (.aload_n 0, 1) := by decide +kernel
theorem d_Mod_noMislay_13 : decode b_Mod_noMislay 13 = .ok (.invokevirtual 39, 3) := by decide +kernel
theorem d_Mod_noMislay_16 : decode b_Mod_noMislay 16 = .ok (.ifCond .ne 11, 3) := by decide +kernel
theorem d_Mod_noMislay_19 : decode b_Mod_noMislay 19 = .ok (.aload_n 0, 1) := by decide +kernel
theorem d_Mod_noMislay_20 : decode b_Mod_noMislay 20 = .ok (.iload_n 1, 1) := by decide +kernel
theorem d_Mod_noMislay_21 : decode b_Mod_noMislay 21 = .ok (.invokevirtual 50, 3) := by decide +kernel
theorem d_Mod_noMislay_24 : decode b_Mod_noMislay 24 = .ok (.ifCond .ne 8, 3) := by decide +kernel
theorem d_Mod_noMislay_27 : decode b_Mod_noMislay 27 = .ok (.bipush (-2), 2) := by decide +kernel
theorem d_Mod_noMislay_29 : decode b_Mod_noMislay 29 = .ok (.goto 4, 3) := by decide +kernel
theorem d_Mod_noMislay_32 : decode b_Mod_noMislay 32 = .ok (.iconst 0, 1) := by decide +kernel
theorem d_Mod_noMislay_33 : decode b_Mod_noMislay 33 = .ok (.ireturn, 1) := by decide +kernel
theorem d_Mod_doMislay_0 : decode b_Mod_doMislay 0 = .ok (.aload_n 0, 1) := by decide +kernel
theorem d_Mod_doMislay_1 : decode b_Mod_doMislay 1 = .ok (.getfield 7, 3) := by decide +kernel
theorem d_Mod_doMislay_4 : decode b_Mod_doMislay 4 = .ok (.iload_n 1, 1) := by decide +kernel
theorem d_Mod_doMislay_5 : decode b_Mod_doMislay 5 = .ok (.iconst 1, 1) := by decide +kernel
theorem d_Mod_doMislay_6 : decode b_Mod_doMislay 6 = .ok (.invokestatic 43, 3) := by decide +kernel
theorem d_Mod_doMislay_9 : decode b_Mod_doMislay 9 = .ok (.iconst 1, 1) := by decide +kernel
theorem d_Mod_doMislay_10 : decode b_Mod_doMislay 10 = .ok (.iastore, 1) := by decide +kernel
theorem d_Mod_doMislay_11 : decode b_Mod_doMislay 11 = .ok (.aload_n 0, 1) := by decide +kernel
theorem d_Mod_doMislay_12 : decode b_Mod_doMislay 12 = .ok (.getfield 7, 3) := by decide +kernel
theorem d_Mod_doMislay_15 : decode b_Mod_doMislay 15 = .ok (.iload_n 1, 1) := by decide +kernel
theorem d_Mod_doMislay_16 : decode b_Mod_doMislay 16 = .ok (.iconst 2, 1) := by decide +kernel
theorem d_Mod_doMislay_17 : decode b_Mod_doMislay 17 = .ok (.invokestatic 43, 3) := by decide +kernel
theorem d_Mod_doMislay_20 : decode b_Mod_doMislay 20 = .ok (.aload_n 0, 1) := by decide +kernel
theorem d_Mod_doMislay_21 : decode b_Mod_doMislay 21 = .ok (.getfield 7, 3) := by decide +kernel
theorem d_Mod_doMislay_24 : decode b_Mod_doMislay 24 = .ok (.iconst 0, 1) := by decide +kernel
theorem d_Mod_doMislay_25 : decode b_Mod_doMislay 25 = .ok (.iaload, 1) := by decide +kernel
theorem d_Mod_doMislay_26 : decode b_Mod_doMislay 26 = .ok (.iastore, 1) := by decide +kernel
theorem d_Mod_doMislay_27 : decode b_Mod_doMislay 27 = .ok (.aload_n 0, 1) := by decide +kernel
theorem d_Mod_doMislay_28 : decode b_Mod_doMislay 28 = .ok (.getfield 7, 3) := by decide +kernel
theorem d_Mod_doMislay_31 : decode b_Mod_doMislay 31 = .ok (.iconst 0, 1) := by decide +kernel
theorem d_Mod_doMislay_32 : decode b_Mod_doMislay 32 = .ok (.iaload, 1) := by decide +kernel
theorem d_Mod_doMislay_33 : decode b_Mod_doMislay 33 = .ok (.iconst 3, 1) := by decide +kernel
theorem d_Mod_doMislay_34 : decode b_Mod_doMislay 34 = .ok (.iadd, 1) := by decide +kernel
theorem d_Mod_doMislay_35 : decode b_Mod_doMislay 35 = .ok (.ireturn, 1) := by decide +kernel
theorem d_Mod_mislay_0 : decode b_Mod_mislay 0 = .ok (.aload_n 0, 1) := by decide +kernel
theorem d_Mod_mislay_1 : decode b_Mod_mislay 1 = .ok (.iload_n 1, 1) := by decide +kernel
theorem d_Mod_mislay_2 : decode b_Mod_mislay 2 = .ok (.invokevirtual 73, 3) := by decide +kernel
theorem d_Mod_mislay_5 : decode b_Mod_mislay 5 = .ok (.istore_n 2, 1) := by decide +kernel
theorem d_Mod_mislay_6 : decode b_Mod_mislay 6 = .ok (.iload_n 2, 1) := by decide +kernel
theorem d_Mod_mislay_7 : decode b_Mod_mislay 7 = .ok (.ifCond .eq 5, 3) := by decide +kernel
theorem d_Mod_mislay_10 : decode b_Mod_mislay 10 = .ok (.iload_n 2, 1) := by decide +kernel
theorem d_Mod_mislay_11 : decode b_Mod_mislay 11 = .ok (.ireturn, 1) := by decide +kernel
theorem d_Mod_mislay_12 : decode b_Mod_mislay 12 = .ok (.aload_n 0, 1) := by decide +kernel
theorem d_Mod_mislay_13 : decode b_Mod_mislay 13 = .ok (.invokevirtual 36, 3) := by decide +kernel
theorem d_Mod_mislay_16 : decode b_Mod_mislay 16 = .ok (.aload_n 0, 1) := by decide +kernel
theorem d_Mod_mislay_17 : decode b_Mod_mislay 17 = .ok (.iload_n 1, 1) := by decide +kernel
theorem d_Mod_mislay_18 : decode b_Mod_mislay 18 = .ok (.invokevirtual 77, 3) := by decide +kernel
theorem d_Mod_mislay_21 : decode b_Mod_mislay 21 = .ok (.ireturn, 1) := by decide +kernel
theorem d_Mod_noFind_0 : decode b_Mod_noFind 0 = .ok (.aload_n 0, 1) := by decide +kernel
theorem d_Mod_noFind_1 : decode b_Mod_noFind 1 = .ok (.iload_n 1, 1) := by decide +kernel
theorem d_Mod_noFind_2 : decode b_Mod_noFind 2 = .ok (.invokevirtual 46, 3) := by decide +kernel
theorem d_Mod_noFind_5 : decode b_Mod_noFind 5 = .ok (.ifCond .ne 7, 3) := by decide +kernel
theorem d_Mod_noFind_8 : decode b_Mod_noFind 8 = .ok (.iconst (-1), 1) := by decide +kernel
theorem d_Mod_noFind_9 : decode b_Mod_noFind 9 = .ok (.goto 30, 3) := by decide +kernel
theorem d_Mod_noFind_12 : decode b_Mod_noFind 12 = .ok (.aload_n 0, 1) := by decide +kernel
theorem d_Mod_noFind_13 : decode b_Mod_noFind 13 = .ok (.invokevirtual 39, 3) := by decide +kernel
theorem d_Mod_noFind_16 : decode b_Mod_noFind 16 = .ok (.ifCond .ne 17, 3) := by decide +kernel
theorem d_Mod_noFind_19 : decode b_Mod_noFind 19 = .ok (.aload_n 0, 1) := by decide +kernel
theorem d_Mod_noFind_20 : decode b_Mod_noFind 20 = .ok (.getfield 7, 3) := by decide +kernel
theorem d_Mod_noFind_23 : decode b_Mod_noFind 23 = .ok (.iload_n 1, 1) := by decide +kernel
theorem d_Mod_noFind_24 : decode b_Mod_noFind 24 = .ok (.iconst 1, 1) := by decide +kernel
theorem d_Mod_noFind_25 : decode b_Mod_noFind 25 = .ok (.invokestatic 43, 3) := by decide +kernel
theorem d_Mod_noFind_28 : decode b_Mod_noFind 28 = .ok (.iaload, 1) := by decide +kernel
theorem d_Mod_noFind_29 : decode b_Mod_noFind 29 = .ok (.iconst 1, 1) := by decide +kernel
theorem d_Mod_noFind_30 : decode b_Mod_noFind 30 = .ok (.if_icmp .eq 8, 3) := by decide +kernel
theorem d_Mod_noFind_33 : decode b_Mod_noFind 33 = .ok (.bipush (-2), 2) := by decide +kernel
theorem d_Mod_noFind_35 : decode b_Mod_noFind 35 = .ok (.goto 4, 3) := by decide +kernel
theorem d_Mod_noFind_38 : decode b_Mod_noFind 38 = .ok (.iconst 0, 1) := by decide +kernel
theorem d_Mod_noFind_39 : decode b_Mod_noFind 39 = .ok (.ireturn, 1) := by decide +kernel
theorem d_Mod_doFind_0 : decode b_Mod_doFind 0 = .ok (.aload_n 0, 1) := by decide +kernel
theorem d_Mod_doFind_1 : decode b_Mod_doFind 1 = .ok (.getfield 7, 3) := by decide +kernel
theorem d_Mod_doFind_4 : decode b_Mod_doFind 4 = .ok (.iload_n 1, 1) := by decide +kernel
theorem d_Mod_doFind_5 : decode b_Mod_doFind 5 = .ok (.iconst 1, 1) := by decide +kernel
theorem d_Mod_doFind_6 : decode b_Mod_doFind 6 = .ok (.invokestatic 43, 3) := by decide +kernel
theorem d_Mod_doFind_9 : decode b_Mod_doFind 9 = .ok (.iconst 0, 1) := by decide +kernel
theorem d_Mod_doFind_10 : decode b_Mod_doFind 10 = .ok (.iastore, 1) := by decide +kernel
theorem d_Mod_doFind_11 : decode b_Mod_doFind 11 = .ok (.aload_n 0, 1) := by decide +kernel
theorem d_Mod_doFind_12 : decode b_Mod_doFind 12 = .ok (.getfield 7, 3) := by decide +kernel
theorem d_Mod_doFind_15 : decode b_Mod_doFind 15 = .ok (.iconst 0, 1) := by decide +kernel
theorem d_Mod_doFind_16 : decode b_Mod_doFind 16 = .ok (.iaload, 1) := by decide +kernel
theorem d_Mod_doFind_17 : decode b_Mod_doFind 17 = .ok (.aload_n 0, 1) := by decide +kernel
theorem d_Mod_doFind_18 : decode b_Mod_doFind 18 = .ok (.getfield 7, 3) := by decide +kernel
theorem d_Mod_doFind_21 : decode b_Mod_doFind 21 = .ok (.iload_n 1, 1) := by decide +kernel
theorem d_Mod_doFind_22 : decode b_Mod_doFind 22 = .ok (.iconst 2, 1) := by decide +kernel
theorem d_Mod_doFind_23 : decode b_Mod_doFind 23 = .ok (.invokestatic 43, 3) := by decide +kernel
theorem d_Mod_doFind_26 : decode b_Mod_doFind 26 = .ok (.iaload, 1) := by decide +kernel
theorem d_Mod_doFind_27 : decode b_Mod_doFind 27 = .ok (.isub, 1) := by decide +kernel
theorem d_Mod_doFind_28 : decode b_Mod_doFind 28 = .ok (.ireturn, 1) := by decide +kernel
theorem d_Mod_find_0 : decode b_Mod_find 0 = .ok (.aload_n 0, 1) := by decide +kernel
theorem d_Mod_find_1 : decode b_Mod_find 1 = .ok (.iload_n 1, 1) := by decide +kernel
theorem d_Mod_find_2 : decode b_Mod_find 2 = .ok (.invokevirtual 80, 3) := by decide +kernel
theorem d_Mod_find_5 : decode b_Mod_find 5 = .ok (.istore_n 2, 1) := by decide +kernel
theorem d_Mod_find_6 : decode b_Mod_find 6 = .ok (.iload_n 2, 1) := by decide +kernel
theorem d_Mod_find_7 : decode b_Mod_find 7 = .ok (.ifCond .eq 5, 3) := by decide +kernel
theorem d_Mod_find_10 : decode b_Mod_find 10 = .ok (.iload_n 2, 1) := by decide +kernel
theorem d_Mod_find_11 : decode b_Mod_find 11 = .ok (.ireturn, 1) := by decide +kernel
theorem d_Mod_find_12 : decode b_Mod_find 12 = .ok (.aload_n 0, 1) := by decide +kernel
theorem d_Mod_find_13 : decode b_Mod_find 13 = .ok (.invokevirtual 36, 3) := by decide +kernel
theorem d_Mod_find_16 : decode b_Mod_find 16 = .ok (.aload_n 0, 1) := by decide +kernel
theorem d_Mod_find_17 : decode b_Mod_find 17 = .ok (.iload_n 1, 1) := by decide +kernel
theorem d_Mod_find_18 : decode b_Mod_find 18 = .ok (.invokevirtual 83, 3) := by decide +kernel
theorem d_Mod_find_21 : decode b_Mod_find 21 = .ok (.ireturn, 1) := by decide +kernel
theorem d_Mod_setHamper_0 : decode b_Mod_setHamper 0 = .ok (.iload_n 1, 1) := by decide +kernel
theorem d_Mod_setHamper_1 : decode b_Mod_setHamper 1 = .ok (.invokestatic 86, 3) := by decide +kernel
theorem d_Mod_setHamper_4 : decode b_Mod_setHamper 4 = .ok (.ifCond .eq 24, 3) := by decide +kernel
theorem d_Mod_setHamper_7 : decode b_Mod_setHamper 7 = .ok (.iload_n 2, 1) := by decide +kernel
theorem d_Mod_setHamper_8 : decode b_Mod_setHamper 8 = .ok (.iconst 1, 1) := by decide +kernel
theorem d_Mod_setHamper_9 : decode b_Mod_setHamper 9 = .ok (.sipush 200, 3) := by decide +kernel
theorem d_Mod_setHamper_12 : decode b_Mod_setHamper 12 = .ok (.invokestatic 24, 3) := by decide +kernel
theorem d_Mod_setHamper_15 : decode b_Mod_setHamper 15 = .ok (.ifCond .eq 13, 3) := by decide +kernel
theorem d_Mod_setHamper_18 : decode b_Mod_setHamper 18 = .ok (.iload_n 3, 1) := by decide +kernel
theorem d_Mod_setHamper_19 : decode b_Mod_setHamper 19 = .ok (.iconst 0, 1) := by decide +kernel
theorem d_Mod_setHamper_20 : decode b_Mod_setHamper 20 = .ok (.bipush 9, 2) := by decide +kernel
theorem d_Mod_setHamper_22 : decode b_Mod_setHamper 22 = .ok (.invokestatic 24, 3) := by decide +kernel
theorem d_Mod_setHamper_25 : decode b_Mod_setHamper 25 = .ok (.ifCond .ne 5, 3) := by decide +kernel
theorem d_Mod_setHamper_28 : decode b_Mod_setHamper 28 = .ok (.iconst (-1), 1) := by decide +kernel
theorem d_Mod_setHamper_29 : decode b_Mod_setHamper 29 = .ok (.ireturn, 1) := by decide +kernel
theorem d_Mod_setHamper_30 : decode b_Mod_setHamper 30 = .ok (.aload_n 0, 1) := by decide +kernel
theorem d_Mod_setHamper_31 : decode b_Mod_setHamper 31 = .ok (.invokevirtual 39, 3) := by decide +kernel
theorem d_Mod_setHamper_34 : decode b_Mod_setHamper 34 = .ok (.ifCond .eq 6, 3) := by decide +kernel
theorem d_Mod_setHamper_37 : decode b_Mod_setHamper 37 = .ok (.bipush (-2), 2) := by decide +kernel
theorem d_Mod_setHamper_39 : decode b_Mod_setHamper 39 = .ok (.ireturn, 1) := by decide +kernel
theorem d_Mod_setHamper_40 : decode b_Mod_setHamper 40 = .ok (.aload_n 0, 1) := by decide +kernel
theorem d_Mod_setHamper_41 : decode b_Mod_setHamper 41 = .ok (.invokevirtual 36, 3) := by decide +kernel
theorem d_Mod_setHamper_44 : decode b_Mod_setHamper 44 = .ok (.aload_n 0, 1) := by decide +kernel
theorem d_Mod_setHamper_45 : decode b_Mod_setHamper 45 = .ok (.getfield 7, 3) := by decide +kernel
theorem d_Mod_setHamper_48 : decode b_Mod_setHamper 48 = .ok (.iload_n 1, 1) := by decide +kernel
theorem d_Mod_setHamper_49 : decode b_Mod_setHamper 49 = .ok (.iconst 0, 1) := by decide +kernel
theorem d_Mod_setHamper_50 : decode b_Mod_setHamper 50 = .ok (.invokestatic 20, 3) := by decide +kernel
theorem d_Mod_setHamper_53 : decode b_Mod_setHamper 53 = .ok (.iaload, 1) := by decide +kernel
theorem d_Mod_setHamper_54 : decode b_Mod_setHamper 54 = .ok (.istore 4, 2) := by decide +kernel
theorem d_Mod_setHamper_56 : decode b_Mod_setHamper 56 = .ok (.aload_n 0, 1) := by decide +kernel
theorem d_Mod_setHamper_57 : decode b_Mod_setHamper 57 = .ok (.getfield 7, 3) := by decide +kernel
theorem d_Mod_setHamper_60 : decode b_Mod_setHamper 60 = .ok (.iload_n 1, 1) := by decide +kernel
theorem d_Mod_setHamper_61 : decode b_Mod_setHamper 61 = .ok (.iconst 0, 1) := by decide +kernel
theorem d_Mod_setHamper_62 : decode b_Mod_setHamper 62 = .ok (.invokestatic 20, 3) := by decide +kernel
theorem d_Mod_setHamper_65 : decode b_Mod_setHamper 65 = .ok (.iload_n 2, 1) := by decide +kernel
theorem d_Mod_setHamper_66 : decode b_Mod_setHamper 66 = .ok (.iastore, 1) := by decide +kernel
theorem d_Mod_setHamper_67 : decode b_Mod_setHamper 67 = .ok (.aload_n 0, 1) := by decide +kernel
theorem d_Mod_setHamper_68 : decode b_Mod_setHamper 68 = .ok (.getfield 7, 3) := by decide +kernel
theorem d_Mod_setHamper_71 : decode b_Mod_setHamper 71 = .ok (.iload_n 1, 1) := by decide +kernel
theorem d_Mod_setHamper_72 : decode b_Mod_setHamper 72 = .ok (.iconst 1, 1) := by decide +kernel
theorem d_Mod_setHamper_73 : decode b_Mod_setHamper 73 = .ok (.invokestatic 20, 3) := by decide +kernel
theorem d_Mod_setHamper_76 : decode b_Mod_setHamper 76 = .ok (.iload_n 3, 1) := by decide +kernel
theorem d_Mod_setHamper_77 : decode b_Mod_setHamper 77 = .ok (.iastore, 1) := by decide +kernel
theorem d_Mod_setHamper_78 : decode b_Mod_setHamper 78 = .ok (.iload 4, 2) := by decide +kernel
theorem d_Mod_setHamper_80 : decode b_Mod_setHamper 80 = .ok (.ireturn, 1) := by decide +kernel
theorem d_Mod_placeOf_0 : decode b_Mod_placeOf 0 = .ok (.iconst 0, 1) := by decide +kernel
theorem d_Mod_placeOf_1 : decode b_Mod_placeOf 1 = .ok (.istore_n 3, 1) := by decide +kernel
theorem d_Mod_placeOf_2 : decode b_Mod_placeOf 2 = .ok (.iload_n 3, 1) := by decide +kernel
theorem d_Mod_placeOf_3 : decode b_Mod_placeOf 3 = .ok (.aload_n 0, 1) := by decide +kernel
theorem d_Mod_placeOf_4 : decode b_Mod_placeOf 4 = .ok (.getfield 7, 3) := by decide +kernel
theorem d_Mod_placeOf_7 : decode b_Mod_placeOf 7 = .ok (.iload_n 2, 1) := by decide +kernel
theorem d_Mod_placeOf_8 : decode b_Mod_placeOf 8 = .ok (.iconst 2, 1) := by decide +kernel
theorem d_Mod_placeOf_9 : decode b_Mod_placeOf 9 = .ok (.invokestatic 20, 3) := by decide +kernel
theorem d_Mod_placeOf_12 : decode b_Mod_placeOf 12 = .ok (.iaload, 1) := by decide +kernel
theorem d_Mod_placeOf_13 : decode b_Mod_placeOf 13 = .ok (.if_icmp .ge 27, 3) := by decide +kernel
theorem d_Mod_placeOf_16 : decode b_Mod_placeOf 16 = .ok (.aload_n 0, 1) := by decide +kernel
theorem d_Mod_placeOf_17 : decode b_Mod_placeOf 17 = .ok (.getfield 7, 3) := by decide +kernel
theorem d_Mod_placeOf_20 : decode b_Mod_placeOf 20 = .ok (.iload_n 2, 1) := by decide +kernel
theorem d_Mod_placeOf_21 : decode b_Mod_placeOf 21 = .ok (.iconst 3, 1) := by decide +kernel
theorem d_Mod_placeOf_22 : decode b_Mod_placeOf 22 = .ok (.iload_n 3, 1) := by decide +kernel
theorem d_Mod_placeOf_23 : decode b_Mod_placeOf 23 = .ok (.iadd, 1) := by decide +kernel
theorem d_Mod_placeOf_24 : decode b_Mod_placeOf 24 = .ok (.invokestatic 20, 3) := by decide +kernel
theorem d_Mod_placeOf_27 : decode b_Mod_placeOf 27 = .ok (.iaload, 1) := by decide +kernel
theorem d_Mod_placeOf_28 : decode b_Mod_placeOf 28 = .ok (.iload_n 1, 1) := by decide +kernel
theorem d_Mod_placeOf_29 : decode b_Mod_placeOf 29 = .ok (.if_icmp .ne 5, 3) := by decide +kernel
theorem d_Mod_placeOf_32 : decode b_Mod_placeOf 32 = .ok (.iload_n 3, 1) := by decide +kernel
theorem d_Mod_placeOf_33 : decode b_Mod_placeOf 33 = .ok (.ireturn, 1) := by decide +kernel
theorem d_Mod_placeOf_34 : decode b_Mod_placeOf 34 = .ok (.iinc 3 1, 3) := by decide +kernel
theorem d_Mod_placeOf_37 : decode b_Mod_placeOf 37 = .ok (.goto (-35), 3) := by decide +kernel
theorem d_Mod_placeOf_40 : decode b_Mod_placeOf 40 = .ok (.bipush (-9), 2) := by decide +kernel
theorem d_Mod_placeOf_42 : decode b_Mod_placeOf 42 = .ok (.ireturn, 1) := by decide +kernel
theorem d_Mod_leaveRow_0 : decode b_Mod_leaveRow 0 = .ok (.aload_n 0, 1) := by decide +kernel
theorem d_Mod_leaveRow_1 : decode b_Mod_leaveRow 1 = .ok (.getfield 7, 3) := by decide +kernel
theorem d_Mod_leaveRow_4 : decode b_Mod_leaveRow 4 = .ok (.iload_n 1, 1) := by decide +kernel
theorem d_Mod_leaveRow_5 : decode b_Mod_leaveRow 5 = .ok (.iconst 2, 1) := by decide +kernel
theorem d_Mod_leaveRow_6 : decode b_Mod_leaveRow 6 = .ok (.invokestatic 20, 3) := by decide +kernel
theorem d_Mod_leaveRow_9 : decode b_Mod_leaveRow 9 = .ok (.dup2, 1) := by decide +kernel
theorem d_Mod_leaveRow_10 : decode b_Mod_leaveRow 10 = .ok (.iaload, 1) := by decide +kernel
theorem d_Mod_leaveRow_11 : decode b_Mod_leaveRow 11 = .ok (.iconst 1, 1) := by decide +kernel
theorem d_Mod_leaveRow_12 : decode b_Mod_leaveRow 12 = .ok (.isub, 1) := by decide +kernel
theorem d_Mod_leaveRow_13 : decode b_Mod_leaveRow 13 = .ok (.iastore, 1) := by decide +kernel
theorem d_Mod_leaveRow_14 : decode b_Mod_leaveRow 14 = .ok (.iload_n 2, 1) := by decide +kernel
theorem d_Mod_leaveRow_15 : decode b_Mod_leaveRow 15 = .ok (.istore_n 3, 1) := by decide +kernel
theorem d_Mod_leaveRow_16 : decode b_Mod_leaveRow 16 = .ok (.iload_n 3, 1) := by decide +kernel
theorem d_Mod_leaveRow_17 : decode b_Mod_leaveRow 17 = .ok (.aload_n 0, 1) := by decide +kernel
theorem d_Mod_leaveRow_18 : decode b_Mod_leaveRow 18 = .ok (.getfield 7, 3) := by decide +kernel
theorem d_Mod_leaveRow_21 : decode b_Mod_leaveRow 21 = .ok (.iload_n 1, 1) := by decide +kernel
theorem d_Mod_leaveRow_22 : decode b_Mod_leaveRow 22 = .ok (.iconst 2, 1) := by decide +kernel
theorem d_Mod_leaveRow_23 : decode b_Mod_leaveRow 23 = .ok (.invokestatic 20, 3) := by decide +kernel
theorem d_Mod_leaveRow_26 : decode b_Mod_leaveRow 26 = .ok (.iaload, 1) := by decide +kernel
theorem d_Mod_leaveRow_27 : decode b_Mod_leaveRow 27 = .ok (.if_icmp .ge 35, 3) := by decide +kernel
theorem d_Mod_leaveRow_30 : decode b_Mod_leaveRow 30 = .ok (.aload_n 0, 1) := by decide +kernel
theorem d_Mod_leaveRow_31 : decode b_Mod_leaveRow 31 = .ok (.getfield 7, 3) := by decide +kernel
theorem d_Mod_leaveRow_34 : decode b_Mod_leaveRow 34 = .ok (.iload_n 1, 1) := by decide +kernel
theorem d_Mod_leaveRow_35 : decode b_Mod_leaveRow 35 = .ok (.iconst 3, 1) := by decide +kernel
theorem d_Mod_leaveRow_36 : decode b_Mod_leaveRow 36 = .ok (.iload_n 3, 1) := by decide +kernel
theorem d_Mod_leaveRow_37 : decode b_Mod_leaveRow 37 = .ok (.iadd, 1) := by decide +kernel
theorem d_Mod_leaveRow_38 : decode b_Mod_leaveRow 38 = .ok (.invokestatic 20, 3) := by decide +kernel
theorem d_Mod_leaveRow_41 : decode b_Mod_leaveRow 41 = .ok (.aload_n 0, 1) := by decide +kernel
theorem d_Mod_leaveRow_42 : decode b_Mod_leaveRow 42 = .ok (.getfield 7, 3) := by decide +kernel
theorem d_Mod_leaveRow_45 : decode b_Mod_leaveRow 45 = .ok (.iload_n 1, 1) := by decide +kernel
theorem d_Mod_leaveRow_46 : decode b_Mod_leaveRow 46 = .ok (.iconst 3, 1) := by decide +kernel
theorem d_Mod_leaveRow_47 : decode b_Mod_leaveRow 47 = .ok (.iload_n 3, 1) := by decide +kernel
theorem d_Mod_leaveRow_48 : decode b_Mod_leaveRow 48 = .ok (.iadd, 1) := by decide +kernel
theorem d_Mod_leaveRow_49 : decode b_Mod_leaveRow 49 = .ok (.iconst 1, 1) := by decide +kernel
theorem d_Mod_leaveRow_50 : decode b_Mod_leaveRow 50 = .ok (.iadd, 1) := by decide +kernel
theorem d_Mod_leaveRow_51 : decode b_Mod_leaveRow 51 = .ok (.invokestatic 20, 3) := by decide +kernel
theorem d_Mod_leaveRow_54 : decode b_Mod_leaveRow 54 = .ok (.iaload, 1) := by decide +kernel
theorem d_Mod_leaveRow_55 : decode b_Mod_leaveRow 55 = .ok (.iastore, 1) := by decide +kernel
theorem d_Mod_leaveRow_56 : decode b_Mod_leaveRow 56 = .ok (.iinc 3 1, 3) := by decide +kernel
theorem d_Mod_leaveRow_59 : decode b_Mod_leaveRow 59 = .ok (.goto (-43), 3) := by decide +kernel
theorem d_Mod_leaveRow_62 : decode b_Mod_leaveRow 62 = .ok (.return_, 1) := by decide +kernel
theorem d_Mod_passOn_0 : decode b_Mod_passOn 0 = .ok (.aload_n 0, 1) := by decide +kernel
theorem d_Mod_passOn_1 : decode b_Mod_passOn 1 = .ok (.getfield 7, 3) := by decide +kernel
theorem d_Mod_passOn_4 : decode b_Mod_passOn 4 = .ok (.iload_n 1, 1) := by decide +kernel
theorem d_Mod_passOn_5 : decode b_Mod_passOn 5 = .ok (.iconst 2, 1) := by decide +kernel
theorem d_Mod_passOn_6 : decode b_Mod_passOn 6 = .ok (.invokestatic 20, 3) := by decide +kernel
theorem d_Mod_passOn_9 : decode b_Mod_passOn 9 = .ok (.iaload, 1) := by decide +kernel
theorem d_Mod_passOn_10 : decode b_Mod_passOn 10 = .ok (.ifCond .ne 20, 3) := by decide +kernel
theorem d_Mod_passOn_13 : decode b_Mod_passOn 13 = .ok (.aload_n 0, 1) := by decide +kernel
theorem d_Mod_passOn_14 : decode b_Mod_passOn 14 = .ok (.getfield 7, 3) := by decide +kernel
theorem d_Mod_passOn_17 : decode b_Mod_passOn 17 = .ok (.iload_n 1, 1) := by decide +kernel
theorem d_Mod_passOn_18 : decode b_Mod_passOn 18 = .ok (.iconst 1, 1) := by decide +kernel
theorem d_Mod_passOn_19 : decode b_Mod_passOn 19 = .ok (.invokestatic 20, 3) := by decide +kernel
theorem d_Mod_passOn_22 : decode b_Mod_passOn 22 = .ok (.dup2, 1) := by decide +kernel
theorem d_Mod_passOn_23 : decode b_Mod_passOn 23 = .ok (.iaload, 1) := by decide +kernel
theorem d_Mod_passOn_24 : decode b_Mod_passOn 24 = .ok (.iconst 1, 1) := by decide +kernel
theorem d_Mod_passOn_25 : decode b_Mod_passOn 25 = .ok (.iadd, 1) := by decide +kernel
theorem d_Mod_passOn_26 : decode b_Mod_passOn 26 = .ok (.iastore, 1) := by decide +kernel
theorem d_Mod_passOn_27 : decode b_Mod_passOn 27 = .ok (.bipush (-9), 2) := by decide +kernel
theorem d_Mod_passOn_29 : decode b_Mod_passOn 29 = .ok (.ireturn, 1) := by decide +kernel
theorem d_Mod_passOn_30 : decode b_Mod_passOn 30 = .ok (.aload_n 0, 1) := by decide +kernel
theorem d_Mod_passOn_31 : decode b_Mod_passOn 31 = .ok (.getfield 7, 3) := by decide +kernel
theorem d_Mod_passOn_34 : decode b_Mod_passOn 34 = .ok (.iload_n 1, 1) := by decide +kernel
theorem d_Mod_passOn_35 : decode b_Mod_passOn 35 = .ok (.iconst 3, 1) := by decide +kernel
theorem d_Mod_passOn_36 : decode b_Mod_passOn 36 = .ok (.invokestatic 20, 3) := by decide +kernel
theorem d_Mod_passOn_39 : decode b_Mod_passOn 39 = .ok (.iaload, 1) := by decide +kernel
theorem d_Mod_passOn_40 : decode b_Mod_passOn 40 = .ok (.istore_n 2, 1) := by decide +kernel
theorem d_Mod_passOn_41 : decode b_Mod_passOn 41 = .ok (.aload_n 0, 1) := by decide +kernel
theorem d_Mod_passOn_42 : decode b_Mod_passOn 42 = .ok (.iload_n 1, 1) := by decide +kernel
theorem d_Mod_passOn_43 : decode b_Mod_passOn 43 = .ok (.iconst 0, 1) := by decide +kernel
theorem d_Mod_passOn_44 : decode b_Mod_passOn 44 = .ok (.invokevirtual 89, 3) := by decide +kernel
theorem d_Mod_passOn_47 : decode b_Mod_passOn 47 = .ok (.aload_n 0, 1) := by decide +kernel
theorem d_Mod_passOn_48 : decode b_Mod_passOn 48 = .ok (.getfield 7, 3) := by decide +kernel
theorem d_Mod_passOn_51 : decode b_Mod_passOn 51 = .ok (.iload_n 2, 1) := by decide +kernel
theorem d_Mod_passOn_52 : decode b_Mod_passOn 52 = .ok (.iconst 4, 1) := by decide +kernel
theorem d_Mod_passOn_53 : decode b_Mod_passOn 53 = .ok (.invokestatic 43, 3) := by decide +kernel
theorem d_Mod_passOn_56 : decode b_Mod_passOn 56 = .ok (.iconst 1, 1) := by decide +kernel
theorem d_Mod_passOn_57 : decode b_Mod_passOn 57 = .ok (.iastore, 1) := by decide +kernel
theorem d_Mod_passOn_58 : decode b_Mod_passOn 58 = .ok (.iload_n 2, 1) := by decide +kernel
theorem d_Mod_passOn_59 : decode b_Mod_passOn 59 = .ok (.ireturn, 1) := by decide +kernel
theorem d_Mod_drop_0 : decode b_Mod_drop 0 = .ok (.aload_n 0, 1) := by decide +kernel
theorem d_Mod_drop_1 : decode b_Mod_drop 1 = .ok (.getfield 7, 3) := by decide +kernel
theorem d_Mod_drop_4 : decode b_Mod_drop 4 = .ok (.iload_n 1, 1) := by decide +kernel
theorem d_Mod_drop_5 : decode b_Mod_drop 5 = .ok (.iconst 3, 1) := by decide +kernel
theorem d_Mod_drop_6 : decode b_Mod_drop 6 = .ok (.invokestatic 43, 3) := by decide +kernel
theorem d_Mod_drop_9 : decode b_Mod_drop 9 = .ok (.iaload, 1) := by decide +kernel
theorem d_Mod_drop_10 : decode b_Mod_drop 10 = .ok (.istore_n 2, 1) := by decide +kernel
theorem d_Mod_drop_11 : decode b_Mod_drop 11 = .ok (.aload_n 0, 1) := by decide +kernel
theorem d_Mod_drop_12 : decode b_Mod_drop 12 = .ok (.getfield 7, 3) := by decide +kernel
theorem d_Mod_drop_15 : decode b_Mod_drop 15 = .ok (.iload_n 1, 1) := by decide +kernel
theorem d_Mod_drop_16 : decode b_Mod_drop 16 = .ok (.iconst 4, 1) := by decide +kernel
theorem d_Mod_drop_17 : decode b_Mod_drop 17 = .ok (.invokestatic 43, 3) := by decide +kernel
theorem d_Mod_drop_20 : decode b_Mod_drop 20 = .ok (.iaload, 1) := by decide +kernel
theorem d_Mod_drop_21 : decode b_Mod_drop 21 = .ok (.iconst 1, 1) := by decide +kernel
theorem d_Mod_drop_22 : decode b_Mod_drop 22 = .ok (.if_icmp .ne 7, 3) := by decide +kernel
theorem d_Mod_drop_25 : decode b_Mod_drop 25 = .ok (.iconst 1, 1) := by decide +kernel
theorem d_Mod_drop_26 : decode b_Mod_drop 26 = .ok (.goto 4, 3) := by decide +kernel
theorem d_Mod_drop_29 : decode b_Mod_drop 29 = .ok (.iconst 0, 1) := by decide +kernel
theorem d_Mod_drop_30 : decode b_Mod_drop 30 = .ok (.istore_n 3, 1) := by decide +kernel
theorem d_Mod_drop_31 : decode b_Mod_drop 31 = .ok (.aload_n 0, 1) := by decide +kernel
theorem d_Mod_drop_32 : decode b_Mod_drop 32 = .ok (.getfield 7, 3) := by decide +kernel
theorem d_Mod_drop_35 : decode b_Mod_drop 35 = .ok (.iload_n 1, 1) := by decide +kernel
theorem d_Mod_drop_36 : decode b_Mod_drop 36 = .ok (.iconst 3, 1) := by decide +kernel
theorem d_Mod_drop_37 : decode b_Mod_drop 37 = .ok (.invokestatic 43, 3) := by decide +kernel
theorem d_Mod_drop_40 : decode b_Mod_drop 40 = .ok (.bipush (-9), 2) := by decide +kernel
theorem d_Mod_drop_42 : decode b_Mod_drop 42 = .ok (.iastore, 1) := by decide +kernel
theorem d_Mod_drop_43 : decode b_Mod_drop 43 = .ok (.aload_n 0, 1) := by decide +kernel
theorem d_Mod_drop_44 : decode b_Mod_drop 44 = .ok (.getfield 7, 3) := by decide +kernel
theorem d_Mod_drop_47 : decode b_Mod_drop 47 = .ok (.iload_n 1, 1) := by decide +kernel
theorem d_Mod_drop_48 : decode b_Mod_drop 48 = .ok (.iconst 4, 1) := by decide +kernel
theorem d_Mod_drop_49 : decode b_Mod_drop 49 = .ok (.invokestatic 43, 3) := by decide +kernel
theorem d_Mod_drop_52 : decode b_Mod_drop 52 = .ok (.iconst 0, 1) := by decide +kernel
theorem d_Mod_drop_53 : decode b_Mod_drop 53 = .ok (.iastore, 1) := by decide +kernel
theorem d_Mod_drop_54 : decode b_Mod_drop 54 = .ok (.iload_n 3, 1) := by decide +kernel
theorem d_Mod_drop_55 : decode b_Mod_drop 55 = .ok (.ifCond .eq 9, 3) := by decide +kernel
theorem d_Mod_drop_58 : decode b_Mod_drop 58 = .ok (.aload_n 0, 1) := by decide +kernel
theorem d_Mod_drop_59 : decode b_Mod_drop 59 = .ok (.iload_n 2, 1) := by decide +kernel
theorem d_Mod_drop_60 : decode b_Mod_drop 60 = .ok (.invokevirtual 92, 3) := by decide +kernel
theorem d_Mod_drop_63 : decode b_Mod_drop 63 = .ok (.ireturn, 1) := by decide +kernel
theorem d_Mod_drop_64 : decode b_Mod_drop 64 = .ok (.aload_n 0, 1) := by decide +kernel
theorem d_Mod_drop_65 : decode b_Mod_drop 65 = .ok (.iload_n 2, 1) := by decide +kernel
theorem d_Mod_drop_66 : decode b_Mod_drop 66 = .ok (.aload_n 0, 1) := by decide +kernel
theorem d_Mod_drop_67 : decode b_Mod_drop 67 = .ok (.iload_n 1, 1) := by decide +kernel
theorem d_Mod_drop_68 : decode b_Mod_drop 68 = .ok (.iload_n 2, 1) := by decide +kernel
theorem d_Mod_drop_69 : decode b_Mod_drop 69 = .ok (.invokevirtual 95, 3) := by decide +kernel
theorem d_Mod_drop_72 : decode b_Mod_drop 72 = .ok (.invokevirtual 89, 3) := by decide +kernel
theorem d_Mod_drop_75 : decode b_Mod_drop 75 = .ok (.bipush (-9), 2) := by decide +kernel
theorem d_Mod_drop_77 : decode b_Mod_drop 77 = .ok (.ireturn, 1) := by decide +kernel
theorem d_Mod_noChoose_0 : decode b_Mod_noChoose 0 = .ok (.aload_n 0, 1) := by decide +kernel
theorem d_Mod_noChoose_1 : decode b_Mod_noChoose 1 = .ok (.iload_n 1, 1) := by decide +kernel
theorem d_Mod_noChoose_2 : decode b_Mod_noChoose 2 = .ok (.invokevirtual 46, 3) := by decide +kernel
theorem d_Mod_noChoose_5 : decode b_Mod_noChoose 5 = .ok (.ifCond .eq 10, 3) := by decide +kernel
theorem d_Mod_noChoose_8 : decode b_Mod_noChoose 8 = .ok (.iload_n 2, 1) := by decide +kernel
theorem d_Mod_noChoose_9 : decode b_Mod_noChoose 9 = .ok (.invokestatic 86, 3) := by decide +kernel
theorem d_Mod_noChoose_12 : decode b_Mod_noChoose 12 = .ok (.ifCond .ne 5, 3) := by decide +kernel
theorem d_Mod_noChoose_15 : decode b_Mod_noChoose 15 = .ok (.iconst (-1), 1) := by decide +kernel
theorem d_Mod_noChoose_16 : decode b_Mod_noChoose 16 = .ok (.ireturn, 1) := by decide +kernel
theorem d_Mod_noChoose_17 : decode b_Mod_noChoose 17 = .ok (.aload_n 0, 1) := by decide +kernel
theorem d_Mod_noChoose_18 : decode b_Mod_noChoose 18 = .ok (.invokevirtual 39, 3) := by decide +kernel
theorem d_Mod_noChoose_21 : decode b_Mod_noChoose 21 = .ok (.ifCond .ne 17, 3) := by decide +kernel
theorem d_Mod_noChoose_24 : decode b_Mod_noChoose 24 = .ok (.aload_n 0, 1) := by decide +kernel
theorem d_Mod_noChoose_25 : decode b_Mod_noChoose 25 = .ok (.getfield 7, 3) := by decide +kernel
theorem d_Mod_noChoose_28 : decode b_Mod_noChoose 28 = .ok (.iload_n 1, 1) := by decide +kernel
theorem d_Mod_noChoose_29 : decode b_Mod_noChoose 29 = .ok (.iconst 3, 1) := by decide +kernel
theorem d_Mod_noChoose_30 : decode b_Mod_noChoose 30 = .ok (.invokestatic 43, 3) := by decide +kernel
theorem d_Mod_noChoose_33 : decode b_Mod_noChoose 33 = .ok (.iaload, 1) := by decide +kernel
theorem d_Mod_noChoose_34 : decode b_Mod_noChoose 34 = .ok (.iload_n 2, 1) := by decide +kernel
theorem d_Mod_noChoose_35 : decode b_Mod_noChoose 35 = .ok (.if_icmp .ne 8, 3) := by decide +kernel
theorem d_Mod_noChoose_38 : decode b_Mod_noChoose 38 = .ok (.bipush (-2), 2) := by decide +kernel
theorem d_Mod_noChoose_40 : decode b_Mod_noChoose 40 = .ok (.goto 4, 3) := by decide +kernel
theorem d_Mod_noChoose_43 : decode b_Mod_noChoose 43 = .ok (.iconst 0, 1) := by decide +kernel
theorem d_Mod_noChoose_44 : decode b_Mod_noChoose 44 = .ok (.ireturn, 1) := by decide +kernel
theorem d_Mod_doChoose_0 : decode b_Mod_doChoose 0 = .ok (.aload_n 0, 1) := by decide +kernel
theorem d_Mod_doChoose_1 : decode b_Mod_doChoose 1 = .ok (.getfield 7, 3) := by decide +kernel
theorem d_Mod_doChoose_4 : decode b_Mod_doChoose 4 = .ok (.iload_n 1, 1) := by decide +kernel
theorem d_Mod_doChoose_5 : decode b_Mod_doChoose 5 = .ok (.iconst 3, 1) := by decide +kernel
theorem d_Mod_doChoose_6 : decode b_Mod_doChoose 6 = .ok (.invokestatic 43, 3) := by decide +kernel
theorem d_Mod_doChoose_9 : decode b_Mod_doChoose 9 = .ok (.iaload, 1) := by decide +kernel
theorem d_Mod_doChoose_10 : decode b_Mod_doChoose 10 = .ok (.bipush (-9), 2) := by decide +kernel
theorem d_Mod_doChoose_12 : decode b_Mod_doChoose 12 = .ok (.if_icmp .eq 9, 3) := by decide +kernel
theorem d_Mod_doChoose_15 : decode b_Mod_doChoose 15 = .ok (.aload_n 0, 1) := by decide +kernel
theorem d_Mod_doChoose_16 : decode b_Mod_doChoose 16 = .ok (.iload_n 1, 1) := by decide +kernel
theorem d_Mod_doChoose_17 : decode b_Mod_doChoose 17 = .ok (.invokevirtual 98, 3) := by decide +kernel
theorem d_Mod_doChoose_20 : decode b_Mod_doChoose 20 = .ok (.pop, 1) := by decide +kernel
theorem d_Mod_doChoose_21 : decode b_Mod_doChoose 21 = .ok (.aload_n 0, 1) := by decide +kernel
theorem d_Mod_doChoose_22 : decode b_Mod_doChoose 22 = .ok (.getfield 7, 3) := by decide +kernel
theorem d_Mod_doChoose_25 : decode b_Mod_doChoose 25 = .ok (.iload_n 1, 1) := by decide +kernel
theorem d_Mod_doChoose_26 : decode b_Mod_doChoose 26 = .ok (.iconst 3, 1) := by decide +kernel
theorem d_Mod_doChoose_27 : decode b_Mod_doChoose 27 = .ok (.invokestatic 43, 3) := by decide +kernel
theorem d_Mod_doChoose_30 : decode b_Mod_doChoose 30 = .ok (.iload_n 2, 1) := by decide +kernel
theorem d_Mod_doChoose_31 : decode b_Mod_doChoose 31 = .ok (.iastore, 1) := by decide +kernel
theorem d_Mod_doChoose_32 : decode b_Mod_doChoose 32 = .ok (.aload_n 0, 1) := by decide +kernel
theorem d_Mod_doChoose_33 : decode b_Mod_doChoose 33 = .ok (.getfield 7, 3) := by decide +kernel
theorem d_Mod_doChoose_36 : decode b_Mod_doChoose 36 = .ok (.iload_n 2, 1) := by decide +kernel
theorem d_Mod_doChoose_37 : decode b_Mod_doChoose 37 = .ok (.iconst 1, 1) := by decide +kernel
theorem d_Mod_doChoose_38 : decode b_Mod_doChoose 38 = .ok (.invokestatic 20, 3) := by decide +kernel
theorem d_Mod_doChoose_41 : decode b_Mod_doChoose 41 = .ok (.iaload, 1) := by decide +kernel
theorem d_Mod_doChoose_42 : decode b_Mod_doChoose 42 = .ok (.ifCond .le 30, 3) := by decide +kernel
theorem d_Mod_doChoose_45 : decode b_Mod_doChoose 45 = .ok (.aload_n 0, 1) := by decide +kernel
theorem d_Mod_doChoose_46 : decode b_Mod_doChoose 46 = .ok (.getfield 7, 3) := by decide +kernel
theorem d_Mod_doChoose_49 : decode b_Mod_doChoose 49 = .ok (.iload_n 2, 1) := by decide +kernel
theorem d_Mod_doChoose_50 : decode b_Mod_doChoose 50 = .ok (.iconst 1, 1) := by decide +kernel
theorem d_Mod_doChoose_51 : decode b_Mod_doChoose 51 = .ok (.invokestatic 20, 3) := by decide +kernel
theorem d_Mod_doChoose_54 : decode b_Mod_doChoose 54 = .ok (.dup2, 1) := by decide +kernel
theorem d_Mod_doChoose_55 : decode b_Mod_doChoose 55 = .ok (.iaload, 1) := by decide +kernel
theorem d_Mod_doChoose_56 : decode b_Mod_doChoose 56 = .ok (.iconst 1, 1) := by decide +kernel
theorem d_Mod_doChoose_57 : decode b_Mod_doChoose 57 = .ok (.isub, 1) := by decide +kernel
theorem d_Mod_doChoose_58 : decode b_Mod_doChoose 58 = .ok (.iastore, 1) := by decide +kernel
theorem d_Mod_doChoose_59 : decode b_Mod_doChoose 59 = .ok (.aload_n 0, 1) := by decide +kernel
theorem d_Mod_doChoose_60 : decode b_Mod_doChoose 60 = .ok (.getfield 7, 3) := by decide +kernel
theorem d_Mod_doChoose_63 : decode b_Mod_doChoose 63 = .ok (.iload_n 1, 1) := by decide +kernel
theorem d_Mod_doChoose_64 : decode b_Mod_doChoose 64 = .ok (.iconst 4, 1) := by decide +kernel
theorem d_Mod_doChoose_65 : decode b_Mod_doChoose 65 = .ok (.invokestatic 43, 3) := by decide +kernel
theorem d_Mod_doChoose_68 : decode b_Mod_doChoose 68 = .ok (.iconst 1, 1) := by decide +kernel
theorem d_Mod_doChoose_69 : decode b_Mod_doChoose 69 = .ok (.iastore, 1) := by decide +kernel
theorem d_Mod_doChoose_70 : decode b_Mod_doChoose 70 = .ok (.iconst 0, 1) := by decide +kernel
theorem d_Mod_doChoose_71 : decode b_Mod_doChoose 71 = .ok (.ireturn, 1) := by decide +kernel
theorem d_Mod_doChoose_72 : decode b_Mod_doChoose 72 = .ok (.aload_n 0, 1) := by decide +kernel
theorem d_Mod_doChoose_73 : decode b_Mod_doChoose 73 = .ok (.getfield 7, 3) := by decide +kernel
theorem d_Mod_doChoose_76 : decode b_Mod_doChoose 76 = .ok (.iload_n 2, 1) := by decide +kernel
theorem d_Mod_doChoose_77 : decode b_Mod_doChoose 77 = .ok (.iconst 3, 1) := by decide +kernel
theorem d_Mod_doChoose_78 : decode b_Mod_doChoose 78 = .ok (.aload_n 0, 1) := by decide +kernel
theorem d_Mod_doChoose_79 : decode b_Mod_doChoose 79 = .ok (.getfield 7, 3) := by decide +kernel
theorem d_Mod_doChoose_82 : decode b_Mod_doChoose 82 = .ok (.iload_n 2, 1) := by decide +kernel
theorem d_Mod_doChoose_83 : decode b_Mod_doChoose 83 = .ok (.iconst 2, 1) := by decide +kernel
theorem d_Mod_doChoose_84 : decode b_Mod_doChoose 84 = .ok (.invokestatic 20, 3) := by decide +kernel
theorem d_Mod_doChoose_87 : decode b_Mod_doChoose 87 = .ok (.iaload, 1) := by decide +kernel
theorem d_Mod_doChoose_88 : decode b_Mod_doChoose 88 = .ok (.iadd, 1) := by decide +kernel
theorem d_Mod_doChoose_89 : decode b_Mod_doChoose 89 = .ok (.invokestatic 20, 3) := by decide +kernel
theorem d_Mod_doChoose_92 : decode b_Mod_doChoose 92 = .ok (.iload_n 1, 1) := by decide +kernel
theorem d_Mod_doChoose_93 : decode b_Mod_doChoose 93 = .ok (.iastore, 1) := by decide +kernel
theorem d_Mod_doChoose_94 : decode b_Mod_doChoose 94 = .ok (.aload_n 0, 1) := by decide +kernel
theorem d_Mod_doChoose_95 : decode b_Mod_doChoose 95 = .ok (.getfield 7, 3) := by decide +kernel
theorem d_Mod_doChoose_98 : decode b_Mod_doChoose 98 = .ok (.iload_n 2, 1) := by decide +kernel
theorem d_Mod_doChoose_99 : decode b_Mod_doChoose 99 = .ok (.iconst 2, 1) := by decide +kernel
theorem d_Mod_doChoose_100 : decode b_Mod_doChoose 100 = .ok (.invokestatic 20, 3) := by decide +kernel
theorem d_Mod_doChoose_103 : decode b_Mod_doChoose 103 = .ok (.dup2, 1) := by decide +kernel
theorem d_Mod_doChoose_104 : decode b_Mod_doChoose 104 = .ok (.iaload, 1) := by decide +kernel
theorem d_Mod_doChoose_105 : decode b_Mod_doChoose 105 = .ok (.iconst 1, 1) := by decide +kernel
theorem d_Mod_doChoose_106 : decode b_Mod_doChoose 106 = .ok (.iadd, 1) := by decide +kernel
theorem d_Mod_doChoose_107 : decode b_Mod_doChoose 107 = .ok (.iastore, 1) := by decide +kernel
theorem d_Mod_doChoose_108 : decode b_Mod_doChoose 108 = .ok (.aload_n 0, 1) := by decide +kernel
theorem d_Mod_doChoose_109 : decode b_Mod_doChoose 109 = .ok (.getfield 7, 3) := by decide +kernel
theorem d_Mod_doChoose_112 : decode b_Mod_doChoose 112 = .ok (.iload_n 2, 1) := by decide +kernel
theorem d_Mod_doChoose_113 : decode b_Mod_doChoose 113 = .ok (.iconst 2, 1) := by decide +kernel
theorem d_Mod_doChoose_114 : decode b_Mod_doChoose 114 = .ok (.invokestatic 20, 3) := by decide +kernel
theorem d_Mod_doChoose_117 : decode b_Mod_doChoose 117 = .ok (.iaload, 1) := by decide +kernel
theorem d_Mod_doChoose_118 : decode b_Mod_doChoose 118 = .ok (.ireturn, 1) := by decide +kernel
theorem d_Mod_choose_0 : decode b_Mod_choose 0 = .ok (.aload_n 0, 1) := by decide +kernel
theorem d_Mod_choose_1 : decode b_Mod_choose 1 = .ok (.iload_n 1, 1) := by decide +kernel
theorem d_Mod_choose_2 : decode b_Mod_choose 2 = .ok (.iload_n 2, 1) := by decide +kernel
theorem d_Mod_choose_3 : decode b_Mod_choose 3 = .ok (.invokevirtual 101, 3) := by decide +kernel
theorem d_Mod_choose_6 : decode b_Mod_choose 6 = .ok (.istore_n 3, 1) := by decide +kernel
theorem d_Mod_choose_7 : decode b_Mod_choose 7 = .ok (.iload_n 3, 1) := by decide +kernel
theorem d_Mod_choose_8 : decode b_Mod_choose 8 = .ok (.ifCond .eq 5, 3) := by decide +kernel
theorem d_Mod_choose_11 : decode b_Mod_choose 11 = .ok (.iload_n 3, 1) := by decide +kernel
theorem d_Mod_choose_12 : decode b_Mod_choose 12 = .ok (.ireturn, 1) := by decide +kernel
theorem d_Mod_choose_13 : decode b_Mod_choose 13 = .ok (.aload_n 0, 1) := by decide +kernel
theorem d_Mod_choose_14 : decode b_Mod_choose 14 = .ok (.invokevirtual 36, 3) := by decide +kernel
theorem d_Mod_choose_17 : decode b_Mod_choose 17 = .ok (.aload_n 0, 1) := by decide +kernel
theorem d_Mod_choose_18 : decode b_Mod_choose 18 = .ok (.iload_n 1, 1) := by decide +kernel
theorem d_Mod_choose_19 : decode b_Mod_choose 19 = .ok (.iload_n 2, 1) := by decide +kernel
theorem d_Mod_choose_20 : decode b_Mod_choose 20 = .ok (.invokevirtual 104, 3) := by decide +kernel
theorem d_Mod_choose_23 : decode b_Mod_choose 23 = .ok (.ireturn, 1) := by decide +kernel
theorem d_Mod_noGiveUp_0 : decode b_Mod_noGiveUp 0 = .ok (.aload_n 0, 1) := by decide +kernel
theorem d_Mod_noGiveUp_1 : decode b_Mod_noGiveUp 1 = .ok (.iload_n 1, 1) := by decide +kernel
theorem d_Mod_noGiveUp_2 : decode b_Mod_noGiveUp 2 = .ok (.invokevirtual 46, 3) := by decide +kernel
theorem d_Mod_noGiveUp_5 : decode b_Mod_noGiveUp 5 = .ok (.ifCond .ne 7, 3) := by decide +kernel
theorem d_Mod_noGiveUp_8 : decode b_Mod_noGiveUp 8 = .ok (.iconst (-1), 1) := by decide +kernel
theorem d_Mod_noGiveUp_9 : decode b_Mod_noGiveUp 9 = .ok (.goto 31, 3) := by decide +kernel
theorem d_Mod_noGiveUp_12 : decode b_Mod_noGiveUp 12 = .ok (.aload_n 0, 1) := by decide +kernel
theorem d_Mod_noGiveUp_13 : decode b_Mod_noGiveUp 13 = .ok (.invokevirtual 39, 3) := by decide +kernel
theorem d_Mod_noGiveUp_16 : decode b_Mod_noGiveUp 16 = .ok (.ifCond .ne 18, 3) := by decide +kernel
theorem d_Mod_noGiveUp_19 : decode b_Mod_noGiveUp 19 = .ok (.aload_n 0, 1) := by decide +kernel
theorem d_Mod_noGiveUp_20 : decode b_Mod_noGiveUp 20 = .ok (.getfield 7, 3) := by decide +kernel
theorem d_Mod_noGiveUp_23 : decode b_Mod_noGiveUp 23 = .ok (.iload_n 1, 1) := by decide +kernel
theorem d_Mod_noGiveUp_24 : decode b_Mod_noGiveUp 24 = .ok (.iconst 3, 1) := by decide +kernel
theorem d_Mod_noGiveUp_25 : decode b_Mod_noGiveUp 25 = .ok (.invokestatic 43, 3) := by decide +kernel
theorem d_Mod_noGiveUp_28 : decode b_Mod_noGiveUp 28 = .ok (.iaload, 1) := by decide +kernel
theorem d_Mod_noGiveUp_29 : decode b_Mod_noGiveUp 29 = .ok (.bipush (-9), 2) := by decide +kernel
theorem d_Mod_noGiveUp_31 : decode b_Mod_noGiveUp 31 = .ok (.if_icmp .ne 8, 3) := by decide +kernel
theorem d_Mod_noGiveUp_34 : decode b_Mod_noGiveUp 34 = .ok (.bipush (-2), 2) := by decide +kernel
theorem d_Mod_noGiveUp_36 : decode b_Mod_noGiveUp 36 = .ok (.goto 4, 3) := by decide +kernel
theorem d_Mod_noGiveUp_39 : decode b_Mod_noGiveUp 39 = .ok (.iconst 0, 1) := by decide +kernel
theorem d_Mod_noGiveUp_40 : decode b_Mod_noGiveUp 40 = .ok (.ireturn, 1) := by decide +kernel
theorem d_Mod_giveUp_0 : decode b_Mod_giveUp 0 = .ok (.aload_n 0, 1) := by decide +kernel
theorem d_Mod_giveUp_1 : decode b_Mod_giveUp 1 = .ok (.iload_n 1, 1) := by decide +kernel
theorem d_Mod_giveUp_2 : decode b_Mod_giveUp 2 = .ok (.invokevirtual 107, 3) := by decide +kernel
theorem d_Mod_giveUp_5 : decode b_Mod_giveUp 5 = .ok (.istore_n 2, 1) := by decide +kernel
theorem d_Mod_giveUp_6 : decode b_Mod_giveUp 6 = .ok (.iload_n 2, 1) := by decide +kernel
theorem d_Mod_giveUp_7 : decode b_Mod_giveUp 7 = .ok (.ifCond .eq 5, 3) := by decide +kernel
theorem d_Mod_giveUp_10 : decode b_Mod_giveUp 10 = .ok (.iload_n 2, 1) := by decide +kernel
theorem d_Mod_giveUp_11 : decode b_Mod_giveUp 11 = .ok (.ireturn, 1) := by decide +kernel
theorem d_Mod_giveUp_12 : decode b_Mod_giveUp 12 = .ok (.aload_n 0, 1) := by decide +kernel
theorem d_Mod_giveUp_13 : decode b_Mod_giveUp 13 = .ok (.invokevirtual 36, 3) := by decide +kernel
theorem d_Mod_giveUp_16 : decode b_Mod_giveUp 16 = .ok (.aload_n 0, 1) := by decide +kernel
theorem d_Mod_giveUp_17 : decode b_Mod_giveUp 17 = .ok (.getfield 7, 3) := by decide +kernel
theorem d_Mod_giveUp_20 : decode b_Mod_giveUp 20 = .ok (.iload_n 1, 1) := by decide +kernel
theorem d_Mod_giveUp_21 : decode b_Mod_giveUp 21 = .ok (.iconst 3, 1) := by decide +kernel
theorem d_Mod_giveUp_22 : decode b_Mod_giveUp 22 = .ok (.invokestatic 43, 3) := by decide +kernel
theorem d_Mod_giveUp_25 : decode b_Mod_giveUp 25 = .ok (.iaload, 1) := by decide +kernel
theorem d_Mod_giveUp_26 : decode b_Mod_giveUp 26 = .ok (.istore_n 3, 1) := by decide +kernel
theorem d_Mod_giveUp_27 : decode b_Mod_giveUp 27 = .ok (.aload_n 0, 1) := by decide +kernel
theorem d_Mod_giveUp_28 : decode b_Mod_giveUp 28 = .ok (.iload_n 1, 1) := by decide +kernel
theorem d_Mod_giveUp_29 : decode b_Mod_giveUp 29 = .ok (.invokevirtual 98, 3) := by decide +kernel
theorem d_Mod_giveUp_32 : decode b_Mod_giveUp 32 = .ok (.pop, 1) := by decide +kernel
theorem d_Mod_giveUp_33 : decode b_Mod_giveUp 33 = .ok (.iload_n 3, 1) := by decide +kernel
theorem d_Mod_giveUp_34 : decode b_Mod_giveUp 34 = .ok (.ireturn, 1) := by decide +kernel
theorem d_Mod_noWeek_0 : decode b_Mod_noWeek 0 = .ok (.aload_n 0, 1) := by decide +kernel
theorem d_Mod_noWeek_1 : decode b_Mod_noWeek 1 = .ok (.invokevirtual 39, 3) := by decide +kernel
theorem d_Mod_noWeek_4 : decode b_Mod_noWeek 4 = .ok (.ifCond .eq 8, 3) := by decide +kernel
theorem d_Mod_noWeek_7 : decode b_Mod_noWeek 7 = .ok (.bipush (-2), 2) := by decide +kernel
theorem d_Mod_noWeek_9 : decode b_Mod_noWeek 9 = .ok (.goto 20, 3) := by decide +kernel
theorem d_Mod_noWeek_12 : decode b_Mod_noWeek 12 = .ok (.aload_n 0, 1) := by decide +kernel
theorem d_Mod_noWeek_13 : decode b_Mod_noWeek 13 = .ok (.getfield 7, 3) := by decide +kernel
theorem d_Mod_noWeek_16 : decode b_Mod_noWeek 16 = .ok (.iconst 0, 1) := by decide +kernel
theorem d_Mod_noWeek_17 : decode b_Mod_noWeek 17 = .ok (.iaload, 1) := by decide +kernel
theorem d_Mod_noWeek_18 : decode b_Mod_noWeek 18 = .ok (.bipush 60, 2) := by decide +kernel
theorem d_Mod_noWeek_20 : decode b_Mod_noWeek 20 = .ok (.if_icmp .ne 8, 3) := by decide +kernel
theorem d_Mod_noWeek_23 : decode b_Mod_noWeek 23 = .ok (.bipush (-3), 2) := by decide +kernel
theorem d_Mod_noWeek_25 : decode b_Mod_noWeek 25 = .ok (.goto 4, 3) := by decide +kernel
theorem d_Mod_noWeek_28 : decode b_Mod_noWeek 28 = .ok (.iconst 0, 1) := by decide +kernel
theorem d_Mod_noWeek_29 : decode b_Mod_noWeek 29 = .ok (.ireturn, 1) := by decide +kernel
theorem d_Mod_doWeek_0 : decode b_Mod_doWeek 0 = .ok (.aload_n 0, 1) := by decide +kernel
theorem d_Mod_doWeek_1 : decode b_Mod_doWeek 1 = .ok (.getfield 7, 3) := by decide +kernel
theorem d_Mod_doWeek_4 : decode b_Mod_doWeek 4 = .ok (.iconst 0, 1) := by decide +kernel
theorem d_Mod_doWeek_5 : decode b_Mod_doWeek 5 = .ok (.dup2, 1) := by decide +kernel
theorem d_Mod_doWeek_6 : decode b_Mod_doWeek 6 = .ok (.iaload, 1) := by decide +kernel
theorem d_Mod_doWeek_7 : decode b_Mod_doWeek 7 = .ok (.iconst 1, 1) := by decide +kernel
theorem d_Mod_doWeek_8 : decode b_Mod_doWeek 8 = .ok (.iadd, 1) := by decide +kernel
theorem d_Mod_doWeek_9 : decode b_Mod_doWeek 9 = .ok (.iastore, 1) := by decide +kernel
theorem d_Mod_doWeek_10 : decode b_Mod_doWeek 10 = .ok (.iconst 0, 1) := by decide +kernel
theorem d_Mod_doWeek_11 : decode b_Mod_doWeek 11 = .ok (.istore_n 1, 1) := by decide +kernel
theorem d_Mod_doWeek_12 : decode b_Mod_doWeek 12 = .ok (.iload_n 1, 1) := by decide +kernel
theorem d_Mod_doWeek_13 : decode b_Mod_doWeek 13 = .ok (.aload_n 0, 1) := by decide +kernel
theorem d_Mod_doWeek_14 : decode b_Mod_doWeek 14 = .ok (.getfield 7, 3) := by decide +kernel
theorem d_Mod_doWeek_17 : decode b_Mod_doWeek 17 = .ok (.iconst 1, 1) := by decide +kernel
theorem d_Mod_doWeek_18 : decode b_Mod_doWeek 18 = .ok (.iaload, 1) := by decide +kernel
theorem d_Mod_doWeek_19 : decode b_Mod_doWeek 19 = .ok (.if_icmp .ge 96, 3) := by decide +kernel
theorem d_Mod_doWeek_22 : decode b_Mod_doWeek 22 = .ok (.aload_n 0, 1) := by decide +kernel
theorem d_Mod_doWeek_23 : decode b_Mod_doWeek 23 = .ok (.getfield 7, 3) := by decide +kernel
theorem d_Mod_doWeek_26 : decode b_Mod_doWeek 26 = .ok (.iload_n 1, 1) := by decide +kernel
theorem d_Mod_doWeek_27 : decode b_Mod_doWeek 27 = .ok (.iconst 1, 1) := by decide +kernel
theorem d_Mod_doWeek_28 : decode b_Mod_doWeek 28 = .ok (.invokestatic 43, 3) := by decide +kernel
theorem d_Mod_doWeek_31 : decode b_Mod_doWeek 31 = .ok (.iaload, 1) := by decide +kernel
theorem d_Mod_doWeek_32 : decode b_Mod_doWeek 32 = .ok (.iconst 1, 1) := by decide +kernel
theorem d_Mod_doWeek_33 : decode b_Mod_doWeek 33 = .ok (.if_icmp .ne 76, 3) := by decide +kernel
theorem d_Mod_doWeek_36 : decode b_Mod_doWeek 36 = .ok (.aload_n 0, 1) := by decide +kernel
theorem d_Mod_doWeek_37 : decode b_Mod_doWeek 37 = .ok (.getfield 7, 3) := by decide +kernel
theorem d_Mod_doWeek_40 : decode b_Mod_doWeek 40 = .ok (.iconst 0, 1) := by decide +kernel
theorem d_Mod_doWeek_41 : decode b_Mod_doWeek 41 = .ok (.iaload, 1) := by decide +kernel
theorem d_Mod_doWeek_42 : decode b_Mod_doWeek 42 = .ok (.aload_n 0, 1) := by decide +kernel
theorem d_Mod_doWeek_43 : decode b_Mod_doWeek 43 = .ok (.getfield 7, 3) := by decide +kernel
theorem d_Mod_doWeek_46 : decode b_Mod_doWeek 46 = .ok (.iload_n 1, 1) := by decide +kernel
theorem d_Mod_doWeek_47 : decode b_Mod_doWeek 47 = .ok (.iconst 2, 1) := by decide +kernel
theorem d_Mod_doWeek_48 : decode b_Mod_doWeek 48 = .ok (.invokestatic 43, 3) := by decide +kernel
theorem d_Mod_doWeek_51 : decode b_Mod_doWeek 51 = .ok (.iaload, 1) := by decide +kernel
theorem d_Mod_doWeek_52 : decode b_Mod_doWeek 52 = .ok (.isub, 1) := by decide +kernel
theorem d_Mod_doWeek_53 : decode b_Mod_doWeek 53 = .ok (.iconst 3, 1) := by decide +kernel
theorem d_Mod_doWeek_54 : decode b_Mod_doWeek 54 = .ok (.if_icmp .lt 55, 3) := by decide +kernel
theorem d_Mod_doWeek_57 : decode b_Mod_doWeek 57 = .ok (.aload_n 0, 1) := by decide +kernel
theorem d_Mod_doWeek_58 : decode b_Mod_doWeek 58 = .ok (.getfield 7, 3) := by decide +kernel
theorem d_Mod_doWeek_61 : decode b_Mod_doWeek 61 = .ok (.iload_n 1, 1) := by decide +kernel
theorem d_Mod_doWeek_62 : decode b_Mod_doWeek 62 = .ok (.iconst 0, 1) := by decide +kernel
theorem d_Mod_doWeek_63 : decode b_Mod_doWeek 63 = .ok (.invokestatic 43, 3) := by decide +kernel
theorem d_Mod_doWeek_66 : decode b_Mod_doWeek 66 = .ok (.iaload, 1) := by decide +kernel
theorem d_Mod_doWeek_67 : decode b_Mod_doWeek 67 = .ok (.bipush 10, 2) := by decide +kernel
theorem d_Mod_doWeek_69 : decode b_Mod_doWeek 69 = .ok (.idiv, 1) := by decide +kernel
theorem d_Mod_doWeek_70 : decode b_Mod_doWeek 70 = .ok (.istore_n 2, 1) := by decide +kernel
theorem d_Mod_doWeek_71 : decode b_Mod_doWeek 71 = .ok (.aload_n 0, 1) := by decide +kernel
theorem d_Mod_doWeek_72 : decode b_Mod_doWeek 72 = .ok (.getfield 7, 3) := by decide +kernel
theorem d_Mod_doWeek_75 : decode b_Mod_doWeek 75 = .ok (.iload_n 1, 1) := by decide +kernel
theorem d_Mod_doWeek_76 : decode b_Mod_doWeek 76 = .ok (.iconst 0, 1) := by decide +kernel
theorem d_Mod_doWeek_77 : decode b_Mod_doWeek 77 = .ok (.invokestatic 43, 3) := by decide +kernel
theorem d_Mod_doWeek_80 : decode b_Mod_doWeek 80 = .ok (.dup2, 1) := by decide +kernel
theorem d_Mod_doWeek_81 : decode b_Mod_doWeek 81 = .ok (.iaload, 1) := by decide +kernel
theorem d_Mod_doWeek_82 : decode b_Mod_doWeek 82 = .ok (.iload_n 2, 1) := by decide +kernel
theorem d_Mod_doWeek_83 : decode b_Mod_doWeek 83 = .ok (.isub, 1) := by decide +kernel
theorem d_Mod_doWeek_84 : decode b_Mod_doWeek 84 = .ok (.iastore, 1) := by decide +kernel
theorem d_Mod_doWeek_85 : decode b_Mod_doWeek 85 = .ok (.aload_n 0, 1) := by decide +kernel
theorem d_Mod_doWeek_86 : decode b_Mod_doWeek 86 = .ok (.getfield 7, 3) := by decide +kernel
theorem d_Mod_doWeek_89 : decode b_Mod_doWeek 89 = .ok (.iconst 4, 1) := by decide +kernel
theorem d_Mod_doWeek_90 : decode b_Mod_doWeek 90 = .ok (.dup2, 1) := by decide +kernel
theorem d_Mod_doWeek_91 : decode b_Mod_doWeek 91 = .ok (.iaload, 1) := by decide +kernel
theorem d_Mod_doWeek_92 : decode b_Mod_doWeek 92 = .ok (.bipush 10, 2) := by decide +kernel
theorem d_Mod_doWeek_94 : decode b_Mod_doWeek 94 = .ok (.iload_n 2, 1) := by decide +kernel
theorem d_Mod_doWeek_95 : decode b_Mod_doWeek 95 = .ok (.imul, 1) := by decide +kernel
theorem d_Mod_doWeek_96 : decode b_Mod_doWeek 96 = .ok (.iadd, 1) := by decide +kernel
theorem d_Mod_doWeek_97 : decode b_Mod_doWeek 97 = .ok (.iastore, 1) := by decide +kernel
theorem d_Mod_doWeek_98 : decode b_Mod_doWeek 98 = .ok (.aload_n 0, 1) := by decide +kernel
theorem d_Mod_doWeek_99 : decode b_Mod_doWeek 99 = .ok (.getfield 7, 3) := by decide +kernel
theorem d_Mod_doWeek_102 : decode b_Mod_doWeek 102 = .ok (.iload_n 1, 1) := by decide +kernel
theorem d_Mod_doWeek_103 : decode b_Mod_doWeek 103 = .ok (.iconst 1, 1) := by decide +kernel
theorem d_Mod_doWeek_104 : decode b_Mod_doWeek 104 = .ok (.invokestatic 43, 3) := by decide +kernel
theorem d_Mod_doWeek_107 : decode b_Mod_doWeek 107 = .ok (.iconst 0, 1) := by decide +kernel
theorem d_Mod_doWeek_108 : decode b_Mod_doWeek 108 = .ok (.iastore, 1) := by decide +kernel
theorem d_Mod_doWeek_109 : decode b_Mod_doWeek 109 = .ok (.iinc 1 1, 3) := by decide +kernel
theorem d_Mod_doWeek_112 : decode b_Mod_doWeek 112 = .ok (.goto (-100), 3) := by decide +kernel
theorem d_Mod_doWeek_115 : decode b_Mod_doWeek 115 = .ok (.iconst 0, 1) := by decide +kernel
theorem d_Mod_doWeek_116 : decode b_Mod_doWeek 116 = .ok (.istore_n 1, 1) := by decide +kernel
theorem d_Mod_doWeek_117 : decode b_Mod_doWeek 117 = .ok (.iconst 0, 1) := by decide +kernel
theorem d_Mod_doWeek_118 : decode b_Mod_doWeek 118 = .ok (.istore_n 2, 1) := by decide +kernel
theorem d_Mod_doWeek_119 : decode b_Mod_doWeek 119 = .ok (.iload_n 2, 1) := by decide +kernel
theorem d_Mod_doWeek_120 : decode b_Mod_doWeek 120 = .ok (.aload_n 0, 1) := by decide +kernel
theorem d_Mod_doWeek_121 : decode b_Mod_doWeek 121 = .ok (.getfield 7, 3) := by decide +kernel
theorem d_Mod_doWeek_124 : decode b_Mod_doWeek 124 = .ok (.iconst 1, 1) := by decide +kernel
theorem d_Mod_doWeek_125 : decode b_Mod_doWeek 125 = .ok (.iaload, 1) := by decide +kernel
theorem d_Mod_doWeek_126 : decode b_Mod_doWeek 126 = .ok (.if_icmp .ge 87, 3) := by decide +kernel
theorem d_Mod_doWeek_129 : decode b_Mod_doWeek 129 = .ok (.aload_n 0, 1) := by decide +kernel
theorem d_Mod_doWeek_130 : decode b_Mod_doWeek 130 = .ok (.getfield 7, 3) := by decide +kernel
theorem d_Mod_doWeek_133 : decode b_Mod_doWeek 133 = .ok (.iload_n 2, 1) := by decide +kernel
theorem d_Mod_doWeek_134 : decode b_Mod_doWeek 134 = .ok (.bipush 9, 2) := by decide +kernel
theorem d_Mod_doWeek_136 : decode b_Mod_doWeek 136 = .ok (.invokestatic 43, 3) := by decide +kernel
theorem d_Mod_doWeek_139 : decode b_Mod_doWeek 139 = .ok (.iaload, 1) := by decide +kernel
theorem d_Mod_doWeek_140 : decode b_Mod_doWeek 140 = .ok (.bipush (-9), 2) := by decide +kernel
theorem d_Mod_doWeek_142 : decode b_Mod_doWeek 142 = .ok (.if_icmp .ne 17, 3) := by decide +kernel
theorem d_Mod_doWeek_145 : decode b_Mod_doWeek 145 = .ok (.aload_n 0, 1) := by decide +kernel
theorem d_Mod_doWeek_146 : decode b_Mod_doWeek 146 = .ok (.getfield 7, 3) := by decide +kernel
theorem d_Mod_doWeek_149 : decode b_Mod_doWeek 149 = .ok (.iload_n 2, 1) := by decide +kernel
theorem d_Mod_doWeek_150 : decode b_Mod_doWeek 150 = .ok (.bipush 6, 2) := by decide +kernel
theorem d_Mod_doWeek_152 : decode b_Mod_doWeek 152 = .ok (.invokestatic 43, 3) := by decide +kernel
theorem d_Mod_doWeek_155 : decode b_Mod_doWeek 155 = .ok (.iaload, 1) := by decide +kernel
theorem d_Mod_doWeek_156 : decode b_Mod_doWeek 156 = .ok (.goto 14, 3) := by decide +kernel
theorem d_Mod_doWeek_159 : decode b_Mod_doWeek 159 = .ok (.aload_n 0, 1) := by decide +kernel
theorem d_Mod_doWeek_160 : decode b_Mod_doWeek 160 = .ok (.getfield 7, 3) := by decide +kernel
theorem d_Mod_doWeek_163 : decode b_Mod_doWeek 163 = .ok (.iload_n 2, 1) := by decide +kernel
theorem d_Mod_doWeek_164 : decode b_Mod_doWeek 164 = .ok (.bipush 9, 2) := by decide +kernel
theorem d_Mod_doWeek_166 : decode b_Mod_doWeek 166 = .ok (.invokestatic 43, 3) := by decide +kernel
theorem d_Mod_doWeek_169 : decode b_Mod_doWeek 169 = .ok (.iaload, 1) := by decide +kernel
theorem d_Mod_doWeek_170 : decode b_Mod_doWeek 170 = .ok (.istore_n 3, 1) := by decide +kernel
theorem d_Mod_doWeek_171 : decode b_Mod_doWeek 171 = .ok (.aload_n 0, 1) := by decide +kernel
theorem d_Mod_doWeek_172 : decode b_Mod_doWeek 172 = .ok (.getfield 7, 3) := by decide +kernel
theorem d_Mod_doWeek_175 : decode b_Mod_doWeek 175 = .ok (.iload_n 2, 1) := by decide +kernel
theorem d_Mod_doWeek_176 : decode b_Mod_doWeek 176 = .ok (.iconst 3, 1) := by decide +kernel
theorem d_Mod_doWeek_177 : decode b_Mod_doWeek 177 = .ok (.invokestatic 43, 3) := by decide +kernel
theorem d_Mod_doWeek_180 : decode b_Mod_doWeek 180 = .ok (.iaload, 1) := by decide +kernel
theorem d_Mod_doWeek_181 : decode b_Mod_doWeek 181 = .ok (.bipush (-9), 2) := by decide +kernel
theorem d_Mod_doWeek_183 : decode b_Mod_doWeek 183 = .ok (.if_icmp .eq 24, 3) := by decide +kernel
theorem d_Mod_doWeek_186 : decode b_Mod_doWeek 186 = .ok (.aload_n 0, 1) := by decide +kernel
theorem d_Mod_doWeek_187 : decode b_Mod_doWeek 187 = .ok (.getfield 7, 3) := by decide +kernel
theorem d_Mod_doWeek_190 : decode b_Mod_doWeek 190 = .ok (.iconst 0, 1) := by decide +kernel
theorem d_Mod_doWeek_191 : decode b_Mod_doWeek 191 = .ok (.iaload, 1) := by decide +kernel
theorem d_Mod_doWeek_192 : decode b_Mod_doWeek 192 = .ok (.iload_n 3, 1) := by decide +kernel
theorem d_Mod_doWeek_193 : decode b_Mod_doWeek 193 = .ok (.isub, 1) := by decide +kernel
theorem d_Mod_doWeek_194 : decode b_Mod_doWeek 194 = .ok (.iconst 4, 1) := by decide +kernel
theorem d_Mod_doWeek_195 : decode b_Mod_doWeek 195 = .ok (.if_icmp .le 12, 3) := by decide +kernel
theorem d_Mod_doWeek_198 : decode b_Mod_doWeek 198 = .ok (.aload_n 0, 1) := by decide +kernel
theorem d_Mod_doWeek_199 : decode b_Mod_doWeek 199 = .ok (.iload_n 2, 1) := by decide +kernel
theorem d_Mod_doWeek_200 : decode b_Mod_doWeek 200 = .ok (.invokevirtual 98, 3) := by decide +kernel
theorem d_Mod_doWeek_203 : decode b_Mod_doWeek 203 = .ok (.pop, 1) := by decide +kernel
theorem d_Mod_doWeek_204 : decode b_Mod_doWeek 204 = .ok (.iinc 1 1, 3) := by decide +kernel
theorem d_Mod_doWeek_207 : decode b_Mod_doWeek 207 = .ok (.iinc 2 1, 3) := by decide +kernel
theorem d_Mod_doWeek_210 : decode b_Mod_doWeek 210 = .ok (.goto (-91), 3) := by decide +kernel
theorem d_Mod_doWeek_213 : decode b_Mod_doWeek 213 = .ok (.aload_n 0, 1) := by decide +kernel
theorem d_Mod_doWeek_214 : decode b_Mod_doWeek 214 = .ok (.getfield 7, 3) := by decide +kernel
theorem d_Mod_doWeek_217 : decode b_Mod_doWeek 217 = .ok (.bipush 9, 2) := by decide +kernel
theorem d_Mod_doWeek_219 : decode b_Mod_doWeek 219 = .ok (.dup2, 1) := by decide +kernel
theorem d_Mod_doWeek_220 : decode b_Mod_doWeek 220 = .ok (.iaload, 1) := by decide +kernel
theorem d_Mod_doWeek_221 : decode b_Mod_doWeek 221 = .ok (.iload_n 1, 1) := by decide +kernel
theorem d_Mod_doWeek_222 : decode b_Mod_doWeek 222 = .ok (.iadd, 1) := by decide +kernel
theorem d_Mod_doWeek_223 : decode b_Mod_doWeek 223 = .ok (.iastore, 1) := by decide +kernel
theorem d_Mod_doWeek_224 : decode b_Mod_doWeek 224 = .ok (.iload_n 1, 1) := by decide +kernel
theorem d_Mod_doWeek_225 : decode b_Mod_doWeek 225 = .ok (.ireturn, 1) := by decide +kernel
theorem d_Mod_week_0 : decode b_Mod_week 0 = .ok (.aload_n 0, 1) := by decide +kernel
theorem d_Mod_week_1 : decode b_Mod_week 1 = .ok (.invokevirtual 110, 3) := by decide +kernel
theorem d_Mod_week_4 : decode b_Mod_week 4 = .ok (.istore_n 1, 1) := by decide +kernel
theorem d_Mod_week_5 : decode b_Mod_week 5 = .ok (.iload_n 1, 1) := by decide +kernel
theorem d_Mod_week_6 : decode b_Mod_week 6 = .ok (.ifCond .eq 5, 3) := by decide +kernel
theorem d_Mod_week_9 : decode b_Mod_week 9 = .ok (.iload_n 1, 1) := by decide +kernel
theorem d_Mod_week_10 : decode b_Mod_week 10 = .ok (.ireturn, 1) := by decide +kernel
theorem d_Mod_week_11 : decode b_Mod_week 11 = .ok (.aload_n 0, 1) := by decide +kernel
theorem d_Mod_week_12 : decode b_Mod_week 12 = .ok (.invokevirtual 36, 3) := by decide +kernel
theorem d_Mod_week_15 : decode b_Mod_week 15 = .ok (.aload_n 0, 1) := by decide +kernel
theorem d_Mod_week_16 : decode b_Mod_week 16 = .ok (.invokevirtual 114, 3) := by decide +kernel
theorem d_Mod_week_19 : decode b_Mod_week 19 = .ok (.ireturn, 1) := by decide +kernel
theorem d_Mod_shares_0 : decode b_Mod_shares 0 = .ok (.aload_n 0, 1) := by decide +kernel
theorem d_Mod_shares_1 : decode b_Mod_shares 1 = .ok (.getfield 7, 3) := by decide +kernel
theorem d_Mod_shares_4 : decode b_Mod_shares 4 = .ok (.iload_n 1, 1) := by decide +kernel
theorem d_Mod_shares_5 : decode b_Mod_shares 5 = .ok (.iconst 5, 1) := by decide +kernel
theorem d_Mod_shares_6 : decode b_Mod_shares 6 = .ok (.invokestatic 43, 3) := by decide +kernel
theorem d_Mod_shares_9 : decode b_Mod_shares 9 = .ok (.iaload, 1) := by decide +kernel
theorem d_Mod_shares_10 : decode b_Mod_shares 10 = .ok (.ifCond .ne 20, 3) := by decide +kernel
theorem d_Mod_shares_13 : decode b_Mod_shares 13 = .ok (.aload_n 0, 1) := by decide +kernel
theorem d_Mod_shares_14 : decode b_Mod_shares 14 = .ok (.getfield 7, 3) := by decide +kernel
theorem d_Mod_shares_17 : decode b_Mod_shares 17 = .ok (.iload_n 1, 1) := by decide +kernel
theorem d_Mod_shares_18 : decode b_Mod_shares 18 = .ok (.iconst 0, 1) := by decide +kernel
theorem d_Mod_shares_19 : decode b_Mod_shares 19 = .ok (.invokestatic 43, 3) := by decide +kernel
theorem d_Mod_shares_22 : decode b_Mod_shares 22 = .ok (.iaload, 1) := by decide +kernel
theorem d_Mod_shares_23 : decode b_Mod_shares 23 = .ok (.ifCond .le 7, 3) := by decide +kernel
theorem d_Mod_shares_26 : decode b_Mod_shares 26 = .ok (.iconst 1, 1) := by decide +kernel
theorem d_Mod_shares_27 : decode b_Mod_shares 27 = .ok (.goto 4, 3) := by decide +kernel
theorem d_Mod_shares_30 : decode b_Mod_shares 30 = .ok (.iconst 0, 1) := by decide +kernel
theorem d_Mod_shares_31 : decode b_Mod_shares 31 = .ok (.ireturn, 1) := by decide +kernel
theorem d_Mod_layBonuses_0 : decode b_Mod_layBonuses 0 = .ok (.iconst 0, 1) := by decide +kernel
theorem d_Mod_layBonuses_1 : decode b_Mod_layBonuses 1 = .ok (.istore_n 1, 1) := by decide +kernel
theorem d_Mod_layBonuses_2 : decode b_Mod_layBonuses 2 = .ok (.iconst 0, 1) := by decide +kernel
theorem d_Mod_layBonuses_3 : decode b_Mod_layBonuses 3 = .ok (.istore_n 2, 1) := by decide +kernel
theorem d_Mod_layBonuses_4 : decode b_Mod_layBonuses 4 = .ok (.iload_n 2, 1) := by decide +kernel
theorem d_Mod_layBonuses_5 : decode b_Mod_layBonuses 5 = .ok (.aload_n 0, 1) := by decide +kernel
theorem d_Mod_layBonuses_6 : decode b_Mod_layBonuses 6 = .ok (.getfield 7, 3) := by decide +kernel
theorem d_Mod_layBonuses_9 : decode b_Mod_layBonuses 9 = .ok (.iconst 1, 1) := by decide +kernel
theorem d_Mod_layBonuses_10 : decode b_Mod_layBonuses 10 = .ok (.iaload, 1) := by decide +kernel
theorem d_Mod_layBonuses_11 : decode b_Mod_layBonuses 11 = .ok (.if_icmp .ge 34, 3) := by decide +kernel
theorem d_Mod_layBonuses_14 : decode b_Mod_layBonuses 14 = .ok (.iload_n 1, 1) := by decide +kernel
theorem d_Mod_layBonuses_15 : decode b_Mod_layBonuses 15 = .ok (.aload_n 0, 1) := by decide +kernel
theorem d_Mod_layBonuses_16 : decode b_Mod_layBonuses 16 = .ok (.iload_n 2, 1) := by decide +kernel
theorem d_Mod_layBonuses_17 : decode b_Mod_layBonuses 17 = .ok (.invokevirtual 117, 3) := by decide +kernel
theorem d_Mod_layBonuses_20 : decode b_Mod_layBonuses 20 = .ok (.ifCond .eq 16, 3) := by decide +kernel
theorem d_Mod_layBonuses_23 : decode b_Mod_layBonuses 23 = .ok (.aload_n 0, 1) := by decide +kernel
theorem d_Mod_layBonuses_24 : decode b_Mod_layBonuses 24 = .ok (.getfield 7, 3) := by decide +kernel
theorem d_Mod_layBonuses_27 : decode b_Mod_layBonuses 27 = .ok (.iload_n 2, 1) := by decide +kernel
theorem d_Mod_layBonuses_28 : decode b_Mod_layBonuses 28 = .ok (.iconst 0, 1) := by decide +kernel
theorem d_Mod_layBonuses_29 : decode b_Mod_layBonuses 29 = .ok (.invokestatic 43, 3) := by decide +kernel
theorem d_Mod_layBonuses_32 : decode b_Mod_layBonuses 32 = .ok (.iaload, 1) := by decide +kernel
theorem d_Mod_layBonuses_33 : decode b_Mod_layBonuses 33 = .ok (.goto 4, 3) := by decide +kernel
theorem d_Mod_layBonuses_36 : decode b_Mod_layBonuses 36 = .ok (.iconst 0, 1) := by decide +kernel
theorem d_Mod_layBonuses_37 : decode b_Mod_layBonuses 37 = .ok (.iadd, 1) := by decide +kernel
theorem d_Mod_layBonuses_38 : decode b_Mod_layBonuses 38 = .ok (.istore_n 1, 1) := by decide +kernel
theorem d_Mod_layBonuses_39 : decode b_Mod_layBonuses 39 = .ok (.iinc 2 1, 3) := by decide +kernel
theorem d_Mod_layBonuses_42 : decode b_Mod_layBonuses 42 = .ok (.goto (-38), 3) := by decide +kernel
theorem d_Mod_layBonuses_45 : decode b_Mod_layBonuses 45 = .ok (.iconst 0, 1) := by decide +kernel
theorem d_Mod_layBonuses_46 : decode b_Mod_layBonuses 46 = .ok (.istore_n 2, 1) := by decide +kernel
theorem d_Mod_layBonuses_47 : decode b_Mod_layBonuses 47 = .ok (.iload_n 2, 1) := by decide +kernel
theorem d_Mod_layBonuses_48 : decode b_Mod_layBonuses 48 = .ok (.aload_n 0, 1) := by decide +kernel
theorem d_Mod_layBonuses_49 : decode b_Mod_layBonuses 49 = .ok (.getfield 7, 3) := by decide +kernel
theorem d_Mod_layBonuses_52 : decode b_Mod_layBonuses 52 = .ok (.iconst 1, 1) := by decide +kernel
theorem d_Mod_layBonuses_53 : decode b_Mod_layBonuses 53 = .ok (.iaload, 1) := by decide +kernel
theorem d_Mod_layBonuses_54 : decode b_Mod_layBonuses 54 = .ok (.if_icmp .ge 51, 3) := by decide +kernel
theorem d_Mod_layBonuses_57 : decode b_Mod_layBonuses 57 = .ok (.aload_n 0, 1) := by decide +kernel
theorem d_Mod_layBonuses_58 : decode b_Mod_layBonuses 58 = .ok (.getfield 7, 3) := by decide +kernel
theorem d_Mod_layBonuses_61 : decode b_Mod_layBonuses 61 = .ok (.iload_n 2, 1) := by decide +kernel
theorem d_Mod_layBonuses_62 : decode b_Mod_layBonuses 62 = .ok (.bipush 12, 2) := by decide +kernel
theorem d_Mod_layBonuses_64 : decode b_Mod_layBonuses 64 = .ok (.invokestatic 43, 3) := by decide +kernel
theorem d_Mod_layBonuses_67 : decode b_Mod_layBonuses 67 = .ok (.aload_n 0, 1) := by decide +kernel
theorem d_Mod_layBonuses_68 : decode b_Mod_layBonuses 68 = .ok (.iload_n 2, 1) := by decide +kernel
theorem d_Mod_layBonuses_69 : decode b_Mod_layBonuses 69 = .ok (.invokevirtual 117, 3) := by decide +kernel
theorem d_Mod_layBonuses_72 : decode b_Mod_layBonuses 72 = .ok (.ifCond .eq 25, 3) := by decide +kernel
theorem d_Mod_layBonuses_75 : decode b_Mod_layBonuses 75 = .ok (.aload_n 0, 1) := by decide +kernel
theorem d_Mod_layBonuses_76 : decode b_Mod_layBonuses 76 = .ok (.getfield 7, 3) := by decide +kernel
theorem d_Mod_layBonuses_79 : decode b_Mod_layBonuses 79 = .ok (.iconst 4, 1) := by decide +kernel
theorem d_Mod_layBonuses_80 : decode b_Mod_layBonuses 80 = .ok (.iaload, 1) := by decide +kernel
theorem d_Mod_layBonuses_81 : decode b_Mod_layBonuses 81 = .ok (.aload_n 0, 1) := by decide +kernel
theorem d_Mod_layBonuses_82 : decode b_Mod_layBonuses 82 = .ok (.getfield 7, 3) := by decide +kernel
theorem d_Mod_layBonuses_85 : decode b_Mod_layBonuses 85 = .ok (.iload_n 2, 1) := by decide +kernel
theorem d_Mod_layBonuses_86 : decode b_Mod_layBonuses 86 = .ok (.iconst 0, 1) := by decide +kernel
theorem d_Mod_layBonuses_87 : decode b_Mod_layBonuses 87 = .ok (.invokestatic 43, 3) := by decide +kernel
theorem d_Mod_layBonuses_90 : decode b_Mod_layBonuses 90 = .ok (.iaload, 1) := by decide +kernel
theorem d_Mod_layBonuses_91 : decode b_Mod_layBonuses 91 = .ok (.imul, 1) := by decide +kernel
theorem d_Mod_layBonuses_92 : decode b_Mod_layBonuses 92 = .ok (.iload_n 1, 1) := by decide +kernel
theorem d_Mod_layBonuses_93 : decode b_Mod_layBonuses 93 = .ok (.idiv, 1) := by decide +kernel
theorem d_Mod_layBonuses_94 : decode b_Mod_layBonuses 94 = .ok (.goto 4, 3) := by decide +kernel
theorem d_Mod_layBonuses_97 : decode b_Mod_layBonuses 97 = .ok (.iconst 0, 1) := by decide +kernel
theorem d_Mod_layBonuses_98 : decode b_Mod_layBonuses 98 = .ok (.iastore, 1) := by decide +kernel
theorem d_Mod_layBonuses_99 : decode b_Mod_layBonuses 99 = .ok (.iinc 2 1, 3) := by decide +kernel
theorem d_Mod_layBonuses_102 : decode b_Mod_layBonuses 102 = .ok (.goto (-55), 3) := by decide +kernel
theorem d_Mod_layBonuses_105 : decode b_Mod_layBonuses 105 = .ok (.return_, 1) := by decide +kernel
theorem d_Mod_handOut_0 : decode b_Mod_handOut 0 = .ok (.aload_n 0, 1) := by decide +kernel
theorem d_Mod_handOut_1 : decode b_Mod_handOut 1 = .ok (.getfield 7, 3) := by decide +kernel
theorem d_Mod_handOut_4 : decode b_Mod_handOut 4 = .ok (.iload_n 1, 1) := by decide +kernel
theorem d_Mod_handOut_5 : decode b_Mod_handOut 5 = .ok (.iconst 0, 1) := by decide +kernel
theorem d_Mod_handOut_6 : decode b_Mod_handOut 6 = .ok (.invokestatic 20, 3) := by decide +kernel
theorem d_Mod_handOut_9 : decode b_Mod_handOut 9 = .ok (.iaload, 1) := by decide +kernel
theorem d_Mod_handOut_10 : decode b_Mod_handOut 10 = .ok (.istore_n 3, 1) := by decide +kernel
theorem d_Mod_handOut_11 : decode b_Mod_handOut 11 = .ok (.iload_n 2, 1) := by decide +kernel
theorem d_Mod_handOut_12 : decode b_Mod_handOut 12 = .ok (.istore 4, 2) := by decide +kernel
theorem d_Mod_handOut_14 : decode b_Mod_handOut 14 = .ok (.iload 4, 2) := by decide +kernel
theorem d_Mod_handOut_16 : decode b_Mod_handOut 16 = .ok (.bipush (-9), 2) := by decide +kernel
theorem d_Mod_handOut_18 : decode b_Mod_handOut 18 = .ok (.if_icmp .eq 29, 3) := by decide +kernel
theorem d_Mod_handOut_21 : decode b_Mod_handOut 21 = .ok (.aload_n 0, 1) := by decide +kernel
theorem d_Mod_handOut_22 : decode b_Mod_handOut 22 = .ok (.getfield 7, 3) := by decide +kernel
theorem d_Mod_handOut_25 : decode b_Mod_handOut 25 = .ok (.iload 4, 2) := by decide +kernel
theorem d_Mod_handOut_27 : decode b_Mod_handOut 27 = .ok (.iconst 0, 1) := by decide +kernel
theorem d_Mod_handOut_28 : decode b_Mod_handOut 28 = .ok (.invokestatic 43, 3) := by decide +kernel
theorem d_Mod_handOut_31 : decode b_Mod_handOut 31 = .ok (.iaload, 1) := by decide +kernel
theorem d_Mod_handOut_32 : decode b_Mod_handOut 32 = .ok (.iload_n 3, 1) := by decide +kernel
theorem d_Mod_handOut_33 : decode b_Mod_handOut 33 = .ok (.if_icmp .ge 14, 3) := by decide +kernel
theorem d_Mod_handOut_36 : decode b_Mod_handOut 36 = .ok (.aload_n 0, 1) := by decide +kernel
theorem d_Mod_handOut_37 : decode b_Mod_handOut 37 = .ok (.iload 4, 2) := by decide +kernel
theorem d_Mod_handOut_39 : decode b_Mod_handOut 39 = .ok (.invokevirtual 98, 3) := by decide +kernel
theorem d_Mod_handOut_42 : decode b_Mod_handOut 42 = .ok (.istore 4, 2) := by decide +kernel
theorem d_Mod_handOut_44 : decode b_Mod_handOut 44 = .ok (.goto (-30), 3) := by decide +kernel
theorem d_Mod_handOut_47 : decode b_Mod_handOut 47 = .ok (.iload 4, 2) := by decide +kernel
theorem d_Mod_handOut_49 : decode b_Mod_handOut 49 = .ok (.bipush (-9), 2) := by decide +kernel
theorem d_Mod_handOut_51 : decode b_Mod_handOut 51 = .ok (.if_icmp .ne 5, 3) := by decide +kernel
theorem d_Mod_handOut_54 : decode b_Mod_handOut 54 = .ok (.iconst 0, 1) := by decide +kernel
theorem d_Mod_handOut_55 : decode b_Mod_handOut 55 = .ok (.ireturn, 1) := by decide +kernel
theorem d_Mod_handOut_56 : decode b_Mod_handOut 56 = .ok (.aload_n 0, 1) := by decide +kernel
theorem d_Mod_handOut_57 : decode b_Mod_handOut 57 = .ok (.getfield 7, 3) := by decide +kernel
theorem d_Mod_handOut_60 : decode b_Mod_handOut 60 = .ok (.iload 4, 2) := by decide +kernel
theorem d_Mod_handOut_62 : decode b_Mod_handOut 62 = .ok (.iconst 0, 1) := by decide +kernel
theorem d_Mod_handOut_63 : decode b_Mod_handOut 63 = .ok (.invokestatic 43, 3) := by decide +kernel
theorem d_Mod_handOut_66 : decode b_Mod_handOut 66 = .ok (.dup2, 1) := by decide +kernel
theorem d_Mod_handOut_67 : decode b_Mod_handOut 67 = .ok (.iaload, 1) := by decide +kernel
theorem d_Mod_handOut_68 : decode b_Mod_handOut 68 = .ok (.iload_n 3, 1) := by decide +kernel
theorem d_Mod_handOut_69 : decode b_Mod_handOut 69 = .ok (.isub, 1) := by decide +kernel
theorem d_Mod_handOut_70 : decode b_Mod_handOut 70 = .ok (.iastore, 1) := by decide +kernel
theorem d_Mod_handOut_71 : decode b_Mod_handOut 71 = .ok (.aload_n 0, 1) := by decide +kernel
theorem d_Mod_handOut_72 : decode b_Mod_handOut 72 = .ok (.getfield 7, 3) := by decide +kernel
theorem d_Mod_handOut_75 : decode b_Mod_handOut 75 = .ok (.iconst 3, 1) := by decide +kernel
theorem d_Mod_handOut_76 : decode b_Mod_handOut 76 = .ok (.dup2, 1) := by decide +kernel
theorem d_Mod_handOut_77 : decode b_Mod_handOut 77 = .ok (.iaload, 1) := by decide +kernel
theorem d_Mod_handOut_78 : decode b_Mod_handOut 78 = .ok (.bipush 10, 2) := by decide +kernel
theorem d_Mod_handOut_80 : decode b_Mod_handOut 80 = .ok (.iload_n 3, 1) := by decide +kernel
theorem d_Mod_handOut_81 : decode b_Mod_handOut 81 = .ok (.imul, 1) := by decide +kernel
theorem d_Mod_handOut_82 : decode b_Mod_handOut 82 = .ok (.isub, 1) := by decide +kernel
theorem d_Mod_handOut_83 : decode b_Mod_handOut 83 = .ok (.iastore, 1) := by decide +kernel
theorem d_Mod_handOut_84 : decode b_Mod_handOut 84 = .ok (.aload_n 0, 1) := by decide +kernel
theorem d_Mod_handOut_85 : decode b_Mod_handOut 85 = .ok (.getfield 7, 3) := by decide +kernel
theorem d_Mod_handOut_88 : decode b_Mod_handOut 88 = .ok (.bipush 7, 2) := by decide +kernel
theorem d_Mod_handOut_90 : decode b_Mod_handOut 90 = .ok (.dup2, 1) := by decide +kernel
theorem d_Mod_handOut_91 : decode b_Mod_handOut 91 = .ok (.iaload, 1) := by decide +kernel
theorem d_Mod_handOut_92 : decode b_Mod_handOut 92 = .ok (.bipush 10, 2) := by decide +kernel
theorem d_Mod_handOut_94 : decode b_Mod_handOut 94 = .ok (.iload_n 3, 1) := by decide +kernel
theorem d_Mod_handOut_95 : decode b_Mod_handOut 95 = .ok (.imul, 1) := by decide +kernel
theorem d_Mod_handOut_96 : decode b_Mod_handOut 96 = .ok (.iadd, 1) := by decide +kernel
theorem d_Mod_handOut_97 : decode b_Mod_handOut 97 = .ok (.iastore, 1) := by decide +kernel
theorem d_Mod_handOut_98 : decode b_Mod_handOut 98 = .ok (.aload_n 0, 1) := by decide +kernel
theorem d_Mod_handOut_99 : decode b_Mod_handOut 99 = .ok (.getfield 7, 3) := by decide +kernel
theorem d_Mod_handOut_102 : decode b_Mod_handOut 102 = .ok (.iload 4, 2) := by decide +kernel
theorem d_Mod_handOut_104 : decode b_Mod_handOut 104 = .ok (.bipush 11, 2) := by decide +kernel
theorem d_Mod_handOut_106 : decode b_Mod_handOut 106 = .ok (.invokestatic 43, 3) := by decide +kernel
theorem d_Mod_handOut_109 : decode b_Mod_handOut 109 = .ok (.iload_n 1, 1) := by decide +kernel
theorem d_Mod_handOut_110 : decode b_Mod_handOut 110 = .ok (.iastore, 1) := by decide +kernel
theorem d_Mod_handOut_111 : decode b_Mod_handOut 111 = .ok (.aload_n 0, 1) := by decide +kernel
theorem d_Mod_handOut_112 : decode b_Mod_handOut 112 = .ok (.getfield 7, 3) := by decide +kernel
theorem d_Mod_handOut_115 : decode b_Mod_handOut 115 = .ok (.iload 4, 2) := by decide +kernel
theorem d_Mod_handOut_117 : decode b_Mod_handOut 117 = .ok (.iconst 3, 1) := by decide +kernel
theorem d_Mod_handOut_118 : decode b_Mod_handOut 118 = .ok (.invokestatic 43, 3) := by decide +kernel
theorem d_Mod_handOut_121 : decode b_Mod_handOut 121 = .ok (.bipush (-9), 2) := by decide +kernel
theorem d_Mod_handOut_123 : decode b_Mod_handOut 123 = .ok (.iastore, 1) := by decide +kernel
theorem d_Mod_handOut_124 : decode b_Mod_handOut 124 = .ok (.aload_n 0, 1) := by decide +kernel
theorem d_Mod_handOut_125 : decode b_Mod_handOut 125 = .ok (.getfield 7, 3) := by decide +kernel
theorem d_Mod_handOut_128 : decode b_Mod_handOut 128 = .ok (.iload 4, 2) := by decide +kernel
theorem d_Mod_handOut_130 : decode b_Mod_handOut 130 = .ok (.iconst 4, 1) := by decide +kernel
theorem d_Mod_handOut_131 : decode b_Mod_handOut 131 = .ok (.invokestatic 43, 3) := by decide +kernel
theorem d_Mod_handOut_134 : decode b_Mod_handOut 134 = .ok (.iconst 0, 1) := by decide +kernel
theorem d_Mod_handOut_135 : decode b_Mod_handOut 135 = .ok (.iastore, 1) := by decide +kernel
theorem d_Mod_handOut_136 : decode b_Mod_handOut 136 = .ok (.iconst 1, 1) := by decide +kernel
theorem d_Mod_handOut_137 : decode b_Mod_handOut 137 = .ok (.ireturn, 1) := by decide +kernel
theorem d_Mod_doSettle_0 : decode b_Mod_doSettle 0 = .ok (.iconst 0, 1) := by decide +kernel
theorem d_Mod_doSettle_1 : decode b_Mod_doSettle 1 = .ok (.istore_n 1, 1) := by decide +kernel
theorem d_Mod_doSettle_2 : decode b_Mod_doSettle 2 = .ok (.aload_n 0, 1) := by decide +kernel
theorem d_Mod_doSettle_3 : decode b_Mod_doSettle 3 = .ok (.invokevirtual 120, 3) := by decide +kernel
theorem d_Mod_doSettle_6 : decode b_Mod_doSettle 6 = .ok (.iconst 0, 1) := by decide +kernel
theorem d_Mod_doSettle_7 : decode b_Mod_doSettle 7 = .ok (.istore_n 2, 1) := by decide +kernel
theorem d_Mod_doSettle_8 : decode b_Mod_doSettle 8 = .ok (.iload_n 2, 1) := by decide +kernel
theorem d_Mod_doSettle_9 : decode b_Mod_doSettle 9 = .ok (.iconst 4, 1) := by decide +kernel
theorem d_Mod_doSettle_10 : decode b_Mod_doSettle 10 = .ok (.if_icmp .ge 110, 3) := by decide +kernel
theorem d_Mod_doSettle_13 : decode b_Mod_doSettle 13 = .ok (.iconst 0, 1) := by decide +kernel
theorem d_Mod_doSettle_14 : decode b_Mod_doSettle 14 = .ok (.istore_n 3, 1) := by decide +kernel
theorem d_Mod_doSettle_15 : decode b_Mod_doSettle 15 = .ok (.iload_n 3, 1) := by decide +kernel
theorem d_Mod_doSettle_16 : decode b_Mod_doSettle 16 = .ok (.aload_n 0, 1) := by decide +kernel
theorem d_Mod_doSettle_17 : decode b_Mod_doSettle 17 = .ok (.getfield 7, 3) := by decide +kernel
theorem d_Mod_doSettle_20 : decode b_Mod_doSettle 20 = .ok (.iconst 1, 1) := by decide +kernel
theorem d_Mod_doSettle_21 : decode b_Mod_doSettle 21 = .ok (.iaload, 1) := by decide +kernel
theorem d_Mod_doSettle_22 : decode b_Mod_doSettle 22 = .ok (.if_icmp .ge 48, 3) := by decide +kernel
theorem d_Mod_doSettle_25 : decode b_Mod_doSettle 25 = .ok (.aload_n 0, 1) := by decide +kernel
theorem d_Mod_doSettle_26 : decode b_Mod_doSettle 26 = .ok (.getfield 16, 3) := by decide +kernel
theorem d_Mod_doSettle_29 : decode b_Mod_doSettle 29 = .ok (.iload_n 3, 1) := by decide +kernel
theorem d_Mod_doSettle_30 : decode b_Mod_doSettle 30 = .ok (.aload_n 0, 1) := by decide +kernel
theorem d_Mod_doSettle_31 : decode b_Mod_doSettle 31 = .ok (.getfield 7, 3) := by decide +kernel
theorem d_Mod_doSettle_34 : decode b_Mod_doSettle 34 = .ok (.iload_n 3, 1) := by decide +kernel
theorem d_Mod_doSettle_35 : decode b_Mod_doSettle 35 = .ok (.iconst 3, 1) := by decide +kernel
theorem d_Mod_doSettle_36 : decode b_Mod_doSettle 36 = .ok (.invokestatic 43, 3) := by decide +kernel
theorem d_Mod_doSettle_39 : decode b_Mod_doSettle 39 = .ok (.iaload, 1) := by decide +kernel
theorem d_Mod_doSettle_40 : decode b_Mod_doSettle 40 = .ok (.iload_n 2, 1) := by decide +kernel
theorem d_Mod_doSettle_41 : decode b_Mod_doSettle 41 = .ok (.if_icmp .ne 21, 3) := by decide +kernel
theorem d_Mod_doSettle_44 : decode b_Mod_doSettle 44 = .ok (.aload_n 0, 1) := by decide +kernel
theorem d_Mod_doSettle_45 : decode b_Mod_doSettle 45 = .ok (.getfield 7, 3) := by decide +kernel
theorem d_Mod_doSettle_48 : decode b_Mod_doSettle 48 = .ok (.iload_n 3, 1) := by decide +kernel
theorem d_Mod_doSettle_49 : decode b_Mod_doSettle 49 = .ok (.iconst 4, 1) := by decide +kernel
theorem d_Mod_doSettle_50 : decode b_Mod_doSettle 50 = .ok (.invokestatic 43, 3) := by decide +kernel
theorem d_Mod_doSettle_53 : decode b_Mod_doSettle 53 = .ok (.iaload, 1) := by decide +kernel
theorem d_Mod_doSettle_54 : decode b_Mod_doSettle 54 = .ok (.iconst 1, 1) := by decide +kernel
theorem d_Mod_doSettle_55 : decode b_Mod_doSettle 55 = .ok (.if_icmp .ne 7, 3) := by decide +kernel
theorem d_Mod_doSettle_58 : decode b_Mod_doSettle 58 = .ok (.iconst 1, 1) := by decide +kernel
theorem d_Mod_doSettle_59 : decode b_Mod_doSettle 59 = .ok (.goto 4, 3) := by decide +kernel
theorem d_Mod_doSettle_62 : decode b_Mod_doSettle 62 = .ok (.iconst 0, 1) := by decide +kernel
theorem d_Mod_doSettle_63 : decode b_Mod_doSettle 63 = .ok (.bastore, 1) := by decide +kernel
theorem d_Mod_doSettle_64 : decode b_Mod_doSettle 64 = .ok (.iinc 3 1, 3) := by decide +kernel
theorem d_Mod_doSettle_67 : decode b_Mod_doSettle 67 = .ok (.goto (-52), 3) := by decide +kernel
theorem d_Mod_doSettle_70 : decode b_Mod_doSettle 70 = .ok (.iconst 0, 1) := by decide +kernel
theorem d_Mod_doSettle_71 : decode b_Mod_doSettle 71 = .ok (.istore_n 3, 1) := by decide +kernel
theorem d_Mod_doSettle_72 : decode b_Mod_doSettle 72 = .ok (.iload_n 3, 1) := by decide +kernel
theorem d_Mod_doSettle_73 : decode b_Mod_doSettle 73 = .ok (.aload_n 0, 1) := by decide +kernel
theorem d_Mod_doSettle_74 : decode b_Mod_doSettle 74 = .ok (.getfield 7, 3) := by decide +kernel
theorem d_Mod_doSettle_77 : decode b_Mod_doSettle 77 = .ok (.iconst 1, 1) := by decide +kernel
theorem d_Mod_doSettle_78 : decode b_Mod_doSettle 78 = .ok (.iaload, 1) := by decide +kernel
theorem d_Mod_doSettle_79 : decode b_Mod_doSettle 79 = .ok (.if_icmp .ge 35, 3) := by decide +kernel
theorem d_Mod_doSettle_82 : decode b_Mod_doSettle 82 = .ok (.iload_n 1, 1) := by decide +kernel
theorem d_Mod_doSettle_83 : decode b_Mod_doSettle 83 = .ok (.aload_n 0, 1) := by decide +kernel
theorem d_Mod_doSettle_84 : decode b_Mod_doSettle 84 = .ok (.getfield 16, 3) := by decide +kernel
theorem d_Mod_doSettle_87 : decode b_Mod_doSettle 87 = .ok (.iload_n 3, 1) := by decide +kernel
theorem d_Mod_doSettle_88 : decode b_Mod_doSettle 88 = .ok (.baload, 1) := by decide +kernel
theorem d_Mod_doSettle_89 : decode b_Mod_doSettle 89 = .ok (.ifCond .eq 16, 3) := by decide +kernel
theorem d_Mod_doSettle_92 : decode b_Mod_doSettle 92 = .ok (.aload_n 0, 1) := by decide +kernel
theorem d_Mod_doSettle_93 : decode b_Mod_doSettle 93 = .ok (.iload_n 2, 1) := by decide +kernel
theorem d_Mod_doSettle_94 : decode b_Mod_doSettle 94 = .ok (.iload_n 3, 1) := by decide +kernel
theorem d_Mod_doSettle_95 : decode b_Mod_doSettle 95 = .ok (.invokevirtual 123, 3) := by decide +kernel
theorem d_Mod_doSettle_98 : decode b_Mod_doSettle 98 = .ok (.ifCond .eq 7, 3) := by decide +kernel
theorem d_Mod_doSettle_101 : decode b_Mod_doSettle 101 = .ok (.iconst 1, 1) := by decide +kernel
theorem d_Mod_doSettle_102 : decode b_Mod_doSettle 102 = .ok (.goto 4, 3) := by decide +kernel
theorem d_Mod_doSettle_105 : decode b_Mod_doSettle 105 = .ok (.iconst 0, 1) := by decide +kernel
theorem d_Mod_doSettle_106 : decode b_Mod_doSettle 106 = .ok (.iadd, 1) := by decide +kernel
theorem d_Mod_doSettle_107 : decode b_Mod_doSettle 107 = .ok (.istore_n 1, 1) := by decide +kernel
theorem d_Mod_doSettle_108 : decode b_Mod_doSettle 108 = .ok (.iinc 3 1, 3) := by decide +kernel
theorem d_Mod_doSettle_111 : decode b_Mod_doSettle 111 = .ok (.goto (-39), 3) := by decide +kernel
theorem d_Mod_doSettle_114 : decode b_Mod_doSettle 114 = .ok (.iinc 2 1, 3) := by decide +kernel
theorem d_Mod_doSettle_117 : decode b_Mod_doSettle 117 = .ok (.goto (-109), 3) := by decide +kernel
theorem d_Mod_doSettle_120 : decode b_Mod_doSettle 120 = .ok (.iconst 0, 1) := by decide +kernel
theorem d_Mod_doSettle_121 : decode b_Mod_doSettle 121 = .ok (.istore_n 2, 1) := by decide +kernel
theorem d_Mod_doSettle_122 : decode b_Mod_doSettle 122 = .ok (.iload_n 2, 1) := by decide +kernel
theorem d_Mod_doSettle_123 : decode b_Mod_doSettle 123 = .ok (.aload_n 0, 1) := by decide +kernel
theorem d_Mod_doSettle_124 : decode b_Mod_doSettle 124 = .ok (.getfield 7, 3) := by decide +kernel
theorem d_Mod_doSettle_127 : decode b_Mod_doSettle 127 = .ok (.iconst 1, 1) := by decide +kernel
theorem d_Mod_doSettle_128 : decode b_Mod_doSettle 128 = .ok (.iaload, 1) := by decide +kernel
theorem d_Mod_doSettle_129 : decode b_Mod_doSettle 129 = .ok (.if_icmp .ge 84, 3) := by decide +kernel
theorem d_Mod_doSettle_132 : decode b_Mod_doSettle 132 = .ok (.aload_n 0, 1) := by decide +kernel
theorem d_Mod_doSettle_133 : decode b_Mod_doSettle 133 = .ok (.iload_n 2, 1) := by decide +kernel
theorem d_Mod_doSettle_134 : decode b_Mod_doSettle 134 = .ok (.bipush 10, 2) := by decide +kernel
theorem d_Mod_doSettle_136 : decode b_Mod_doSettle 136 = .ok (.aload_n 0, 1) := by decide +kernel
theorem d_Mod_doSettle_137 : decode b_Mod_doSettle 137 = .ok (.getfield 7, 3) := by decide +kernel
theorem d_Mod_doSettle_140 : decode b_Mod_doSettle 140 = .ok (.iload_n 2, 1) := by decide +kernel
theorem d_Mod_doSettle_141 : decode b_Mod_doSettle 141 = .ok (.iconst 0, 1) := by decide +kernel
theorem d_Mod_doSettle_142 : decode b_Mod_doSettle 142 = .ok (.invokestatic 43, 3) := by decide +kernel
theorem d_Mod_doSettle_145 : decode b_Mod_doSettle 145 = .ok (.iaload, 1) := by decide +kernel
theorem d_Mod_doSettle_146 : decode b_Mod_doSettle 146 = .ok (.imul, 1) := by decide +kernel
theorem d_Mod_doSettle_147 : decode b_Mod_doSettle 147 = .ok (.aload_n 0, 1) := by decide +kernel
theorem d_Mod_doSettle_148 : decode b_Mod_doSettle 148 = .ok (.getfield 7, 3) := by decide +kernel
theorem d_Mod_doSettle_151 : decode b_Mod_doSettle 151 = .ok (.iload_n 2, 1) := by decide +kernel
theorem d_Mod_doSettle_152 : decode b_Mod_doSettle 152 = .ok (.bipush 12, 2) := by decide +kernel
theorem d_Mod_doSettle_154 : decode b_Mod_doSettle 154 = .ok (.invokestatic 43, 3) := by decide +kernel
theorem d_Mod_doSettle_157 : decode b_Mod_doSettle 157 = .ok (.iaload, 1) := by decide +kernel
theorem d_Mod_doSettle_158 : decode b_Mod_doSettle 158 = .ok (.iadd, 1) := by decide +kernel
theorem d_Mod_doSettle_159 : decode b_Mod_doSettle 159 = .ok (.invokevirtual 63, 3) := by decide +kernel
theorem d_Mod_doSettle_162 : decode b_Mod_doSettle 162 = .ok (.aload_n 0, 1) := by decide +kernel
theorem d_Mod_doSettle_163 : decode b_Mod_doSettle 163 = .ok (.getfield 7, 3) := by decide +kernel
theorem d_Mod_doSettle_166 : decode b_Mod_doSettle 166 = .ok (.iload_n 2, 1) := by decide +kernel
theorem d_Mod_doSettle_167 : decode b_Mod_doSettle 167 = .ok (.iconst 0, 1) := by decide +kernel
theorem d_Mod_doSettle_168 : decode b_Mod_doSettle 168 = .ok (.invokestatic 43, 3) := by decide +kernel
theorem d_Mod_doSettle_171 : decode b_Mod_doSettle 171 = .ok (.iconst 0, 1) := by decide +kernel
theorem d_Mod_doSettle_172 : decode b_Mod_doSettle 172 = .ok (.iastore, 1) := by decide +kernel
theorem d_Mod_doSettle_173 : decode b_Mod_doSettle 173 = .ok (.aload_n 0, 1) := by decide +kernel
theorem d_Mod_doSettle_174 : decode b_Mod_doSettle 174 = .ok (.getfield 7, 3) := by decide +kernel
theorem d_Mod_doSettle_177 : decode b_Mod_doSettle 177 = .ok (.iload_n 2, 1) := by decide +kernel
theorem d_Mod_doSettle_178 : decode b_Mod_doSettle 178 = .ok (.iconst 1, 1) := by decide +kernel
theorem d_Mod_doSettle_179 : decode b_Mod_doSettle 179 = .ok (.invokestatic 43, 3) := by decide +kernel
theorem d_Mod_doSettle_182 : decode b_Mod_doSettle 182 = .ok (.iconst 2, 1) := by decide +kernel
theorem d_Mod_doSettle_183 : decode b_Mod_doSettle 183 = .ok (.iastore, 1) := by decide +kernel
theorem d_Mod_doSettle_184 : decode b_Mod_doSettle 184 = .ok (.aload_n 0, 1) := by decide +kernel
theorem d_Mod_doSettle_185 : decode b_Mod_doSettle 185 = .ok (.getfield 7, 3) := by decide +kernel
theorem d_Mod_doSettle_188 : decode b_Mod_doSettle 188 = .ok (.iload_n 2, 1) := by decide +kernel
theorem d_Mod_doSettle_189 : decode b_Mod_doSettle 189 = .ok (.iconst 3, 1) := by decide +kernel
theorem d_Mod_doSettle_190 : decode b_Mod_doSettle 190 = .ok (.invokestatic 43, 3) := by decide +kernel
theorem d_Mod_doSettle_193 : decode b_Mod_doSettle 193 = .ok (.bipush (-9), 2) := by decide +kernel
theorem d_Mod_doSettle_195 : decode b_Mod_doSettle 195 = .ok (.iastore, 1) := by decide +kernel
theorem d_Mod_doSettle_196 : decode b_Mod_doSettle 196 = .ok (.aload_n 0, 1) := by decide +kernel
theorem d_Mod_doSettle_197 : decode b_Mod_doSettle 197 = .ok (.getfield 7, 3) := by decide +kernel
theorem d_Mod_doSettle_200 : decode b_Mod_doSettle 200 = .ok (.iload_n 2, 1) := by decide +kernel
theorem d_Mod_doSettle_201 : decode b_Mod_doSettle 201 = .ok (.iconst 4, 1) := by decide +kernel
theorem d_Mod_doSettle_202 : decode b_Mod_doSettle 202 = .ok (.invokestatic 43, 3) := by decide +kernel
theorem d_Mod_doSettle_205 : decode b_Mod_doSettle 205 = .ok (.iconst 0, 1) := by decide +kernel
theorem d_Mod_doSettle_206 : decode b_Mod_doSettle 206 = .ok (.iastore, 1) := by decide +kernel
theorem d_Mod_doSettle_207 : decode b_Mod_doSettle 207 = .ok (.iinc 2 1, 3) := by decide +kernel
theorem d_Mod_doSettle_210 : decode b_Mod_doSettle 210 = .ok (.goto (-88), 3) := by decide +kernel
theorem d_Mod_doSettle_213 : decode b_Mod_doSettle 213 = .ok (.iconst 0, 1) := by decide +kernel
theorem d_Mod_doSettle_214 : decode b_Mod_doSettle 214 = .ok (.istore_n 2, 1) := by decide +kernel
theorem d_Mod_doSettle_215 : decode b_Mod_doSettle 215 = .ok (.iload_n 2, 1) := by decide +kernel
theorem d_Mod_doSettle_216 : decode b_Mod_doSettle 216 = .ok (.iconst 4, 1) := by decide +kernel
theorem d_Mod_doSettle_217 : decode b_Mod_doSettle 217 = .ok (.if_icmp .ge 20, 3) := by decide +kernel
theorem d_Mod_doSettle_220 : decode b_Mod_doSettle 220 = .ok (.aload_n 0, 1) := by decide +kernel
theorem d_Mod_doSettle_221 : decode b_Mod_doSettle 221 = .ok (.getfield 7, 3) := by decide +kernel
theorem d_Mod_doSettle_224 : decode b_Mod_doSettle 224 = .ok (.iload_n 2, 1) := by decide +kernel
theorem d_Mod_doSettle_225 : decode b_Mod_doSettle 225 = .ok (.iconst 2, 1) := by decide +kernel
theorem d_Mod_doSettle_226 : decode b_Mod_doSettle 226 = .ok (.invokestatic 20, 3) := by decide +kernel
theorem d_Mod_doSettle_229 : decode b_Mod_doSettle 229 = .ok (.iconst 0, 1) := by decide +kernel
theorem d_Mod_doSettle_230 : decode b_Mod_doSettle 230 = .ok (.iastore, 1) := by decide +kernel
theorem d_Mod_doSettle_231 : decode b_Mod_doSettle 231 = .ok (.iinc 2 1, 3) := by decide +kernel
theorem d_Mod_doSettle_234 : decode b_Mod_doSettle 234 = .ok (.goto (-19), 3) := by decide +kernel
theorem d_Mod_doSettle_237 : decode b_Mod_doSettle 237 = .ok (.aload_n 0, 1) := by decide +kernel
theorem d_Mod_doSettle_238 : decode b_Mod_doSettle 238 = .ok (.getfield 7, 3) := by decide +kernel
theorem d_Mod_doSettle_241 : decode b_Mod_doSettle 241 = .ok (.bipush 8, 2) := by decide +kernel
theorem d_Mod_doSettle_243 : decode b_Mod_doSettle 243 = .ok (.dup2, 1) := by decide +kernel
theorem d_Mod_doSettle_244 : decode b_Mod_doSettle 244 = .ok (.iaload, 1) := by decide +kernel
theorem d_Mod_doSettle_245 : decode b_Mod_doSettle 245 = .ok (.iload_n 1, 1) := by decide +kernel
theorem d_Mod_doSettle_246 : decode b_Mod_doSettle 246 = .ok (.iadd, 1) := by decide +kernel
theorem d_Mod_doSettle_247 : decode b_Mod_doSettle 247 = .ok (.iastore, 1) := by decide +kernel
theorem d_Mod_doSettle_248 : decode b_Mod_doSettle 248 = .ok (.aload_n 0, 1) := by decide +kernel
theorem d_Mod_doSettle_249 : decode b_Mod_doSettle 249 = .ok (.getfield 7, 3) := by decide +kernel
theorem d_Mod_doSettle_252 : decode b_Mod_doSettle 252 = .ok (.iconst 4, 1) := by decide +kernel
theorem d_Mod_doSettle_253 : decode b_Mod_doSettle 253 = .ok (.iconst 0, 1) := by decide +kernel
theorem d_Mod_doSettle_254 : decode b_Mod_doSettle 254 = .ok (.iastore, 1) := by decide +kernel
theorem d_Mod_doSettle_255 : decode b_Mod_doSettle 255 = .ok (.aload_n 0, 1) := by decide +kernel
theorem d_Mod_doSettle_256 : decode b_Mod_doSettle 256 = .ok (.getfield 7, 3) := by decide +kernel
theorem d_Mod_doSettle_259 : decode b_Mod_doSettle 259 = .ok (.iconst 2, 1) := by decide +kernel
theorem d_Mod_doSettle_260 : decode b_Mod_doSettle 260 = .ok (.iconst 1, 1) := by decide +kernel
theorem d_Mod_doSettle_261 : decode b_Mod_doSettle 261 = .ok (.iastore, 1) := by decide +kernel
theorem d_Mod_doSettle_262 : decode b_Mod_doSettle 262 = .ok (.iload_n 1, 1) := by decide +kernel
theorem d_Mod_doSettle_263 : decode b_Mod_doSettle 263 = .ok (.ireturn, 1) := by decide +kernel
theorem d_Mod_settle_0 : decode b_Mod_settle 0 = .ok (.aload_n 0, 1) := by decide +kernel
theorem d_Mod_settle_1 : decode b_Mod_settle 1 = .ok (.invokevirtual 39, 3) := by decide +kernel
theorem d_Mod_settle_4 : decode b_Mod_settle 4 = .ok (.ifCond .eq 6, 3) := by decide +kernel
theorem d_Mod_settle_7 : decode b_Mod_settle 7 = .ok (.bipush (-2), 2) := by decide +kernel
theorem d_Mod_settle_9 : decode b_Mod_settle 9 = .ok (.ireturn, 1) := by decide +kernel
theorem d_Mod_settle_10 : decode b_Mod_settle 10 = .ok (.aload_n 0, 1) := by decide +kernel
theorem d_Mod_settle_11 : decode b_Mod_settle 11 = .ok (.invokevirtual 36, 3) := by decide +kernel
theorem d_Mod_settle_14 : decode b_Mod_settle 14 = .ok (.aload_n 0, 1) := by decide +kernel
theorem d_Mod_settle_15 : decode b_Mod_settle 15 = .ok (.invokevirtual 126, 3) := by decide +kernel
theorem d_Mod_settle_18 : decode b_Mod_settle 18 = .ok (.ireturn, 1) := by decide +kernel
theorem d_Mod_append_0 : decode b_Mod_append 0 = .ok (.iload_n 1, 1) := by decide +kernel
theorem d_Mod_append_1 : decode b_Mod_append 1 = .ok (.iconst 1, 1) := by decide +kernel
theorem d_Mod_append_2 : decode b_Mod_append 2 = .ok (.sipush 255, 3) := by decide +kernel
theorem d_Mod_append_5 : decode b_Mod_append 5 = .ok (.invokestatic 24, 3) := by decide +kernel
theorem d_Mod_append_8 : decode b_Mod_append 8 = .ok (.ifCond .ne 5, 3) := by decide +kernel
theorem d_Mod_append_11 : decode b_Mod_append 11 = .ok (.iconst (-1), 1) := by decide +kernel
theorem d_Mod_append_12 : decode b_Mod_append 12 = .ok (.ireturn, 1) := by decide +kernel
theorem d_Mod_append_13 : decode b_Mod_append 13 = .ok (.aload_n 0, 1) := by decide +kernel
theorem d_Mod_append_14 : decode b_Mod_append 14 = .ok (.getfield 129, 3) := by decide +kernel
theorem d_Mod_append_17 : decode b_Mod_append 17 = .ok (.bipush 100, 2) := by decide +kernel
theorem d_Mod_append_19 : decode b_Mod_append 19 = .ok (.if_icmp .ne 6, 3) := by decide +kernel
theorem d_Mod_append_22 : decode b_Mod_append 22 = .ok (.bipush (-3), 2) := by decide +kernel
theorem d_Mod_append_24 : decode b_Mod_append 24 = .ok (.ireturn, 1) := by decide +kernel
theorem d_Mod_append_25 : decode b_Mod_append 25 = .ok (.aload_n 0, 1) := by decide +kernel
theorem d_Mod_append_26 : decode b_Mod_append 26 = .ok (.getfield 13, 3) := by decide +kernel
theorem d_Mod_append_29 : decode b_Mod_append 29 = .ok (.aload_n 0, 1) := by decide +kernel
theorem d_Mod_append_30 : decode b_Mod_append 30 = .ok (.getfield 129, 3) := by decide +kernel
theorem d_Mod_append_33 : decode b_Mod_append 33 = .ok (.iload_n 1, 1) := by decide +kernel
theorem d_Mod_append_34 : decode b_Mod_append 34 = .ok (.iastore, 1) := by decide +kernel
theorem d_Mod_append_35 : decode b_Mod_append 35 = .ok (.aload_n 0, 1) := by decide +kernel
theorem d_Mod_append_36 : decode b_Mod_append 36 = .ok (.dup, 1) := by decide +kernel
theorem d_Mod_append_37 : decode b_Mod_append 37 = .ok (.getfield 129, 3) := by decide +kernel
theorem d_Mod_append_40 : decode b_Mod_append 40 = .ok (.iconst 1, 1) := by decide +kernel
theorem d_Mod_append_41 : decode b_Mod_append 41 = .ok (.iadd, 1) := by decide +kernel
theorem d_Mod_append_42 : decode b_Mod_append 42 = .ok (.putfield 129, 3) := by decide +kernel
theorem d_Mod_append_45 : decode b_Mod_append 45 = .ok (.aload_n 0, 1) := by decide +kernel
theorem d_Mod_append_46 : decode b_Mod_append 46 = .ok (.getfield 129, 3) := by decide +kernel
theorem d_Mod_append_49 : decode b_Mod_append 49 = .ok (.ireturn, 1) := by decide +kernel
theorem d_Mod_clearText_0 : decode b_Mod_clearText 0 = .ok (.aload_n 0, 1) := by decide +kernel
theorem d_Mod_clearText_1 : decode b_Mod_clearText 1 = .ok (.getfield 129, 3) := by decide +kernel
theorem d_Mod_clearText_4 : decode b_Mod_clearText 4 = .ok (.istore_n 1, 1) := by decide +kernel
theorem d_Mod_clearText_5 : decode b_Mod_clearText 5 = .ok (.aload_n 0, 1) := by decide +kernel
theorem d_Mod_clearText_6 : decode b_Mod_clearText 6 = .ok (.iconst 0, 1) := by decide +kernel
theorem d_Mod_clearText_7 : decode b_Mod_clearText 7 = .ok (.putfield 129, 3) := by decide +kernel
theorem d_Mod_clearText_10 : decode b_Mod_clearText 10 = .ok (.iload_n 1, 1) := by decide +kernel
theorem d_Mod_clearText_11 : decode b_Mod_clearText 11 = .ok (.ireturn, 1) := by decide +kernel
theorem d_Mod_code_0 : decode b_Mod_code 0 = .ok (.aload_n 0, 1) := by decide +kernel
theorem d_Mod_code_1 : decode b_Mod_code 1 = .ok (.getfield 132, 3) := by decide +kernel
theorem d_Mod_code_4 : decode b_Mod_code 4 = .ok (.aload_n 0, 1) := by decide +kernel
theorem d_Mod_code_5 : decode b_Mod_code 5 = .ok (.getfield 129, 3) := by decide +kernel
theorem d_Mod_code_8 : decode b_Mod_code 8 = .ok (.if_icmp .ge 15, 3) := by decide +kernel
theorem d_Mod_code_11 : decode b_Mod_code 11 = .ok (.aload_n 0, 1) := by decide +kernel
theorem d_Mod_code_12 : decode b_Mod_code 12 = .ok (.getfield 13, 3) := by decide +kernel
theorem d_Mod_code_15 : decode b_Mod_code 15 = .ok (.aload_n 0, 1) := by decide +kernel
theorem d_Mod_code_16 : decode b_Mod_code 16 = .ok (.getfield 132, 3) := by decide +kernel
theorem d_Mod_code_19 : decode b_Mod_code 19 = .ok (.iaload, 1) := by decide +kernel
theorem d_Mod_code_20 : decode b_Mod_code 20 = .ok (.goto 4, 3) := by decide +kernel
theorem d_Mod_code_23 : decode b_Mod_code 23 = .ok (.iconst 0, 1) := by decide +kernel
theorem d_Mod_code_24 : decode b_Mod_code 24 = .ok (.ireturn, 1) := by decide +kernel
theorem d_Mod_number_0 : decode b_Mod_number 0 = .ok (.iconst 0, 1) := by decide +kernel
theorem d_Mod_number_1 : decode b_Mod_number 1 = .ok (.istore_n 1, 1) := by decide +kernel
theorem d_Mod_number_2 : decode b_Mod_number 2 = .ok (.iconst 0, 1) := by decide +kernel
theorem d_Mod_number_3 : decode b_Mod_number 3 = .ok (.istore_n 2, 1) := by decide +kernel
theorem d_Mod_number_4 : decode b_Mod_number 4 = .ok (.aload_n 0, 1) := by decide +kernel
theorem d_Mod_number_5 : decode b_Mod_number 5 = .ok (.invokevirtual 135, 3) := by decide +kernel
theorem d_Mod_number_8 : decode b_Mod_number 8 = .ok (.bipush 48, 2) := by decide +kernel
theorem d_Mod_number_10 : decode b_Mod_number 10 = .ok (.bipush 57, 2) := by decide +kernel
theorem d_Mod_number_12 : decode b_Mod_number 12 = .ok (.invokestatic 24, 3) := by decide +kernel
theorem d_Mod_number_15 : decode b_Mod_number 15 = .ok (.ifCond .eq 45, 3) := by decide +kernel
theorem d_Mod_number_18 : decode b_Mod_number 18 = .ok (.iload_n 1, 1) := by decide +kernel
theorem d_Mod_number_19 : decode b_Mod_number 19 = .ok (.iconst 3, 1) := by decide +kernel
theorem d_Mod_number_20 : decode b_Mod_number 20 = .ok (.if_icmp .ge 40, 3) := by decide +kernel
theorem d_Mod_number_23 : decode b_Mod_number 23 = .ok (.iload_n 1, 1) := by decide +kernel
theorem d_Mod_number_24 : decode b_Mod_number 24 = .ok (.ifCond .eq 7, 3) := by decide +kernel
theorem d_Mod_number_27 : decode b_Mod_number 27 = .ok (.iload_n 2, 1) := by decide +kernel
theorem d_Mod_number_28 : decode b_Mod_number 28 = .ok (.ifCond .le 32, 3) := by decide +kernel
theorem d_Mod_number_31 : decode b_Mod_number 31 = .ok (.bipush 10, 2) := by decide +kernel
theorem d_Mod_number_33 : decode b_Mod_number 33 = .ok (.iload_n 2, 1) := by decide +kernel
theorem d_Mod_number_34 : decode b_Mod_number 34 = .ok (.imul, 1) := by decide +kernel
theorem d_Mod_number_35 : decode b_Mod_number 35 = .ok (.aload_n 0, 1) := by decide +kernel
theorem d_Mod_number_36 : decode b_Mod_number 36 = .ok (.invokevirtual 135, 3) := by decide +kernel
theorem d_Mod_number_39 : decode b_Mod_number 39 = .ok (.iadd, 1) := by decide +kernel
theorem d_Mod_number_40 : decode b_Mod_number 40 = .ok (.bipush 48, 2) := by decide +kernel
theorem d_Mod_number_42 : decode b_Mod_number 42 = .ok (.isub, 1) := by decide +kernel
theorem d_Mod_number_43 : decode b_Mod_number 43 = .ok (.istore_n 2, 1) := by decide +kernel
theorem d_Mod_number_44 : decode b_Mod_number 44 = .ok (.aload_n 0, 1) := by decide +kernel
theorem d_Mod_number_45 : decode b_Mod_number 45 = .ok (.dup, 1) := by decide +kernel
theorem d_Mod_number_46 : decode b_Mod_number 46 = .ok (.getfield 132, 3) := by decide +kernel
theorem d_Mod_number_49 : decode b_Mod_number 49 = .ok (.iconst 1, 1) := by decide +kernel
theorem d_Mod_number_50 : decode b_Mod_number 50 = .ok (.iadd, 1) := by decide +kernel
theorem d_Mod_number_51 : decode b_Mod_number 51 = .ok (.putfield 132, 3) := by decide +kernel
theorem d_Mod_number_54 : decode b_Mod_number 54 = .ok (.iinc 1 1, 3) := by decide +kernel
theorem d_Mod_number_57 : decode b_Mod_number 57 = .ok (.goto (-53), 3) := by decide +kernel
theorem d_Mod_number_60 : decode b_Mod_number 60 = .ok (.iload_n 1, 1) := by decide +kernel
theorem d_Mod_number_61 : decode b_Mod_number 61 = .ok (.ifCond .ne 7, 3) := by decide +kernel
theorem d_Mod_number_64 : decode b_Mod_number 64 = .ok (.iconst (-1), 1) := by decide +kernel
theorem d_Mod_number_65 : decode b_Mod_number 65 = .ok (.goto 4, 3) := by decide +kernel
theorem d_Mod_number_68 : decode b_Mod_number 68 = .ok (.iload_n 2, 1) := by decide +kernel
theorem d_Mod_number_69 : decode b_Mod_number 69 = .ok (.ireturn, 1) := by decide +kernel
theorem d_Mod_readsOrder_0 : decode b_Mod_readsOrder 0 = .ok (.aload_n 0, 1) := by decide +kernel
theorem d_Mod_readsOrder_1 : decode b_Mod_readsOrder 1 = .ok (.aload_n 0, 1) := by decide +kernel
theorem d_Mod_readsOrder_2 : decode b_Mod_readsOrder 2 = .ok (.invokevirtual 135, 3) := by decide +kernel
theorem d_Mod_readsOrder_5 : decode b_Mod_readsOrder 5 = .ok (.putfield 138, 3) := by decide +kernel
theorem d_Mod_readsOrder_8 : decode b_Mod_readsOrder 8 = .ok (.aload_n 0, 1) := by decide +kernel
theorem d_Mod_readsOrder_9 : decode b_Mod_readsOrder 9 = .ok (.getfield 138, 3) := by decide +kernel
theorem d_Mod_readsOrder_12 : decode b_Mod_readsOrder 12 = .ok (.bipush 119, 2) := by decide +kernel
theorem d_Mod_readsOrder_14 : decode b_Mod_readsOrder 14 = .ok (.if_icmp .ne 15, 3) := by decide +kernel
theorem d_Mod_readsOrder_17 : decode b_Mod_readsOrder 17 = .ok (.aload_n 0, 1) := by decide +kernel
theorem d_Mod_readsOrder_18 : decode b_Mod_readsOrder 18 = .ok (.dup, 1) := by decide +kernel
theorem d_Mod_readsOrder_19 : decode b_Mod_readsOrder 19 = .ok (.getfield 132, 3) := by decide +kernel
theorem d_Mod_readsOrder_22 : decode b_Mod_readsOrder 22 = .ok (.iconst 1, 1) := by decide +kernel
theorem d_Mod_readsOrder_23 : decode b_Mod_readsOrder 23 = .ok (.iadd, 1) := by decide +kernel
theorem d_Mod_readsOrder_24 : decode b_Mod_readsOrder 24 = .ok (.putfield 132, 3) := by decide +kernel
theorem d_Mod_readsOrder_27 : decode b_Mod_readsOrder 27 = .ok (.iconst 1, 1) := by decide +kernel
theorem d_Mod_readsOrder_28 : decode b_Mod_readsOrder 28 = .ok (.ireturn, 1) := by decide +kernel
theorem d_Mod_readsOrder_29 : decode b_Mod_readsOrder 29 = .ok (.aload_n 0, 1) := by decide +kernel
theorem d_Mod_readsOrder_30 : decode b_Mod_readsOrder 30 = .ok (.aload_n 0, 1) := by decide +kernel
theorem d_Mod_readsOrder_31 : decode b_Mod_readsOrder 31 = .ok (.invokevirtual 141, 3) := by decide +kernel
theorem d_Mod_readsOrder_34 : decode b_Mod_readsOrder 34 = .ok (.putfield 144, 3) := by decide +kernel
theorem d_Mod_readsOrder_37 : decode b_Mod_readsOrder 37 = .ok (.aload_n 0, 1) := by decide +kernel
theorem d_Mod_readsOrder_38 : decode b_Mod_readsOrder 38 = .ok (.aload_n 0, 1) := by decide +kernel
theorem d_Mod_readsOrder_39 : decode b_Mod_readsOrder 39 = .ok (.invokevirtual 135, 3) := by decide +kernel
theorem d_Mod_readsOrder_42 : decode b_Mod_readsOrder 42 = .ok (.putfield 138, 3) := by decide +kernel
theorem d_Mod_readsOrder_45 : decode b_Mod_readsOrder 45 = .ok (.aload_n 0, 1) := by decide +kernel
theorem d_Mod_readsOrder_46 : decode b_Mod_readsOrder 46 = .ok (.getfield 138, 3) := by decide +kernel
theorem d_Mod_readsOrder_49 : decode b_Mod_readsOrder 49 = .ok (.bipush 43, 2) := by decide +kernel
theorem d_Mod_readsOrder_51 : decode b_Mod_readsOrder 51 = .ok (.if_icmp .eq 21, 3) := by decide +kernel
theorem d_Mod_readsOrder_54 : decode b_Mod_readsOrder 54 = .ok (.aload_n 0, 1) := by decide +kernel
theorem d_Mod_readsOrder_55 : decode b_Mod_readsOrder 55 = .ok (.getfield 138, 3) := by decide +kernel
theorem d_Mod_readsOrder_58 : decode b_Mod_readsOrder 58 = .ok (.bipush 45, 2) := by decide +kernel
theorem d_Mod_readsOrder_60 : decode b_Mod_readsOrder 60 = .ok (.if_icmp .eq 12, 3) := by decide +kernel
theorem d_Mod_readsOrder_63 : decode b_Mod_readsOrder 63 = .ok (.aload_n 0, 1) := by decide +kernel
theorem d_Mod_readsOrder_64 : decode b_Mod_readsOrder 64 = .ok (.getfield 138, 3) := by decide +kernel
theorem d_Mod_readsOrder_67 : decode b_Mod_readsOrder 67 = .ok (.bipush 104, 2) := by decide +kernel
theorem d_Mod_readsOrder_69 : decode b_Mod_readsOrder 69 = .ok (.if_icmp .ne 7, 3) := by decide +kernel
theorem d_Mod_readsOrder_72 : decode b_Mod_readsOrder 72 = .ok (.iconst 1, 1) := by decide +kernel
theorem d_Mod_readsOrder_73 : decode b_Mod_readsOrder 73 = .ok (.goto 4, 3) := by decide +kernel
theorem d_Mod_readsOrder_76 : decode b_Mod_readsOrder 76 = .ok (.iconst 0, 1) := by decide +kernel
theorem d_Mod_readsOrder_77 : decode b_Mod_readsOrder 77 = .ok (.istore_n 1, 1) := by decide +kernel
theorem d_Mod_readsOrder_78 : decode b_Mod_readsOrder 78 = .ok (.aload_n 0, 1) := by decide +kernel
theorem d_Mod_readsOrder_79 : decode b_Mod_readsOrder 79 = .ok (.getfield 144, 3) := by decide +kernel
theorem d_Mod_readsOrder_82 : decode b_Mod_readsOrder 82 = .ok (.ifCond .lt 34, 3) := by decide +kernel
theorem d_Mod_readsOrder_85 : decode b_Mod_readsOrder 85 = .ok (.iload_n 1, 1) := by decide +kernel
theorem d_Mod_readsOrder_86 : decode b_Mod_readsOrder 86 = .ok (.ifCond .ne 32, 3) := by decide +kernel
theorem d_Mod_readsOrder_89 : decode b_Mod_readsOrder 89 = .ok (.aload_n 0, 1) := by decide +kernel
theorem d_Mod_readsOrder_90 : decode b_Mod_readsOrder 90 = .ok (.getfield 138, 3) := by decide +kernel
theorem d_Mod_readsOrder_93 : decode b_Mod_readsOrder 93 = .ok (.bipush 120, 2) := by decide +kernel
theorem d_Mod_readsOrder_95 : decode b_Mod_readsOrder 95 = .ok (.if_icmp .eq 23, 3) := by decide +kernel
theorem d_Mod_readsOrder_98 : decode b_Mod_readsOrder 98 = .ok (.aload_n 0, 1) := by decide +kernel
theorem d_Mod_readsOrder_99 : decode b_Mod_readsOrder 99 = .ok (.getfield 138, 3) := by decide +kernel
theorem d_Mod_readsOrder_102 : decode b_Mod_readsOrder 102 = .ok (.bipush 108, 2) := by decide +kernel
theorem d_Mod_readsOrder_104 : decode b_Mod_readsOrder 104 = .ok (.if_icmp .eq 14, 3) := by decide +kernel
theorem d_Mod_readsOrder_107 : decode b_Mod_readsOrder 107 = .ok (.aload_n 0, 1) := by decide +kernel
theorem d_Mod_readsOrder_108 : decode b_Mod_readsOrder 108 = .ok (.getfield 138, 3) := by decide +kernel
theorem d_Mod_readsOrder_111 : decode b_Mod_readsOrder 111 = .ok (.bipush 102, 2) := by decide +kernel
theorem d_Mod_readsOrder_113 : decode b_Mod_readsOrder 113 = .ok (.if_icmp .eq 5, 3) := by decide +kernel
theorem d_Mod_readsOrder_116 : decode b_Mod_readsOrder 116 = .ok (.iconst 0, 1) := by decide +kernel
theorem d_Mod_readsOrder_117 : decode b_Mod_readsOrder 117 = .ok (.ireturn, 1) := by decide +kernel
theorem d_Mod_readsOrder_118 : decode b_Mod_readsOrder 118 = .ok (.aload_n 0, 1) := by decide +kernel
theorem d_Mod_readsOrder_119 : decode b_Mod_readsOrder 119 = .ok (.dup, 1) := by decide +kernel
theorem d_Mod_readsOrder_120 : decode b_Mod_readsOrder 120 = .ok (.getfield 132, 3) := by decide +kernel
theorem d_Mod_readsOrder_123 : decode b_Mod_readsOrder 123 = .ok (.iconst 1, 1) := by decide +kernel
theorem d_Mod_readsOrder_124 : decode b_Mod_readsOrder 124 = .ok (.iadd, 1) := by decide +kernel
theorem d_Mod_readsOrder_125 : decode b_Mod_readsOrder 125 = .ok (.putfield 132, 3) := by decide +kernel
theorem d_Mod_readsOrder_128 : decode b_Mod_readsOrder 128 = .ok (.aload_n 0, 1) := by decide +kernel
theorem d_Mod_readsOrder_129 : decode b_Mod_readsOrder 129 = .ok (.iload_n 1, 1) := by decide +kernel
theorem d_Mod_readsOrder_130 : decode b_Mod_readsOrder 130 = .ok (.ifCond .eq 10, 3) := by decide +kernel
theorem d_Mod_readsOrder_133 : decode b_Mod_readsOrder 133 = .ok (.aload_n 0, 1) := by decide +kernel
theorem d_Mod_readsOrder_134 : decode b_Mod_readsOrder 134 = .ok (.invokevirtual 141, 3) := by decide +kernel
theorem d_Mod_readsOrder_137 : decode b_Mod_readsOrder 137 = .ok (.goto 4, 3) := by decide +kernel
theorem d_Mod_readsOrder_140 : decode b_Mod_readsOrder 140 = .ok (.iconst 0, 1) := by decide +kernel
theorem d_Mod_readsOrder_141 : decode b_Mod_readsOrder 141 = .ok (.putfield 147, 3) := by decide +kernel
theorem d_Mod_readsOrder_144 : decode b_Mod_readsOrder 144 = .ok (.aload_n 0, 1) := by decide +kernel
theorem d_Mod_readsOrder_145 : decode b_Mod_readsOrder 145 = .ok (.getfield 147, 3) := by decide +kernel
theorem d_Mod_readsOrder_148 : decode b_Mod_readsOrder 148 = .ok (.ifCond .lt 7, 3) := by decide +kernel
theorem d_Mod_readsOrder_151 : decode b_Mod_readsOrder 151 = .ok (.iconst 1, 1) := by decide +kernel
theorem d_Mod_readsOrder_152 : decode b_Mod_readsOrder 152 = .ok (.goto 4, 3) := by decide +kernel
theorem d_Mod_readsOrder_155 : decode b_Mod_readsOrder 155 = .ok (.iconst 0, 1) := by decide +kernel
theorem d_Mod_readsOrder_156 : decode b_Mod_readsOrder 156 = .ok (.ireturn, 1) := by decide +kernel
theorem d_Mod_faultOf_0 : decode b_Mod_faultOf 0 = .ok (.aload_n 0, 1) := by decide +kernel
theorem d_Mod_faultOf_1 : decode b_Mod_faultOf 1 = .ok (.iconst 0, 1) := by decide +kernel
theorem d_Mod_faultOf_2 : decode b_Mod_faultOf 2 = .ok (.putfield 132, 3) := by decide +kernel
theorem d_Mod_faultOf_5 : decode b_Mod_faultOf 5 = .ok (.aload_n 0, 1) := by decide +kernel
theorem d_Mod_faultOf_6 : decode b_Mod_faultOf 6 = .ok (.invokevirtual 150, 3) := by decide +kernel
theorem d_Mod_faultOf_9 : decode b_Mod_faultOf 9 = .ok (.istore_n 1, 1) := by decide +kernel
theorem d_Mod_faultOf_10 : decode b_Mod_faultOf 10 = .ok (.iload_n 1, 1) := by decide +kernel
theorem d_Mod_faultOf_11 : decode b_Mod_faultOf 11 = .ok (.ifCond .eq 67, 3) := by decide +kernel
theorem d_Mod_faultOf_14 : decode b_Mod_faultOf 14 = .ok (.aload_n 0, 1) := by decide +kernel
theorem d_Mod_faultOf_15 : decode b_Mod_faultOf 15 = .ok (.getfield 132, 3) := by decide +kernel
theorem d_Mod_faultOf_18 : decode b_Mod_faultOf 18 = .ok (.aload_n 0, 1) := by decide +kernel
theorem d_Mod_faultOf_19 : decode b_Mod_faultOf 19 = .ok (.getfield 129, 3) := by decide +kernel
theorem d_Mod_faultOf_22 : decode b_Mod_faultOf 22 = .ok (.if_icmp .ge 56, 3) := by decide +kernel
theorem d_Mod_faultOf_25 : decode b_Mod_faultOf 25 = .ok (.aload_n 0, 1) := by decide +kernel
theorem d_Mod_faultOf_26 : decode b_Mod_faultOf 26 = .ok (.invokevirtual 135, 3) := by decide +kernel
theorem d_Mod_faultOf_29 : decode b_Mod_faultOf 29 = .ok (.bipush 59, 2) := by decide +kernel
theorem d_Mod_faultOf_31 : decode b_Mod_faultOf 31 = .ok (.if_icmp .ne 7, 3) := by decide +kernel
theorem d_Mod_faultOf_34 : decode b_Mod_faultOf 34 = .ok (.iconst 1, 1) := by decide +kernel
theorem d_Mod_faultOf_35 : decode b_Mod_faultOf 35 = .ok (.goto 4, 3) := by decide +kernel
theorem d_Mod_faultOf_38 : decode b_Mod_faultOf 38 = .ok (.iconst 0, 1) := by decide +kernel
theorem d_Mod_faultOf_39 : decode b_Mod_faultOf 39 = .ok (.istore_n 1, 1) := by decide +kernel
theorem d_Mod_faultOf_40 : decode b_Mod_faultOf 40 = .ok (.aload_n 0, 1) := by decide +kernel
theorem d_Mod_faultOf_41 : decode b_Mod_faultOf 41 = .ok (.dup, 1) := by decide +kernel
theorem d_Mod_faultOf_42 : decode b_Mod_faultOf 42 = .ok (.getfield 132, 3) := by decide +kernel
theorem d_Mod_faultOf_45 : decode b_Mod_faultOf 45 = .ok (.iload_n 1, 1) := by decide +kernel
theorem d_Mod_faultOf_46 : decode b_Mod_faultOf 46 = .ok (.ifCond .eq 7, 3) := by decide +kernel
theorem d_Mod_faultOf_49 : decode b_Mod_faultOf 49 = .ok (.iconst 1, 1) := by decide +kernel
theorem d_Mod_faultOf_50 : decode b_Mod_faultOf 50 = .ok (.goto 4, 3) := by decide +kernel
theorem d_Mod_faultOf_53 : decode b_Mod_faultOf 53 = .ok (.iconst 0, 1) := by decide +kernel
theorem d_Mod_faultOf_54 : decode b_Mod_faultOf 54 = .ok (.iadd, 1) := by decide +kernel
theorem d_Mod_faultOf_55 : decode b_Mod_faultOf 55 = .ok (.putfield 132, 3) := by decide +kernel
theorem d_Mod_faultOf_58 : decode b_Mod_faultOf 58 = .ok (.iload_n 1, 1) := by decide +kernel
theorem d_Mod_faultOf_59 : decode b_Mod_faultOf 59 = .ok (.ifCond .eq 14, 3) := by decide +kernel
theorem d_Mod_faultOf_62 : decode b_Mod_faultOf 62 = .ok (.aload_n 0, 1) := by decide +kernel
theorem d_Mod_faultOf_63 : decode b_Mod_faultOf 63 = .ok (.invokevirtual 150, 3) := by decide +kernel
theorem d_Mod_faultOf_66 : decode b_Mod_faultOf 66 = .ok (.ifCond .eq 7, 3) := by decide +kernel
theorem d_Mod_faultOf_69 : decode b_Mod_faultOf 69 = .ok (.iconst 1, 1) := by decide +kernel
theorem d_Mod_faultOf_70 : decode b_Mod_faultOf 70 = .ok (.goto 4, 3) := by decide +kernel
theorem d_Mod_faultOf_73 : decode b_Mod_faultOf 73 = .ok (.iconst 0, 1) := by decide +kernel
theorem d_Mod_faultOf_74 : decode b_Mod_faultOf 74 = .ok (.istore_n 1, 1) := by decide +kernel
theorem d_Mod_faultOf_75 : decode b_Mod_faultOf 75 = .ok (.goto (-65), 3) := by decide +kernel
theorem d_Mod_faultOf_78 : decode b_Mod_faultOf 78 = .ok (.iload_n 1, 1) := by decide +kernel
theorem d_Mod_faultOf_79 : decode b_Mod_faultOf 79 = .ok (.ifCond .eq 7, 3) := by decide +kernel
theorem d_Mod_faultOf_82 : decode b_Mod_faultOf 82 = .ok (.iconst (-1), 1) := by decide +kernel
theorem d_Mod_faultOf_83 : decode b_Mod_faultOf 83 = .ok (.goto 7, 3) := by decide +kernel
theorem d_Mod_faultOf_86 : decode b_Mod_faultOf 86 = .ok (.aload_n 0, 1) := by decide +kernel
theorem d_Mod_faultOf_87 : decode b_Mod_faultOf 87 = .ok (.getfield 132, 3) := by decide +kernel
theorem d_Mod_faultOf_90 : decode b_Mod_faultOf 90 = .ok (.ireturn, 1) := by decide +kernel
theorem d_Mod_noOrder_0 : decode b_Mod_noOrder 0 = .ok (.aload_n 0, 1) := by decide +kernel
theorem d_Mod_noOrder_1 : decode b_Mod_noOrder 1 = .ok (.getfield 138, 3) := by decide +kernel
theorem d_Mod_noOrder_4 : decode b_Mod_noOrder 4 = .ok (.bipush 119, 2) := by decide +kernel
theorem d_Mod_noOrder_6 : decode b_Mod_noOrder 6 = .ok (.if_icmp .ne 10, 3) := by decide +kernel
theorem d_Mod_noOrder_9 : decode b_Mod_noOrder 9 = .ok (.aload_n 0, 1) := by decide +kernel
theorem d_Mod_noOrder_10 : decode b_Mod_noOrder 10 = .ok (.invokevirtual 110, 3) := by decide +kernel
theorem d_Mod_noOrder_13 : decode b_Mod_noOrder 13 = .ok (.goto 123, 3) := by decide +kernel
theorem d_Mod_noOrder_16 : decode b_Mod_noOrder 16 = .ok (.aload_n 0, 1) := by decide +kernel
theorem d_Mod_noOrder_17 : decode b_Mod_noOrder 17 = .ok (.getfield 138, 3) := by decide +kernel
theorem d_Mod_noOrder_20 : decode b_Mod_noOrder 20 = .ok (.bipush 43, 2) := by decide +kernel
theorem d_Mod_noOrder_22 : decode b_Mod_noOrder 22 = .ok (.if_icmp .ne 18, 3) := by decide +kernel
theorem d_Mod_noOrder_25 : decode b_Mod_noOrder 25 = .ok (.aload_n 0, 1) := by decide +kernel
theorem d_Mod_noOrder_26 : decode b_Mod_noOrder 26 = .ok (.aload_n 0, 1) := by decide +kernel
theorem d_Mod_noOrder_27 : decode b_Mod_noOrder 27 = .ok (.getfield 144, 3) := by decide +kernel
theorem d_Mod_noOrder_30 : decode b_Mod_noOrder 30 = .ok (.aload_n 0, 1) := by decide +kernel
theorem d_Mod_noOrder_31 : decode b_Mod_noOrder 31 = .ok (.getfield 147, 3) := by decide +kernel
theorem d_Mod_noOrder_34 : decode b_Mod_noOrder 34 = .ok (.invokevirtual 57, 3) := by decide +kernel
theorem d_Mod_noOrder_37 : decode b_Mod_noOrder 37 = .ok (.goto 99, 3) := by decide +kernel
theorem d_Mod_noOrder_40 : decode b_Mod_noOrder 40 = .ok (.aload_n 0, 1) := by decide +kernel
theorem d_Mod_noOrder_41 : decode b_Mod_noOrder 41 = .ok (.getfield 138, 3) := by decide +kernel
theorem d_Mod_noOrder_44 : decode b_Mod_noOrder 44 = .ok (.bipush 45, 2) := by decide +kernel
theorem d_Mod_noOrder_46 : decode b_Mod_noOrder 46 = .ok (.if_icmp .ne 18, 3) := by decide +kernel
theorem d_Mod_noOrder_49 : decode b_Mod_noOrder 49 = .ok (.aload_n 0, 1) := by decide +kernel
theorem d_Mod_noOrder_50 : decode b_Mod_noOrder 50 = .ok (.aload_n 0, 1) := by decide +kernel
theorem d_Mod_noOrder_51 : decode b_Mod_noOrder 51 = .ok (.getfield 144, 3) := by decide +kernel
theorem d_Mod_noOrder_54 : decode b_Mod_noOrder 54 = .ok (.aload_n 0, 1) := by decide +kernel
theorem d_Mod_noOrder_55 : decode b_Mod_noOrder 55 = .ok (.getfield 147, 3) := by decide +kernel
theorem d_Mod_noOrder_58 : decode b_Mod_noOrder 58 = .ok (.invokevirtual 67, 3) := by decide +kernel
theorem d_Mod_noOrder_61 : decode b_Mod_noOrder 61 = .ok (.goto 75, 3) := by decide +kernel
theorem d_Mod_noOrder_64 : decode b_Mod_noOrder 64 = .ok (.aload_n 0, 1) := by decide +kernel
theorem d_Mod_noOrder_65 : decode b_Mod_noOrder 65 = .ok (.getfield 138, 3) := by decide +kernel
theorem d_Mod_noOrder_68 : decode b_Mod_noOrder 68 = .ok (.bipush 104, 2) := by decide +kernel
theorem d_Mod_noOrder_70 : decode b_Mod_noOrder 70 = .ok (.if_icmp .ne 18, 3) := by decide +kernel
theorem d_Mod_noOrder_73 : decode b_Mod_noOrder 73 = .ok (.aload_n 0, 1) := by decide +kernel
theorem d_Mod_noOrder_74 : decode b_Mod_noOrder 74 = .ok (.aload_n 0, 1) := by decide +kernel
theorem d_Mod_noOrder_75 : decode b_Mod_noOrder 75 = .ok (.getfield 144, 3) := by decide +kernel
theorem d_Mod_noOrder_78 : decode b_Mod_noOrder 78 = .ok (.aload_n 0, 1) := by decide +kernel
theorem d_Mod_noOrder_79 : decode b_Mod_noOrder 79 = .ok (.getfield 147, 3) := by decide +kernel
theorem d_Mod_noOrder_82 : decode b_Mod_noOrder 82 = .ok (.invokevirtual 101, 3) := by decide +kernel
theorem d_Mod_noOrder_85 : decode b_Mod_noOrder 85 = .ok (.goto 51, 3) := by decide +kernel
theorem d_Mod_noOrder_88 : decode b_Mod_noOrder 88 = .ok (.aload_n 0, 1) := by decide +kernel
theorem d_Mod_noOrder_89 : decode b_Mod_noOrder 89 = .ok (.getfield 138, 3) := by decide +kernel
theorem d_Mod_noOrder_92 : decode b_Mod_noOrder 92 = .ok (.bipush 120, 2) := by decide +kernel
theorem d_Mod_noOrder_94 : decode b_Mod_noOrder 94 = .ok (.if_icmp .ne 14, 3) := by decide +kernel
theorem d_Mod_noOrder_97 : decode b_Mod_noOrder 97 = .ok (.aload_n 0, 1) := by decide +kernel
theorem d_Mod_noOrder_98 : decode b_Mod_noOrder 98 = .ok (.aload_n 0, 1) := by decide +kernel
theorem d_Mod_noOrder_99 : decode b_Mod_noOrder 99 = .ok (.getfield 144, 3) := by decide +kernel
theorem d_Mod_noOrder_102 : decode b_Mod_noOrder 102 = .ok (.invokevirtual 107, 3) := by decide +kernel
theorem d_Mod_noOrder_105 : decode b_Mod_noOrder 105 = .ok (.goto 31, 3) := by decide +kernel
theorem d_Mod_noOrder_108 : decode b_Mod_noOrder 108 = .ok (.aload_n 0, 1) := by decide +kernel
theorem d_Mod_noOrder_109 : decode b_Mod_noOrder 109 = .ok (.getfield 138, 3) := by decide +kernel
theorem d_Mod_noOrder_112 : decode b_Mod_noOrder 112 = .ok (.bipush 108, 2) := by decide +kernel
theorem d_Mod_noOrder_114 : decode b_Mod_noOrder 114 = .ok (.if_icmp .ne 14, 3) := by decide +kernel
theorem d_Mod_noOrder_117 : decode b_Mod_noOrder 117 = .ok (.aload_n 0, 1) := by decide +kernel
theorem d_Mod_noOrder_118 : decode b_Mod_noOrder 118 = .ok (.aload_n 0, 1) := by decide +kernel
theorem d_Mod_noOrder_119 : decode b_Mod_noOrder 119 = .ok (.getfield 144, 3) := by decide +kernel
theorem d_Mod_noOrder_122 : decode b_Mod_noOrder 122 = .ok (.invokevirtual 73, 3) := by decide +kernel
theorem d_Mod_noOrder_125 : decode b_Mod_noOrder 125 = .ok (.goto 11, 3) := by decide +kernel
theorem d_Mod_noOrder_128 : decode b_Mod_noOrder 128 = .ok (.aload_n 0, 1) := by decide +kernel
theorem d_Mod_noOrder_129 : decode b_Mod_noOrder 129 = .ok (.aload_n 0, 1) := by decide +kernel
theorem d_Mod_noOrder_130 : decode b_Mod_noOrder 130 = .ok (.getfield 144, 3) := by decide +kernel
theorem d_Mod_noOrder_133 : decode b_Mod_noOrder 133 = .ok (.invokevirtual 80, 3) := by decide +kernel
theorem d_Mod_noOrder_136 : decode b_Mod_noOrder 136 = .ok (.ireturn, 1) := by decide +kernel
theorem d_Mod_does_0 : decode b_Mod_does 0 = .ok (.aload_n 0, 1) := by decide +kernel
theorem d_Mod_does_1 : decode b_Mod_does 1 = .ok (.invokevirtual 153, 3) := by decide +kernel
theorem d_Mod_does_4 : decode b_Mod_does 4 = .ok (.ifCond .eq 5, 3) := by decide +kernel
theorem d_Mod_does_7 : decode b_Mod_does 7 = .ok (.iconst 0, 1) := by decide +kernel
theorem d_Mod_does_8 : decode b_Mod_does 8 = .ok (.ireturn, 1) := by decide +kernel
theorem d_Mod_does_9 : decode b_Mod_does 9 = .ok (.aload_n 0, 1) := by decide +kernel
theorem d_Mod_does_10 : decode b_Mod_does 10 = .ok (.getfield 138, 3) := by decide +kernel
theorem d_Mod_does_13 : decode b_Mod_does 13 = .ok (.lookupswitch 139 #[(43, 67), (45, 83), (104, 99), (108, 127), (119, 59), (120, 115)], 59) := by decide +kernel
theorem d_Mod_does_72 : decode b_Mod_does 72 = .ok (.aload_n 0, 1) := by decide +kernel
theorem d_Mod_does_73 : decode b_Mod_does 73 = .ok (.invokevirtual 114, 3) := by decide +kernel
theorem d_Mod_does_76 : decode b_Mod_does 76 = .ok (.pop, 1) := by decide +kernel
theorem d_Mod_does_77 : decode b_Mod_does 77 = .ok (.goto 84, 3) := by decide +kernel
theorem d_Mod_does_80 : decode b_Mod_does 80 = .ok (.aload_n 0, 1) := by decide +kernel
theorem d_Mod_does_81 : decode b_Mod_does 81 = .ok (.aload_n 0, 1) := by decide +kernel
theorem d_Mod_does_82 : decode b_Mod_does 82 = .ok (.getfield 144, 3) := by decide +kernel
theorem d_Mod_does_85 : decode b_Mod_does 85 = .ok (.aload_n 0, 1) := by decide +kernel
theorem d_Mod_does_86 : decode b_Mod_does 86 = .ok (.getfield 147, 3) := by decide +kernel
theorem d_Mod_does_89 : decode b_Mod_does 89 = .ok (.invokevirtual 60, 3) := by decide +kernel
theorem d_Mod_does_92 : decode b_Mod_does 92 = .ok (.pop, 1) := by decide +kernel
theorem d_Mod_does_93 : decode b_Mod_does 93 = .ok (.goto 68, 3) := by decide +kernel
theorem d_Mod_does_96 : decode b_Mod_does 96 = .ok (.aload_n 0, 1) := by decide +kernel
theorem d_Mod_does_97 : decode b_Mod_does 97 = .ok (.aload_n 0, 1) := by decide +kernel
theorem d_Mod_does_98 : decode b_Mod_does 98 = .ok (.getfield 144, 3) := by decide +kernel
theorem d_Mod_does_101 : decode b_Mod_does 101 = .ok (.aload_n 0, 1) := by decide +kernel
theorem d_Mod_does_102 : decode b_Mod_does 102 = .ok (.getfield 147, 3) := by decide +kernel
theorem d_Mod_does_105 : decode b_Mod_does 105 = .ok (.invokevirtual 70, 3) := by decide +kernel
theorem d_Mod_does_108 : decode b_Mod_does 108 = .ok (.pop, 1) := by decide +kernel
theorem d_Mod_does_109 : decode b_Mod_does 109 = .ok (.goto 52, 3) := by decide +kernel
theorem d_Mod_does_112 : decode b_Mod_does 112 = .ok (.aload_n 0, 1) := by decide +kernel
theorem d_Mod_does_113 : decode b_Mod_does 113 = .ok (.aload_n 0, 1) := by decide +kernel
theorem d_Mod_does_114 : decode b_Mod_does 114 = .ok (.getfield 144, 3) := by decide +kernel
theorem d_Mod_does_117 : decode b_Mod_does 117 = .ok (.aload_n 0, 1) := by decide +kernel
theorem d_Mod_does_118 : decode b_Mod_does 118 = .ok (.getfield 147, 3) := by decide +kernel
theorem d_Mod_does_121 : decode b_Mod_does 121 = .ok (.invokevirtual 104, 3) := by decide +kernel
theorem d_Mod_does_124 : decode b_Mod_does 124 = .ok (.pop, 1) := by decide +kernel
theorem d_Mod_does_125 : decode b_Mod_does 125 = .ok (.goto 36, 3) := by decide +kernel
theorem d_Mod_does_128 : decode b_Mod_does 128 = .ok (.aload_n 0, 1) := by decide +kernel
theorem d_Mod_does_129 : decode b_Mod_does 129 = .ok (.aload_n 0, 1) := by decide +kernel
theorem d_Mod_does_130 : decode b_Mod_does 130 = .ok (.getfield 144, 3) := by decide +kernel
theorem d_Mod_does_133 : decode b_Mod_does 133 = .ok (.invokevirtual 98, 3) := by decide +kernel
theorem d_Mod_does_136 : decode b_Mod_does 136 = .ok (.pop, 1) := by decide +kernel
theorem d_Mod_does_137 : decode b_Mod_does 137 = .ok (.goto 24, 3) := by decide +kernel
theorem d_Mod_does_140 : decode b_Mod_does 140 = .ok (.aload_n 0, 1) := by decide +kernel
theorem d_Mod_does_141 : decode b_Mod_does 141 = .ok (.aload_n 0, 1) := by decide +kernel
theorem d_Mod_does_142 : decode b_Mod_does 142 = .ok (.getfield 144, 3) := by decide +kernel
theorem d_Mod_does_145 : decode b_Mod_does 145 = .ok (.invokevirtual 77, 3) := by decide +kernel
theorem d_Mod_does_148 : decode b_Mod_does 148 = .ok (.pop, 1) := by decide +kernel
theorem d_Mod_does_149 : decode b_Mod_does 149 = .ok (.goto 12, 3) := by decide +kernel
theorem d_Mod_does_152 : decode b_Mod_does 152 = .ok (.aload_n 0, 1) := by decide +kernel
theorem d_Mod_does_153 : decode b_Mod_does 153 = .ok (.aload_n 0, 1) := by decide +kernel
theorem d_Mod_does_154 : decode b_Mod_does 154 = .ok (.getfield 144, 3) := by decide +kernel
theorem d_Mod_does_157 : decode b_Mod_does 157 = .ok (.invokevirtual 83, 3) := by decide +kernel
theorem d_Mod_does_160 : decode b_Mod_does 160 = .ok (.pop, 1) := by decide +kernel
theorem d_Mod_does_161 : decode b_Mod_does 161 = .ok (.iconst 1, 1) := by decide +kernel
theorem d_Mod_does_162 : decode b_Mod_does 162 = .ok (.ireturn, 1) := by decide +kernel
theorem d_Mod_carryOut_0 : decode b_Mod_carryOut 0 = .ok (.aload_n 0, 1) := by decide +kernel
theorem d_Mod_carryOut_1 : decode b_Mod_carryOut 1 = .ok (.invokevirtual 156, 3) := by decide +kernel
theorem d_Mod_carryOut_4 : decode b_Mod_carryOut 4 = .ok (.istore_n 1, 1) := by decide +kernel
theorem d_Mod_carryOut_5 : decode b_Mod_carryOut 5 = .ok (.iload_n 1, 1) := by decide +kernel
theorem d_Mod_carryOut_6 : decode b_Mod_carryOut 6 = .ok (.ifCond .lt 9, 3) := by decide +kernel
theorem d_Mod_carryOut_9 : decode b_Mod_carryOut 9 = .ok (.sipush (-1000), 3) := by decide +kernel
theorem d_Mod_carryOut_12 : decode b_Mod_carryOut 12 = .ok (.iload_n 1, 1) := by decide +kernel
theorem d_Mod_carryOut_13 : decode b_Mod_carryOut 13 = .ok (.isub, 1) := by decide +kernel
theorem d_Mod_carryOut_14 : decode b_Mod_carryOut 14 = .ok (.ireturn, 1) := by decide +kernel
theorem d_Mod_carryOut_15 : decode b_Mod_carryOut 15 = .ok (.aload_n 0, 1) := by decide +kernel
theorem d_Mod_carryOut_16 : decode b_Mod_carryOut 16 = .ok (.invokevirtual 39, 3) := by decide +kernel
theorem d_Mod_carryOut_19 : decode b_Mod_carryOut 19 = .ok (.ifCond .eq 6, 3) := by decide +kernel
theorem d_Mod_carryOut_22 : decode b_Mod_carryOut 22 = .ok (.bipush (-2), 2) := by decide +kernel
theorem d_Mod_carryOut_24 : decode b_Mod_carryOut 24 = .ok (.ireturn, 1) := by decide +kernel
theorem d_Mod_carryOut_25 : decode b_Mod_carryOut 25 = .ok (.aload_n 0, 1) := by decide +kernel
theorem d_Mod_carryOut_26 : decode b_Mod_carryOut 26 = .ok (.invokevirtual 36, 3) := by decide +kernel
theorem d_Mod_carryOut_29 : decode b_Mod_carryOut 29 = .ok (.aload_n 0, 1) := by decide +kernel
theorem d_Mod_carryOut_30 : decode b_Mod_carryOut 30 = .ok (.iconst 0, 1) := by decide +kernel
theorem d_Mod_carryOut_31 : decode b_Mod_carryOut 31 = .ok (.putfield 132, 3) := by decide +kernel
theorem d_Mod_carryOut_34 : decode b_Mod_carryOut 34 = .ok (.iconst 0, 1) := by decide +kernel
theorem d_Mod_carryOut_35 : decode b_Mod_carryOut 35 = .ok (.istore_n 2, 1) := by decide +kernel
theorem d_Mod_carryOut_36 : decode b_Mod_carryOut 36 = .ok (.aload_n 0, 1) := by decide +kernel
theorem d_Mod_carryOut_37 : decode b_Mod_carryOut 37 = .ok (.getfield 132, 3) := by decide +kernel
theorem d_Mod_carryOut_40 : decode b_Mod_carryOut 40 = .ok (.aload_n 0, 1) := by decide +kernel
theorem d_Mod_carryOut_41 : decode b_Mod_carryOut 41 = .ok (.getfield 129, 3) := by decide +kernel
theorem d_Mod_carryOut_44 : decode b_Mod_carryOut 44 = .ok (.if_icmp .ge 33, 3) := by decide +kernel
theorem d_Mod_carryOut_47 : decode b_Mod_carryOut 47 = .ok (.aload_n 0, 1) := by decide +kernel
theorem d_Mod_carryOut_48 : decode b_Mod_carryOut 48 = .ok (.invokevirtual 150, 3) := by decide +kernel
theorem d_Mod_carryOut_51 : decode b_Mod_carryOut 51 = .ok (.ifCond .eq 26, 3) := by decide +kernel
theorem d_Mod_carryOut_54 : decode b_Mod_carryOut 54 = .ok (.aload_n 0, 1) := by decide +kernel
theorem d_Mod_carryOut_55 : decode b_Mod_carryOut 55 = .ok (.invokevirtual 159, 3) := by decide +kernel
theorem d_Mod_carryOut_58 : decode b_Mod_carryOut 58 = .ok (.ifCond .eq 19, 3) := by decide +kernel
theorem d_Mod_carryOut_61 : decode b_Mod_carryOut 61 = .ok (.iinc 2 1, 3) := by decide +kernel
theorem d_Mod_carryOut_64 : decode b_Mod_carryOut 64 = .ok (.aload_n 0, 1) := by decide +kernel
theorem d_Mod_carryOut_65 : decode b_Mod_carryOut 65 = .ok (.dup, 1) := by decide +kernel
theorem d_Mod_carryOut_66 : decode b_Mod_carryOut 66 = .ok (.getfield 132, 3) := by decide +kernel
theorem d_Mod_carryOut_69 : decode b_Mod_carryOut 69 = .ok (.iconst 1, 1) := by decide +kernel
theorem d_Mod_carryOut_70 : decode b_Mod_carryOut 70 = .ok (.iadd, 1) := by decide +kernel
theorem d_Mod_carryOut_71 : decode b_Mod_carryOut 71 = .ok (.putfield 132, 3) := by decide +kernel
theorem d_Mod_carryOut_74 : decode b_Mod_carryOut 74 = .ok (.goto (-38), 3) := by decide +kernel
theorem d_Mod_carryOut_77 : decode b_Mod_carryOut 77 = .ok (.aload_n 0, 1) := by decide +kernel
theorem d_Mod_carryOut_78 : decode b_Mod_carryOut 78 = .ok (.iconst 0, 1) := by decide +kernel
theorem d_Mod_carryOut_79 : decode b_Mod_carryOut 79 = .ok (.putfield 129, 3) := by decide +kernel
theorem d_Mod_carryOut_82 : decode b_Mod_carryOut 82 = .ok (.iload_n 2, 1) := by decide +kernel
theorem d_Mod_carryOut_83 : decode b_Mod_carryOut 83 = .ok (.ireturn, 1) := by decide +kernel
theorem d_Mod_sumOf_0 : decode b_Mod_sumOf 0 = .ok (.iconst 0, 1) := by decide +kernel
theorem d_Mod_sumOf_1 : decode b_Mod_sumOf 1 = .ok (.istore_n 2, 1) := by decide +kernel
theorem d_Mod_sumOf_2 : decode b_Mod_sumOf 2 = .ok (.iconst 0, 1) := by decide +kernel
theorem d_Mod_sumOf_3 : decode b_Mod_sumOf 3 = .ok (.istore_n 3, 1) := by decide +kernel
theorem d_Mod_sumOf_4 : decode b_Mod_sumOf 4 = .ok (.iload_n 3, 1) := by decide +kernel
theorem d_Mod_sumOf_5 : decode b_Mod_sumOf 5 = .ok (.aload_n 0, 1) := by decide +kernel
theorem d_Mod_sumOf_6 : decode b_Mod_sumOf 6 = .ok (.getfield 7, 3) := by decide +kernel
theorem d_Mod_sumOf_9 : decode b_Mod_sumOf 9 = .ok (.iconst 1, 1) := by decide +kernel
theorem d_Mod_sumOf_10 : decode b_Mod_sumOf 10 = .ok (.iaload, 1) := by decide +kernel
theorem d_Mod_sumOf_11 : decode b_Mod_sumOf 11 = .ok (.if_icmp .ge 22, 3) := by decide +kernel
theorem d_Mod_sumOf_14 : decode b_Mod_sumOf 14 = .ok (.iload_n 2, 1) := by decide +kernel
theorem d_Mod_sumOf_15 : decode b_Mod_sumOf 15 = .ok (.aload_n 0, 1) := by decide +kernel
theorem d_Mod_sumOf_16 : decode b_Mod_sumOf 16 = .ok (.getfield 7, 3) := by decide +kernel
theorem d_Mod_sumOf_19 : decode b_Mod_sumOf 19 = .ok (.iload_n 3, 1) := by decide +kernel
theorem d_Mod_sumOf_20 : decode b_Mod_sumOf 20 = .ok (.iload_n 1, 1) := by decide +kernel
theorem d_Mod_sumOf_21 : decode b_Mod_sumOf 21 = .ok (.invokestatic 43, 3) := by decide +kernel
theorem d_Mod_sumOf_24 : decode b_Mod_sumOf 24 = .ok (.iaload, 1) := by decide +kernel
theorem d_Mod_sumOf_25 : decode b_Mod_sumOf 25 = .ok (.iadd, 1) := by decide +kernel
theorem d_Mod_sumOf_26 : decode b_Mod_sumOf 26 = .ok (.istore_n 2, 1) := by decide +kernel
theorem d_Mod_sumOf_27 : decode b_Mod_sumOf 27 = .ok (.iinc 3 1, 3) := by decide +kernel
theorem d_Mod_sumOf_30 : decode b_Mod_sumOf 30 = .ok (.goto (-26), 3) := by decide +kernel
theorem d_Mod_sumOf_33 : decode b_Mod_sumOf 33 = .ok (.iload_n 2, 1) := by decide +kernel
theorem d_Mod_sumOf_34 : decode b_Mod_sumOf 34 = .ok (.ireturn, 1) := by decide +kernel
theorem d_Mod_mislaid_0 : decode b_Mod_mislaid 0 = .ok (.iconst 0, 1) := by decide +kernel
theorem d_Mod_mislaid_1 : decode b_Mod_mislaid 1 = .ok (.istore_n 1, 1) := by decide +kernel
theorem d_Mod_mislaid_2 : decode b_Mod_mislaid 2 = .ok (.iconst 0, 1) := by decide +kernel
theorem d_Mod_mislaid_3 : decode b_Mod_mislaid 3 = .ok (.istore_n 2, 1) := by decide +kernel
theorem d_Mod_mislaid_4 : decode b_Mod_mislaid 4 = .ok (.iload_n 2, 1) := by decide +kernel
theorem d_Mod_mislaid_5 : decode b_Mod_mislaid 5 = .ok (.aload_n 0, 1) := by decide +kernel
theorem d_Mod_mislaid_6 : decode b_Mod_mislaid 6 = .ok (.getfield 7, 3) := by decide +kernel
theorem d_Mod_mislaid_9 : decode b_Mod_mislaid 9 = .ok (.iconst 1, 1) := by decide +kernel
theorem d_Mod_mislaid_10 : decode b_Mod_mislaid 10 = .ok (.iaload, 1) := by decide +kernel
theorem d_Mod_mislaid_11 : decode b_Mod_mislaid 11 = .ok (.if_icmp .ge 31, 3) := by decide +kernel
theorem d_Mod_mislaid_14 : decode b_Mod_mislaid 14 = .ok (.iload_n 1, 1) := by decide +kernel
theorem d_Mod_mislaid_15 : decode b_Mod_mislaid 15 = .ok (.aload_n 0, 1) := by decide +kernel
theorem d_Mod_mislaid_16 : decode b_Mod_mislaid 16 = .ok (.getfield 7, 3) := by decide +kernel
theorem d_Mod_mislaid_19 : decode b_Mod_mislaid 19 = .ok (.iload_n 2, 1) := by decide +kernel
theorem d_Mod_mislaid_20 : decode b_Mod_mislaid 20 = .ok (.iconst 1, 1) := by decide +kernel
theorem d_Mod_mislaid_21 : decode b_Mod_mislaid 21 = .ok (.invokestatic 43, 3) := by decide +kernel
theorem d_Mod_mislaid_24 : decode b_Mod_mislaid 24 = .ok (.iaload, 1) := by decide +kernel
theorem d_Mod_mislaid_25 : decode b_Mod_mislaid 25 = .ok (.iconst 1, 1) := by decide +kernel
theorem d_Mod_mislaid_26 : decode b_Mod_mislaid 26 = .ok (.if_icmp .ne 7, 3) := by decide +kernel
theorem d_Mod_mislaid_29 : decode b_Mod_mislaid 29 = .ok (.iconst 1, 1) := by decide +kernel
theorem d_Mod_mislaid_30 : decode b_Mod_mislaid 30 = .ok (.goto 4, 3) := by decide +kernel
theorem d_Mod_mislaid_33 : decode b_Mod_mislaid 33 = .ok (.iconst 0, 1) := by decide +kernel
theorem d_Mod_mislaid_34 : decode b_Mod_mislaid 34 = .ok (.iadd, 1) := by decide +kernel
theorem d_Mod_mislaid_35 : decode b_Mod_mislaid 35 = .ok (.istore_n 1, 1) := by decide +kernel
theorem d_Mod_mislaid_36 : decode b_Mod_mislaid 36 = .ok (.iinc 2 1, 3) := by decide +kernel
theorem d_Mod_mislaid_39 : decode b_Mod_mislaid 39 = .ok (.goto (-35), 3) := by decide +kernel
theorem d_Mod_mislaid_42 : decode b_Mod_mislaid 42 = .ok (.iload_n 1, 1) := by decide +kernel
theorem d_Mod_mislaid_43 : decode b_Mod_mislaid 43 = .ok (.ireturn, 1) := by decide +kernel
theorem d_Mod_count_0 : decode b_Mod_count 0 = .ok (.iload_n 1, 1) := by decide +kernel
theorem d_Mod_count_1 : decode b_Mod_count 1 = .ok (.tableswitch 148 0 15 #[79, 79, 79, 79, 79, 86, 92, 92, 92, 92, 101, 106, 112, 120, 138, 143], 79) := by decide +kernel
theorem d_Mod_count_80 : decode b_Mod_count 80 = .ok (.aload_n 0, 1) := by decide +kernel
theorem d_Mod_count_81 : decode b_Mod_count 81 = .ok (.getfield 7, 3) := by decide +kernel
theorem d_Mod_count_84 : decode b_Mod_count 84 = .ok (.iload_n 1, 1) := by decide +kernel
theorem d_Mod_count_85 : decode b_Mod_count 85 = .ok (.iaload, 1) := by decide +kernel
theorem d_Mod_count_86 : decode b_Mod_count 86 = .ok (.ireturn, 1) := by decide +kernel
theorem d_Mod_count_87 : decode b_Mod_count 87 = .ok (.aload_n 0, 1) := by decide +kernel
theorem d_Mod_count_88 : decode b_Mod_count 88 = .ok (.iconst 0, 1) := by decide +kernel
theorem d_Mod_count_89 : decode b_Mod_count 89 = .ok (.invokevirtual 162, 3) := by decide +kernel
theorem d_Mod_count_92 : decode b_Mod_count 92 = .ok (.ireturn, 1) := by decide +kernel
theorem d_Mod_count_93 : decode b_Mod_count 93 = .ok (.aload_n 0, 1) := by decide +kernel
theorem d_Mod_count_94 : decode b_Mod_count 94 = .ok (.getfield 7, 3) := by decide +kernel
theorem d_Mod_count_97 : decode b_Mod_count 97 = .ok (.iload_n 1, 1) := by decide +kernel
theorem d_Mod_count_98 : decode b_Mod_count 98 = .ok (.iconst 1, 1) := by decide +kernel
theorem d_Mod_count_99 : decode b_Mod_count 99 = .ok (.isub, 1) := by decide +kernel
theorem d_Mod_count_100 : decode b_Mod_count 100 = .ok (.iaload, 1) := by decide +kernel
theorem d_Mod_count_101 : decode b_Mod_count 101 = .ok (.ireturn, 1) := by decide +kernel
theorem d_Mod_count_102 : decode b_Mod_count 102 = .ok (.aload_n 0, 1) := by decide +kernel
theorem d_Mod_count_103 : decode b_Mod_count 103 = .ok (.invokevirtual 165, 3) := by decide +kernel
theorem d_Mod_count_106 : decode b_Mod_count 106 = .ok (.ireturn, 1) := by decide +kernel
theorem d_Mod_count_107 : decode b_Mod_count 107 = .ok (.aload_n 0, 1) := by decide +kernel
theorem d_Mod_count_108 : decode b_Mod_count 108 = .ok (.iconst 5, 1) := by decide +kernel
theorem d_Mod_count_109 : decode b_Mod_count 109 = .ok (.invokevirtual 162, 3) := by decide +kernel
theorem d_Mod_count_112 : decode b_Mod_count 112 = .ok (.ireturn, 1) := by decide +kernel
theorem d_Mod_count_113 : decode b_Mod_count 113 = .ok (.aload_n 0, 1) := by decide +kernel
theorem d_Mod_count_114 : decode b_Mod_count 114 = .ok (.getfield 7, 3) := by decide +kernel
theorem d_Mod_count_117 : decode b_Mod_count 117 = .ok (.bipush 9, 2) := by decide +kernel
theorem d_Mod_count_119 : decode b_Mod_count 119 = .ok (.iaload, 1) := by decide +kernel
theorem d_Mod_count_120 : decode b_Mod_count 120 = .ok (.ireturn, 1) := by decide +kernel
theorem d_Mod_count_121 : decode b_Mod_count 121 = .ok (.aload_n 0, 1) := by decide +kernel
theorem d_Mod_count_122 : decode b_Mod_count 122 = .ok (.getfield 7, 3) := by decide +kernel
theorem d_Mod_count_125 : decode b_Mod_count 125 = .ok (.sipush 678, 3) := by decide +kernel
theorem d_Mod_count_128 : decode b_Mod_count 128 = .ok (.iaload, 1) := by decide +kernel
theorem d_Mod_count_129 : decode b_Mod_count 129 = .ok (.aload_n 0, 1) := by decide +kernel
theorem d_Mod_count_130 : decode b_Mod_count 130 = .ok (.getfield 7, 3) := by decide +kernel
theorem d_Mod_count_133 : decode b_Mod_count 133 = .ok (.sipush 679, 3) := by decide +kernel
theorem d_Mod_count_136 : decode b_Mod_count 136 = .ok (.iaload, 1) := by decide +kernel
theorem d_Mod_count_137 : decode b_Mod_count 137 = .ok (.iadd, 1) := by decide +kernel
theorem d_Mod_count_138 : decode b_Mod_count 138 = .ok (.ireturn, 1) := by decide +kernel
theorem d_Mod_count_139 : decode b_Mod_count 139 = .ok (.aload_n 0, 1) := by decide +kernel
theorem d_Mod_count_140 : decode b_Mod_count 140 = .ok (.getfield 28, 3) := by decide +kernel
theorem d_Mod_count_143 : decode b_Mod_count 143 = .ok (.ireturn, 1) := by decide +kernel
theorem d_Mod_count_144 : decode b_Mod_count 144 = .ok (.aload_n 0, 1) := by decide +kernel
theorem d_Mod_count_145 : decode b_Mod_count 145 = .ok (.getfield 129, 3) := by decide +kernel
theorem d_Mod_count_148 : decode b_Mod_count 148 = .ok (.ireturn, 1) := by decide +kernel
theorem d_Mod_count_149 : decode b_Mod_count 149 = .ok (.iconst (-1), 1) := by decide +kernel
theorem d_Mod_count_150 : decode b_Mod_count 150 = .ok (.ireturn, 1) := by decide +kernel
theorem d_Mod_goodWeeks_0 : decode b_Mod_goodWeeks 0 = .ok (.iconst 0, 1) := by decide +kernel
theorem d_Mod_goodWeeks_1 : decode b_Mod_goodWeeks 1 = .ok (.istore_n 2, 1) := by decide +kernel
theorem d_Mod_goodWeeks_2 : decode b_Mod_goodWeeks 2 = .ok (.iconst 0, 1) := by decide +kernel
theorem d_Mod_goodWeeks_3 : decode b_Mod_goodWeeks 3 = .ok (.istore_n 3, 1) := by decide +kernel
theorem d_Mod_goodWeeks_4 : decode b_Mod_goodWeeks 4 = .ok (.iload_n 3, 1) := by decide +kernel
theorem d_Mod_goodWeeks_5 : decode b_Mod_goodWeeks 5 = .ok (.bipush 60, 2) := by decide +kernel
theorem d_Mod_goodWeeks_7 : decode b_Mod_goodWeeks 7 = .ok (.if_icmp .gt 26, 3) := by decide +kernel
theorem d_Mod_goodWeeks_10 : decode b_Mod_goodWeeks 10 = .ok (.iload_n 2, 1) := by decide +kernel
theorem d_Mod_goodWeeks_11 : decode b_Mod_goodWeeks 11 = .ok (.aload_n 0, 1) := by decide +kernel
theorem d_Mod_goodWeeks_12 : decode b_Mod_goodWeeks 12 = .ok (.iload_n 1, 1) := by decide +kernel
theorem d_Mod_goodWeeks_13 : decode b_Mod_goodWeeks 13 = .ok (.iload_n 3, 1) := by decide +kernel
theorem d_Mod_goodWeeks_14 : decode b_Mod_goodWeeks 14 = .ok (.invokevirtual 53, 3) := by decide +kernel
theorem d_Mod_goodWeeks_17 : decode b_Mod_goodWeeks 17 = .ok (.ifCond .eq 7, 3) := by decide +kernel
theorem d_Mod_goodWeeks_20 : decode b_Mod_goodWeeks 20 = .ok (.iconst 1, 1) := by decide +kernel
theorem d_Mod_goodWeeks_21 : decode b_Mod_goodWeeks 21 = .ok (.goto 4, 3) := by decide +kernel
theorem d_Mod_goodWeeks_24 : decode b_Mod_goodWeeks 24 = .ok (.iconst 0, 1) := by decide +kernel
theorem d_Mod_goodWeeks_25 : decode b_Mod_goodWeeks 25 = .ok (.iadd, 1) := by decide +kernel
theorem d_Mod_goodWeeks_26 : decode b_Mod_goodWeeks 26 = .ok (.istore_n 2, 1) := by decide +kernel
theorem d_Mod_goodWeeks_27 : decode b_Mod_goodWeeks 27 = .ok (.iinc 3 1, 3) := by decide +kernel
theorem d_Mod_goodWeeks_30 : decode b_Mod_goodWeeks 30 = .ok (.goto (-26), 3) := by decide +kernel
theorem d_Mod_goodWeeks_33 : decode b_Mod_goodWeeks 33 = .ok (.iload_n 2, 1) := by decide +kernel
theorem d_Mod_goodWeeks_34 : decode b_Mod_goodWeeks 34 = .ok (.ireturn, 1) := by decide +kernel
theorem d_Mod_rowOf_0 : decode b_Mod_rowOf 0 = .ok (.aload_n 0, 1) := by decide +kernel
theorem d_Mod_rowOf_1 : decode b_Mod_rowOf 1 = .ok (.iload_n 1, 1) := by decide +kernel
theorem d_Mod_rowOf_2 : decode b_Mod_rowOf 2 = .ok (.aload_n 0, 1) := by decide +kernel
theorem d_Mod_rowOf_3 : decode b_Mod_rowOf 3 = .ok (.getfield 7, 3) := by decide +kernel
theorem d_Mod_rowOf_6 : decode b_Mod_rowOf 6 = .ok (.iconst 0, 1) := by decide +kernel
theorem d_Mod_rowOf_7 : decode b_Mod_rowOf 7 = .ok (.iaload, 1) := by decide +kernel
theorem d_Mod_rowOf_8 : decode b_Mod_rowOf 8 = .ok (.invokevirtual 53, 3) := by decide +kernel
theorem d_Mod_rowOf_11 : decode b_Mod_rowOf 11 = .ok (.ifCond .eq 7, 3) := by decide +kernel
theorem d_Mod_rowOf_14 : decode b_Mod_rowOf 14 = .ok (.iconst 1, 1) := by decide +kernel
theorem d_Mod_rowOf_15 : decode b_Mod_rowOf 15 = .ok (.goto 4, 3) := by decide +kernel
theorem d_Mod_rowOf_18 : decode b_Mod_rowOf 18 = .ok (.iconst 0, 1) := by decide +kernel
theorem d_Mod_rowOf_19 : decode b_Mod_rowOf 19 = .ok (.istore_n 2, 1) := by decide +kernel
theorem d_Mod_rowOf_20 : decode b_Mod_rowOf 20 = .ok (.aload_n 0, 1) := by decide +kernel
theorem d_Mod_rowOf_21 : decode b_Mod_rowOf 21 = .ok (.getfield 7, 3) := by decide +kernel
theorem d_Mod_rowOf_24 : decode b_Mod_rowOf 24 = .ok (.iconst 0, 1) := by decide +kernel
theorem d_Mod_rowOf_25 : decode b_Mod_rowOf 25 = .ok (.iaload, 1) := by decide +kernel
theorem d_Mod_rowOf_26 : decode b_Mod_rowOf 26 = .ok (.iconst 1, 1) := by decide +kernel
theorem d_Mod_rowOf_27 : decode b_Mod_rowOf 27 = .ok (.isub, 1) := by decide +kernel
theorem d_Mod_rowOf_28 : decode b_Mod_rowOf 28 = .ok (.istore_n 3, 1) := by decide +kernel
theorem d_Mod_rowOf_29 : decode b_Mod_rowOf 29 = .ok (.aload_n 0, 1) := by decide +kernel
theorem d_Mod_rowOf_30 : decode b_Mod_rowOf 30 = .ok (.iload_n 1, 1) := by decide +kernel
theorem d_Mod_rowOf_31 : decode b_Mod_rowOf 31 = .ok (.iload_n 3, 1) := by decide +kernel
theorem d_Mod_rowOf_32 : decode b_Mod_rowOf 32 = .ok (.invokevirtual 53, 3) := by decide +kernel
theorem d_Mod_rowOf_35 : decode b_Mod_rowOf 35 = .ok (.ifCond .eq 12, 3) := by decide +kernel
theorem d_Mod_rowOf_38 : decode b_Mod_rowOf 38 = .ok (.iinc 2 1, 3) := by decide +kernel
theorem d_Mod_rowOf_41 : decode b_Mod_rowOf 41 = .ok (.iinc 3 (-1), 3) := by decide +kernel
theorem d_Mod_rowOf_44 : decode b_Mod_rowOf 44 = .ok (.goto (-15), 3) := by decide +kernel
theorem d_Mod_rowOf_47 : decode b_Mod_rowOf 47 = .ok (.iload_n 2, 1) := by decide +kernel
theorem d_Mod_rowOf_48 : decode b_Mod_rowOf 48 = .ok (.ireturn, 1) := by decide +kernel
theorem d_Mod_waitsAt_0 : decode b_Mod_waitsAt 0 = .ok (.aload_n 0, 1) := by decide +kernel
theorem d_Mod_waitsAt_1 : decode b_Mod_waitsAt 1 = .ok (.getfield 7, 3) := by decide +kernel
theorem d_Mod_waitsAt_4 : decode b_Mod_waitsAt 4 = .ok (.iload_n 1, 1) := by decide +kernel
theorem d_Mod_waitsAt_5 : decode b_Mod_waitsAt 5 = .ok (.iconst 3, 1) := by decide +kernel
theorem d_Mod_waitsAt_6 : decode b_Mod_waitsAt 6 = .ok (.invokestatic 43, 3) := by decide +kernel
theorem d_Mod_waitsAt_9 : decode b_Mod_waitsAt 9 = .ok (.iaload, 1) := by decide +kernel
theorem d_Mod_waitsAt_10 : decode b_Mod_waitsAt 10 = .ok (.istore_n 2, 1) := by decide +kernel
theorem d_Mod_waitsAt_11 : decode b_Mod_waitsAt 11 = .ok (.iload_n 2, 1) := by decide +kernel
theorem d_Mod_waitsAt_12 : decode b_Mod_waitsAt 12 = .ok (.bipush (-9), 2) := by decide +kernel
theorem d_Mod_waitsAt_14 : decode b_Mod_waitsAt 14 = .ok (.if_icmp .eq 17, 3) := by decide +kernel
theorem d_Mod_waitsAt_17 : decode b_Mod_waitsAt 17 = .ok (.aload_n 0, 1) := by decide +kernel
theorem d_Mod_waitsAt_18 : decode b_Mod_waitsAt 18 = .ok (.getfield 7, 3) := by decide +kernel
theorem d_Mod_waitsAt_21 : decode b_Mod_waitsAt 21 = .ok (.iload_n 1, 1) := by decide +kernel
theorem d_Mod_waitsAt_22 : decode b_Mod_waitsAt 22 = .ok (.iconst 4, 1) := by decide +kernel
theorem d_Mod_waitsAt_23 : decode b_Mod_waitsAt 23 = .ok (.invokestatic 43, 3) := by decide +kernel
theorem d_Mod_waitsAt_26 : decode b_Mod_waitsAt 26 = .ok (.iaload, 1) := by decide +kernel
theorem d_Mod_waitsAt_27 : decode b_Mod_waitsAt 27 = .ok (.iconst 1, 1) := by decide +kernel
theorem d_Mod_waitsAt_28 : decode b_Mod_waitsAt 28 = .ok (.if_icmp .ne 7, 3) := by decide +kernel
theorem d_Mod_waitsAt_31 : decode b_Mod_waitsAt 31 = .ok (.iconst 0, 1) := by decide +kernel
theorem d_Mod_waitsAt_32 : decode b_Mod_waitsAt 32 = .ok (.goto 11, 3) := by decide +kernel
theorem d_Mod_waitsAt_35 : decode b_Mod_waitsAt 35 = .ok (.aload_n 0, 1) := by decide +kernel
theorem d_Mod_waitsAt_36 : decode b_Mod_waitsAt 36 = .ok (.iload_n 1, 1) := by decide +kernel
theorem d_Mod_waitsAt_37 : decode b_Mod_waitsAt 37 = .ok (.iload_n 2, 1) := by decide +kernel
theorem d_Mod_waitsAt_38 : decode b_Mod_waitsAt 38 = .ok (.invokevirtual 95, 3) := by decide +kernel
theorem d_Mod_waitsAt_41 : decode b_Mod_waitsAt 41 = .ok (.iconst 1, 1) := by decide +kernel
theorem d_Mod_waitsAt_42 : decode b_Mod_waitsAt 42 = .ok (.iadd, 1) := by decide +kernel
theorem d_Mod_waitsAt_43 : decode b_Mod_waitsAt 43 = .ok (.ireturn, 1) := by decide +kernel
theorem d_Mod_member_0 : decode b_Mod_member 0 = .ok (.aload_n 0, 1) := by decide +kernel
theorem d_Mod_member_1 : decode b_Mod_member 1 = .ok (.iload_n 1, 1) := by decide +kernel
theorem d_Mod_member_2 : decode b_Mod_member 2 = .ok (.invokevirtual 46, 3) := by decide +kernel
theorem d_Mod_member_5 : decode b_Mod_member 5 = .ok (.ifCond .ne 5, 3) := by decide +kernel
theorem d_Mod_member_8 : decode b_Mod_member 8 = .ok (.iconst (-1), 1) := by decide +kernel
theorem d_Mod_member_9 : decode b_Mod_member 9 = .ok (.ireturn, 1) := by decide +kernel
theorem d_Mod_member_10 : decode b_Mod_member 10 = .ok (.iload_n 2, 1) := by decide +kernel
theorem d_Mod_member_11 : decode b_Mod_member 11 = .ok (.tableswitch 123 0 10 #[57, 57, 68, 68, 81, 87, 98, 104, 110, 110, 110], 57) := by decide +kernel
theorem d_Mod_member_68 : decode b_Mod_member 68 = .ok (.aload_n 0, 1) := by decide +kernel
theorem d_Mod_member_69 : decode b_Mod_member 69 = .ok (.getfield 7, 3) := by decide +kernel
theorem d_Mod_member_72 : decode b_Mod_member 72 = .ok (.iload_n 1, 1) := by decide +kernel
theorem d_Mod_member_73 : decode b_Mod_member 73 = .ok (.iload_n 2, 1) := by decide +kernel
theorem d_Mod_member_74 : decode b_Mod_member 74 = .ok (.invokestatic 43, 3) := by decide +kernel
theorem d_Mod_member_77 : decode b_Mod_member 77 = .ok (.iaload, 1) := by decide +kernel
theorem d_Mod_member_78 : decode b_Mod_member 78 = .ok (.ireturn, 1) := by decide +kernel
theorem d_Mod_member_79 : decode b_Mod_member 79 = .ok (.aload_n 0, 1) := by decide +kernel
theorem d_Mod_member_80 : decode b_Mod_member 80 = .ok (.getfield 7, 3) := by decide +kernel
theorem d_Mod_member_83 : decode b_Mod_member 83 = .ok (.iload_n 1, 1) := by decide +kernel
theorem d_Mod_member_84 : decode b_Mod_member 84 = .ok (.iload_n 2, 1) := by decide +kernel
theorem d_Mod_member_85 : decode b_Mod_member 85 = .ok (.iconst 1, 1) := by decide +kernel
theorem d_Mod_member_86 : decode b_Mod_member 86 = .ok (.iadd, 1) := by decide +kernel
theorem d_Mod_member_87 : decode b_Mod_member 87 = .ok (.invokestatic 43, 3) := by decide +kernel
theorem d_Mod_member_90 : decode b_Mod_member 90 = .ok (.iaload, 1) := by decide +kernel
theorem d_Mod_member_91 : decode b_Mod_member 91 = .ok (.ireturn, 1) := by decide +kernel
theorem d_Mod_member_92 : decode b_Mod_member 92 = .ok (.aload_n 0, 1) := by decide +kernel
theorem d_Mod_member_93 : decode b_Mod_member 93 = .ok (.iload_n 1, 1) := by decide +kernel
theorem d_Mod_member_94 : decode b_Mod_member 94 = .ok (.invokevirtual 168, 3) := by decide +kernel
theorem d_Mod_member_97 : decode b_Mod_member 97 = .ok (.ireturn, 1) := by decide +kernel
theorem d_Mod_member_98 : decode b_Mod_member 98 = .ok (.aload_n 0, 1) := by decide +kernel
theorem d_Mod_member_99 : decode b_Mod_member 99 = .ok (.getfield 7, 3) := by decide +kernel
theorem d_Mod_member_102 : decode b_Mod_member 102 = .ok (.iload_n 1, 1) := by decide +kernel
theorem d_Mod_member_103 : decode b_Mod_member 103 = .ok (.iconst 5, 1) := by decide +kernel
theorem d_Mod_member_104 : decode b_Mod_member 104 = .ok (.invokestatic 43, 3) := by decide +kernel
theorem d_Mod_member_107 : decode b_Mod_member 107 = .ok (.iaload, 1) := by decide +kernel
theorem d_Mod_member_108 : decode b_Mod_member 108 = .ok (.ireturn, 1) := by decide +kernel
theorem d_Mod_member_109 : decode b_Mod_member 109 = .ok (.aload_n 0, 1) := by decide +kernel
theorem d_Mod_member_110 : decode b_Mod_member 110 = .ok (.iload_n 1, 1) := by decide +kernel
theorem d_Mod_member_111 : decode b_Mod_member 111 = .ok (.invokevirtual 171, 3) := by decide +kernel
theorem d_Mod_member_114 : decode b_Mod_member 114 = .ok (.ireturn, 1) := by decide +kernel
theorem d_Mod_member_115 : decode b_Mod_member 115 = .ok (.aload_n 0, 1) := by decide +kernel
theorem d_Mod_member_116 : decode b_Mod_member 116 = .ok (.iload_n 1, 1) := by decide +kernel
theorem d_Mod_member_117 : decode b_Mod_member 117 = .ok (.invokevirtual 174, 3) := by decide +kernel
theorem d_Mod_member_120 : decode b_Mod_member 120 = .ok (.ireturn, 1) := by decide +kernel
theorem d_Mod_member_121 : decode b_Mod_member 121 = .ok (.aload_n 0, 1) := by decide +kernel
theorem d_Mod_member_122 : decode b_Mod_member 122 = .ok (.getfield 7, 3) := by decide +kernel
theorem d_Mod_member_125 : decode b_Mod_member 125 = .ok (.iload_n 1, 1) := by decide +kernel
theorem d_Mod_member_126 : decode b_Mod_member 126 = .ok (.iload_n 2, 1) := by decide +kernel
theorem d_Mod_member_127 : decode b_Mod_member 127 = .ok (.iconst 1, 1) := by decide +kernel
theorem d_Mod_member_128 : decode b_Mod_member 128 = .ok (.iadd, 1) := by decide +kernel
theorem d_Mod_member_129 : decode b_Mod_member 129 = .ok (.invokestatic 43, 3) := by decide +kernel
theorem d_Mod_member_132 : decode b_Mod_member 132 = .ok (.iaload, 1) := by decide +kernel
theorem d_Mod_member_133 : decode b_Mod_member 133 = .ok (.ireturn, 1) := by decide +kernel
theorem d_Mod_member_134 : decode b_Mod_member 134 = .ok (.iconst (-1), 1) := by decide +kernel
theorem d_Mod_member_135 : decode b_Mod_member 135 = .ok (.ireturn, 1) := by decide +kernel
theorem d_Mod_isGood_0 : decode b_Mod_isGood 0 = .ok (.aload_n 0, 1) := by decide +kernel
theorem d_Mod_isGood_1 : decode b_Mod_isGood 1 = .ok (.iload_n 1, 1) := by decide +kernel
theorem d_Mod_isGood_2 : decode b_Mod_isGood 2 = .ok (.invokevirtual 46, 3) := by decide +kernel
theorem d_Mod_isGood_5 : decode b_Mod_isGood 5 = .ok (.ifCond .eq 13, 3) := by decide +kernel
theorem d_Mod_isGood_8 : decode b_Mod_isGood 8 = .ok (.iload_n 2, 1) := by decide +kernel
theorem d_Mod_isGood_9 : decode b_Mod_isGood 9 = .ok (.iconst 0, 1) := by decide +kernel
theorem d_Mod_isGood_10 : decode b_Mod_isGood 10 = .ok (.bipush 60, 2) := by decide +kernel
theorem d_Mod_isGood_12 : decode b_Mod_isGood 12 = .ok (.invokestatic 24, 3) := by decide +kernel
theorem d_Mod_isGood_15 : decode b_Mod_isGood 15 = .ok (.ifCond .ne 5, 3) := by decide +kernel
theorem d_Mod_isGood_18 : decode b_Mod_isGood 18 = .ok (.iconst (-1), 1) := by decide +kernel
theorem d_Mod_isGood_19 : decode b_Mod_isGood 19 = .ok (.ireturn, 1) := by decide +kernel
theorem d_Mod_isGood_20 : decode b_Mod_isGood 20 = .ok (.aload_n 0, 1) := by decide +kernel
theorem d_Mod_isGood_21 : decode b_Mod_isGood 21 = .ok (.iload_n 1, 1) := by decide +kernel
theorem d_Mod_isGood_22 : decode b_Mod_isGood 22 = .ok (.iload_n 2, 1) := by decide +kernel
theorem d_Mod_isGood_23 : decode b_Mod_isGood 23 = .ok (.invokevirtual 53, 3) := by decide +kernel
theorem d_Mod_isGood_26 : decode b_Mod_isGood 26 = .ok (.ifCond .eq 7, 3) := by decide +kernel
theorem d_Mod_isGood_29 : decode b_Mod_isGood 29 = .ok (.iconst 1, 1) := by decide +kernel
theorem d_Mod_isGood_30 : decode b_Mod_isGood 30 = .ok (.goto 4, 3) := by decide +kernel
theorem d_Mod_isGood_33 : decode b_Mod_isGood 33 = .ok (.iconst 0, 1) := by decide +kernel
theorem d_Mod_isGood_34 : decode b_Mod_isGood 34 = .ok (.ireturn, 1) := by decide +kernel
theorem d_Mod_keptOf_0 : decode b_Mod_keptOf 0 = .ok (.iconst 0, 1) := by decide +kernel
theorem d_Mod_keptOf_1 : decode b_Mod_keptOf 1 = .ok (.istore_n 2, 1) := by decide +kernel
theorem d_Mod_keptOf_2 : decode b_Mod_keptOf 2 = .ok (.iconst 0, 1) := by decide +kernel
theorem d_Mod_keptOf_3 : decode b_Mod_keptOf 3 = .ok (.istore_n 3, 1) := by decide +kernel
theorem d_Mod_keptOf_4 : decode b_Mod_keptOf 4 = .ok (.iload_n 3, 1) := by decide +kernel
theorem d_Mod_keptOf_5 : decode b_Mod_keptOf 5 = .ok (.aload_n 0, 1) := by decide +kernel
theorem d_Mod_keptOf_6 : decode b_Mod_keptOf 6 = .ok (.getfield 7, 3) := by decide +kernel
theorem d_Mod_keptOf_9 : decode b_Mod_keptOf 9 = .ok (.iconst 1, 1) := by decide +kernel
theorem d_Mod_keptOf_10 : decode b_Mod_keptOf 10 = .ok (.iaload, 1) := by decide +kernel
theorem d_Mod_keptOf_11 : decode b_Mod_keptOf 11 = .ok (.if_icmp .ge 45, 3) := by decide +kernel
theorem d_Mod_keptOf_14 : decode b_Mod_keptOf 14 = .ok (.iload_n 2, 1) := by decide +kernel
theorem d_Mod_keptOf_15 : decode b_Mod_keptOf 15 = .ok (.aload_n 0, 1) := by decide +kernel
theorem d_Mod_keptOf_16 : decode b_Mod_keptOf 16 = .ok (.getfield 7, 3) := by decide +kernel
theorem d_Mod_keptOf_19 : decode b_Mod_keptOf 19 = .ok (.iload_n 3, 1) := by decide +kernel
theorem d_Mod_keptOf_20 : decode b_Mod_keptOf 20 = .ok (.iconst 3, 1) := by decide +kernel
theorem d_Mod_keptOf_21 : decode b_Mod_keptOf 21 = .ok (.invokestatic 43, 3) := by decide +kernel
theorem d_Mod_keptOf_24 : decode b_Mod_keptOf 24 = .ok (.iaload, 1) := by decide +kernel
theorem d_Mod_keptOf_25 : decode b_Mod_keptOf 25 = .ok (.iload_n 1, 1) := by decide +kernel
theorem d_Mod_keptOf_26 : decode b_Mod_keptOf 26 = .ok (.if_icmp .ne 21, 3) := by decide +kernel
theorem d_Mod_keptOf_29 : decode b_Mod_keptOf 29 = .ok (.aload_n 0, 1) := by decide +kernel
theorem d_Mod_keptOf_30 : decode b_Mod_keptOf 30 = .ok (.getfield 7, 3) := by decide +kernel
theorem d_Mod_keptOf_33 : decode b_Mod_keptOf 33 = .ok (.iload_n 3, 1) := by decide +kernel
theorem d_Mod_keptOf_34 : decode b_Mod_keptOf 34 = .ok (.iconst 4, 1) := by decide +kernel
theorem d_Mod_keptOf_35 : decode b_Mod_keptOf 35 = .ok (.invokestatic 43, 3) := by decide +kernel
theorem d_Mod_keptOf_38 : decode b_Mod_keptOf 38 = .ok (.iaload, 1) := by decide +kernel
theorem d_Mod_keptOf_39 : decode b_Mod_keptOf 39 = .ok (.iconst 1, 1) := by decide +kernel
theorem d_Mod_keptOf_40 : decode b_Mod_keptOf 40 = .ok (.if_icmp .ne 7, 3) := by decide +kernel
theorem d_Mod_keptOf_43 : decode b_Mod_keptOf 43 = .ok (.iconst 1, 1) := by decide +kernel
theorem d_Mod_keptOf_44 : decode b_Mod_keptOf 44 = .ok (.goto 4, 3) := by decide +kernel
theorem d_Mod_keptOf_47 : decode b_Mod_keptOf 47 = .ok (.iconst 0, 1) := by decide +kernel
theorem d_Mod_keptOf_48 : decode b_Mod_keptOf 48 = .ok (.iadd, 1) := by decide +kernel
theorem d_Mod_keptOf_49 : decode b_Mod_keptOf 49 = .ok (.istore_n 2, 1) := by decide +kernel
theorem d_Mod_keptOf_50 : decode b_Mod_keptOf 50 = .ok (.iinc 3 1, 3) := by decide +kernel
theorem d_Mod_keptOf_53 : decode b_Mod_keptOf 53 = .ok (.goto (-49), 3) := by decide +kernel
theorem d_Mod_keptOf_56 : decode b_Mod_keptOf 56 = .ok (.iload_n 2, 1) := by decide +kernel
theorem d_Mod_keptOf_57 : decode b_Mod_keptOf 57 = .ok (.ireturn, 1) := by decide +kernel
theorem d_Mod_hamper_0 : decode b_Mod_hamper 0 = .ok (.iload_n 1, 1) := by decide +kernel
theorem d_Mod_hamper_1 : decode b_Mod_hamper 1 = .ok (.invokestatic 86, 3) := by decide +kernel
theorem d_Mod_hamper_4 : decode b_Mod_hamper 4 = .ok (.ifCond .eq 12, 3) := by decide +kernel
theorem d_Mod_hamper_7 : decode b_Mod_hamper 7 = .ok (.iload_n 2, 1) := by decide +kernel
theorem d_Mod_hamper_8 : decode b_Mod_hamper 8 = .ok (.iconst 0, 1) := by decide +kernel
theorem d_Mod_hamper_9 : decode b_Mod_hamper 9 = .ok (.iconst 3, 1) := by decide +kernel
theorem d_Mod_hamper_10 : decode b_Mod_hamper 10 = .ok (.invokestatic 24, 3) := by decide +kernel
theorem d_Mod_hamper_13 : decode b_Mod_hamper 13 = .ok (.ifCond .ne 5, 3) := by decide +kernel
theorem d_Mod_hamper_16 : decode b_Mod_hamper 16 = .ok (.iconst (-1), 1) := by decide +kernel
theorem d_Mod_hamper_17 : decode b_Mod_hamper 17 = .ok (.ireturn, 1) := by decide +kernel
theorem d_Mod_hamper_18 : decode b_Mod_hamper 18 = .ok (.iload_n 2, 1) := by decide +kernel
theorem d_Mod_hamper_19 : decode b_Mod_hamper 19 = .ok (.iconst 2, 1) := by decide +kernel
theorem d_Mod_hamper_20 : decode b_Mod_hamper 20 = .ok (.if_icmp .ge 16, 3) := by decide +kernel
theorem d_Mod_hamper_23 : decode b_Mod_hamper 23 = .ok (.aload_n 0, 1) := by decide +kernel
theorem d_Mod_hamper_24 : decode b_Mod_hamper 24 = .ok (.getfield 7, 3) := by decide +kernel
theorem d_Mod_hamper_27 : decode b_Mod_hamper 27 = .ok (.iload_n 1, 1) := by decide +kernel
theorem d_Mod_hamper_28 : decode b_Mod_hamper 28 = .ok (.iload_n 2, 1) := by decide +kernel
theorem d_Mod_hamper_29 : decode b_Mod_hamper 29 = .ok (.invokestatic 20, 3) := by decide +kernel
theorem d_Mod_hamper_32 : decode b_Mod_hamper 32 = .ok (.iaload, 1) := by decide +kernel
theorem d_Mod_hamper_33 : decode b_Mod_hamper 33 = .ok (.goto 26, 3) := by decide +kernel
theorem d_Mod_hamper_36 : decode b_Mod_hamper 36 = .ok (.iload_n 2, 1) := by decide +kernel
theorem d_Mod_hamper_37 : decode b_Mod_hamper 37 = .ok (.iconst 2, 1) := by decide +kernel
theorem d_Mod_hamper_38 : decode b_Mod_hamper 38 = .ok (.if_icmp .ne 11, 3) := by decide +kernel
theorem d_Mod_hamper_41 : decode b_Mod_hamper 41 = .ok (.aload_n 0, 1) := by decide +kernel
theorem d_Mod_hamper_42 : decode b_Mod_hamper 42 = .ok (.iload_n 1, 1) := by decide +kernel
theorem d_Mod_hamper_43 : decode b_Mod_hamper 43 = .ok (.invokevirtual 177, 3) := by decide +kernel
theorem d_Mod_hamper_46 : decode b_Mod_hamper 46 = .ok (.goto 13, 3) := by decide +kernel
theorem d_Mod_hamper_49 : decode b_Mod_hamper 49 = .ok (.aload_n 0, 1) := by decide +kernel
theorem d_Mod_hamper_50 : decode b_Mod_hamper 50 = .ok (.getfield 7, 3) := by decide +kernel
theorem d_Mod_hamper_53 : decode b_Mod_hamper 53 = .ok (.iload_n 1, 1) := by decide +kernel
theorem d_Mod_hamper_54 : decode b_Mod_hamper 54 = .ok (.iconst 2, 1) := by decide +kernel
theorem d_Mod_hamper_55 : decode b_Mod_hamper 55 = .ok (.invokestatic 20, 3) := by decide +kernel
theorem d_Mod_hamper_58 : decode b_Mod_hamper 58 = .ok (.iaload, 1) := by decide +kernel
theorem d_Mod_hamper_59 : decode b_Mod_hamper 59 = .ok (.ireturn, 1) := by decide +kernel
theorem d_Mod_waiting_0 : decode b_Mod_waiting 0 = .ok (.iload_n 1, 1) := by decide +kernel
theorem d_Mod_waiting_1 : decode b_Mod_waiting 1 = .ok (.invokestatic 86, 3) := by decide +kernel
theorem d_Mod_waiting_4 : decode b_Mod_waiting 4 = .ok (.ifCond .eq 7, 3) := by decide +kernel
theorem d_Mod_waiting_7 : decode b_Mod_waiting 7 = .ok (.iload_n 2, 1) := by decide +kernel
theorem d_Mod_waiting_8 : decode b_Mod_waiting 8 = .ok (.ifCond .ge 5, 3) := by decide +kernel
theorem d_Mod_waiting_11 : decode b_Mod_waiting 11 = .ok (.iconst (-1), 1) := by decide +kernel
theorem d_Mod_waiting_12 : decode b_Mod_waiting 12 = .ok (.ireturn, 1) := by decide +kernel
theorem d_Mod_waiting_13 : decode b_Mod_waiting 13 = .ok (.iload_n 2, 1) := by decide +kernel
theorem d_Mod_waiting_14 : decode b_Mod_waiting 14 = .ok (.aload_n 0, 1) := by decide +kernel
theorem d_Mod_waiting_15 : decode b_Mod_waiting 15 = .ok (.getfield 7, 3) := by decide +kernel
theorem d_Mod_waiting_18 : decode b_Mod_waiting 18 = .ok (.iload_n 1, 1) := by decide +kernel
theorem d_Mod_waiting_19 : decode b_Mod_waiting 19 = .ok (.iconst 2, 1) := by decide +kernel
theorem d_Mod_waiting_20 : decode b_Mod_waiting 20 = .ok (.invokestatic 20, 3) := by decide +kernel
theorem d_Mod_waiting_23 : decode b_Mod_waiting 23 = .ok (.iaload, 1) := by decide +kernel
theorem d_Mod_waiting_24 : decode b_Mod_waiting 24 = .ok (.if_icmp .ge 18, 3) := by decide +kernel
theorem d_Mod_waiting_27 : decode b_Mod_waiting 27 = .ok (.aload_n 0, 1) := by decide +kernel
theorem d_Mod_waiting_28 : decode b_Mod_waiting 28 = .ok (.getfield 7, 3) := by decide +kernel
theorem d_Mod_waiting_31 : decode b_Mod_waiting 31 = .ok (.iload_n 1, 1) := by decide +kernel
theorem d_Mod_waiting_32 : decode b_Mod_waiting 32 = .ok (.iconst 3, 1) := by decide +kernel
theorem d_Mod_waiting_33 : decode b_Mod_waiting 33 = .ok (.iload_n 2, 1) := by decide +kernel
theorem d_Mod_waiting_34 : decode b_Mod_waiting 34 = .ok (.iadd, 1) := by decide +kernel
theorem d_Mod_waiting_35 : decode b_Mod_waiting 35 = .ok (.invokestatic 20, 3) := by decide +kernel
theorem d_Mod_waiting_38 : decode b_Mod_waiting 38 = .ok (.iaload, 1) := by decide +kernel
theorem d_Mod_waiting_39 : decode b_Mod_waiting 39 = .ok (.goto 5, 3) := by decide +kernel
theorem d_Mod_waiting_42 : decode b_Mod_waiting 42 = .ok (.bipush (-9), 2) := by decide +kernel
theorem d_Mod_waiting_44 : decode b_Mod_waiting 44 = .ok (.ireturn, 1) := by decide +kernel
theorem d_Mod_would_0 : decode b_Mod_would 0 = .ok (.aload_n 0, 1) := by decide +kernel
theorem d_Mod_would_1 : decode b_Mod_would 1 = .ok (.iload_n 1, 1) := by decide +kernel
theorem d_Mod_would_2 : decode b_Mod_would 2 = .ok (.invokevirtual 46, 3) := by decide +kernel
theorem d_Mod_would_5 : decode b_Mod_would 5 = .ok (.ifCond .eq 12, 3) := by decide +kernel
theorem d_Mod_would_8 : decode b_Mod_would 8 = .ok (.iload_n 2, 1) := by decide +kernel
theorem d_Mod_would_9 : decode b_Mod_would 9 = .ok (.iconst 0, 1) := by decide +kernel
theorem d_Mod_would_10 : decode b_Mod_would 10 = .ok (.iconst 2, 1) := by decide +kernel
theorem d_Mod_would_11 : decode b_Mod_would 11 = .ok (.invokestatic 24, 3) := by decide +kernel
theorem d_Mod_would_14 : decode b_Mod_would 14 = .ok (.ifCond .ne 5, 3) := by decide +kernel
theorem d_Mod_would_17 : decode b_Mod_would 17 = .ok (.iconst (-1), 1) := by decide +kernel
theorem d_Mod_would_18 : decode b_Mod_would 18 = .ok (.ireturn, 1) := by decide +kernel
theorem d_Mod_would_19 : decode b_Mod_would 19 = .ok (.aload_n 0, 1) := by decide +kernel
theorem d_Mod_would_20 : decode b_Mod_would 20 = .ok (.invokevirtual 39, 3) := by decide +kernel
theorem d_Mod_would_23 : decode b_Mod_would 23 = .ok (.ifCond .eq 6, 3) := by decide +kernel
theorem d_Mod_would_26 : decode b_Mod_would 26 = .ok (.bipush (-2), 2) := by decide +kernel
theorem d_Mod_would_28 : decode b_Mod_would 28 = .ok (.ireturn, 1) := by decide +kernel
theorem d_Mod_would_29 : decode b_Mod_would 29 = .ok (.aload_n 0, 1) := by decide +kernel
theorem d_Mod_would_30 : decode b_Mod_would 30 = .ok (.iconst 0, 1) := by decide +kernel
theorem d_Mod_would_31 : decode b_Mod_would 31 = .ok (.sipush 4080, 3) := by decide +kernel
theorem d_Mod_would_34 : decode b_Mod_would 34 = .ok (.sipush 226, 3) := by decide +kernel
theorem d_Mod_would_37 : decode b_Mod_would 37 = .ok (.invokevirtual 32, 3) := by decide +kernel
theorem d_Mod_would_40 : decode b_Mod_would 40 = .ok (.aload_n 0, 1) := by decide +kernel
theorem d_Mod_would_41 : decode b_Mod_would 41 = .ok (.getfield 7, 3) := by decide +kernel
theorem d_Mod_would_44 : decode b_Mod_would 44 = .ok (.iload_n 1, 1) := by decide +kernel
theorem d_Mod_would_45 : decode b_Mod_would 45 = .ok (.bipush 10, 2) := by decide +kernel
theorem d_Mod_would_47 : decode b_Mod_would 47 = .ok (.invokestatic 43, 3) := by decide +kernel
theorem d_Mod_would_50 : decode b_Mod_would 50 = .ok (.iaload, 1) := by decide +kernel
theorem d_Mod_would_51 : decode b_Mod_would 51 = .ok (.istore_n 3, 1) := by decide +kernel
theorem d_Mod_would_52 : decode b_Mod_would 52 = .ok (.aload_n 0, 1) := by decide +kernel
theorem d_Mod_would_53 : decode b_Mod_would 53 = .ok (.invokevirtual 126, 3) := by decide +kernel
theorem d_Mod_would_56 : decode b_Mod_would 56 = .ok (.pop, 1) := by decide +kernel
theorem d_Mod_would_57 : decode b_Mod_would 57 = .ok (.iload_n 2, 1) := by decide +kernel
theorem d_Mod_would_58 : decode b_Mod_would 58 = .ok (.ifCond .ne 17, 3) := by decide +kernel
theorem d_Mod_would_61 : decode b_Mod_would 61 = .ok (.aload_n 0, 1) := by decide +kernel
theorem d_Mod_would_62 : decode b_Mod_would 62 = .ok (.getfield 7, 3) := by decide +kernel
theorem d_Mod_would_65 : decode b_Mod_would 65 = .ok (.iload_n 1, 1) := by decide +kernel
theorem d_Mod_would_66 : decode b_Mod_would 66 = .ok (.bipush 12, 2) := by decide +kernel
theorem d_Mod_would_68 : decode b_Mod_would 68 = .ok (.invokestatic 43, 3) := by decide +kernel
theorem d_Mod_would_71 : decode b_Mod_would 71 = .ok (.iaload, 1) := by decide +kernel
theorem d_Mod_would_72 : decode b_Mod_would 72 = .ok (.goto 35, 3) := by decide +kernel
theorem d_Mod_would_75 : decode b_Mod_would 75 = .ok (.iload_n 2, 1) := by decide +kernel
theorem d_Mod_would_76 : decode b_Mod_would 76 = .ok (.iconst 1, 1) := by decide +kernel
theorem d_Mod_would_77 : decode b_Mod_would 77 = .ok (.if_icmp .ne 17, 3) := by decide +kernel
theorem d_Mod_would_80 : decode b_Mod_would 80 = .ok (.aload_n 0, 1) := by decide +kernel
theorem d_Mod_would_81 : decode b_Mod_would 81 = .ok (.getfield 7, 3) := by decide +kernel
theorem d_Mod_would_84 : decode b_Mod_would 84 = .ok (.iload_n 1, 1) := by decide +kernel
theorem d_Mod_would_85 : decode b_Mod_would 85 = .ok (.bipush 11, 2) := by decide +kernel
theorem d_Mod_would_87 : decode b_Mod_would 87 = .ok (.invokestatic 43, 3) := by decide +kernel
theorem d_Mod_would_90 : decode b_Mod_would 90 = .ok (.iaload, 1) := by decide +kernel
theorem d_Mod_would_91 : decode b_Mod_would 91 = .ok (.goto 16, 3) := by decide +kernel
theorem d_Mod_would_94 : decode b_Mod_would 94 = .ok (.aload_n 0, 1) := by decide +kernel
theorem d_Mod_would_95 : decode b_Mod_would 95 = .ok (.getfield 7, 3) := by decide +kernel
theorem d_Mod_would_98 : decode b_Mod_would 98 = .ok (.iload_n 1, 1) := by decide +kernel
theorem d_Mod_would_99 : decode b_Mod_would 99 = .ok (.bipush 10, 2) := by decide +kernel
theorem d_Mod_would_101 : decode b_Mod_would 101 = .ok (.invokestatic 43, 3) := by decide +kernel
theorem d_Mod_would_104 : decode b_Mod_would 104 = .ok (.iaload, 1) := by decide +kernel
theorem d_Mod_would_105 : decode b_Mod_would 105 = .ok (.iload_n 3, 1) := by decide +kernel
theorem d_Mod_would_106 : decode b_Mod_would 106 = .ok (.isub, 1) := by decide +kernel
theorem d_Mod_would_107 : decode b_Mod_would 107 = .ok (.istore 4, 2) := by decide +kernel
theorem d_Mod_would_109 : decode b_Mod_would 109 = .ok (.aload_n 0, 1) := by decide +kernel
theorem d_Mod_would_110 : decode b_Mod_would 110 = .ok (.sipush 4080, 3) := by decide +kernel
theorem d_Mod_would_113 : decode b_Mod_would 113 = .ok (.iconst 0, 1) := by decide +kernel
theorem d_Mod_would_114 : decode b_Mod_would 114 = .ok (.sipush 226, 3) := by decide +kernel
theorem d_Mod_would_117 : decode b_Mod_would 117 = .ok (.invokevirtual 32, 3) := by decide +kernel
theorem d_Mod_would_120 : decode b_Mod_would 120 = .ok (.iload 4, 2) := by decide +kernel
theorem d_Mod_would_122 : decode b_Mod_would 122 = .ok (.ireturn, 1) := by decide +kernel
theorem d_Mod_gets_0 : decode b_Mod_gets 0 = .ok (.aload_n 0, 1) := by decide +kernel
theorem d_Mod_gets_1 : decode b_Mod_gets 1 = .ok (.iconst 0, 1) := by decide +kernel
theorem d_Mod_gets_2 : decode b_Mod_gets 2 = .ok (.sipush 4080, 3) := by decide +kernel
theorem d_Mod_gets_5 : decode b_Mod_gets 5 = .ok (.sipush 226, 3) := by decide +kernel
theorem d_Mod_gets_8 : decode b_Mod_gets 8 = .ok (.invokevirtual 32, 3) := by decide +kernel
theorem d_Mod_gets_11 : decode b_Mod_gets 11 = .ok (.aload_n 0, 1) := by decide +kernel
theorem d_Mod_gets_12 : decode b_Mod_gets 12 = .ok (.getfield 7, 3) := by decide +kernel
theorem d_Mod_gets_15 : decode b_Mod_gets 15 = .ok (.iload_n 1, 1) := by decide +kernel
theorem d_Mod_gets_16 : decode b_Mod_gets 16 = .ok (.iconst 3, 1) := by decide +kernel
theorem d_Mod_gets_17 : decode b_Mod_gets 17 = .ok (.invokestatic 43, 3) := by decide +kernel
theorem d_Mod_gets_20 : decode b_Mod_gets 20 = .ok (.iaload, 1) := by decide +kernel
theorem d_Mod_gets_21 : decode b_Mod_gets 21 = .ok (.iload_n 2, 1) := by decide +kernel
theorem d_Mod_gets_22 : decode b_Mod_gets 22 = .ok (.if_icmp .eq 10, 3) := by decide +kernel
theorem d_Mod_gets_25 : decode b_Mod_gets 25 = .ok (.aload_n 0, 1) := by decide +kernel
theorem d_Mod_gets_26 : decode b_Mod_gets 26 = .ok (.iload_n 1, 1) := by decide +kernel
theorem d_Mod_gets_27 : decode b_Mod_gets 27 = .ok (.iload_n 2, 1) := by decide +kernel
theorem d_Mod_gets_28 : decode b_Mod_gets 28 = .ok (.invokevirtual 104, 3) := by decide +kernel
theorem d_Mod_gets_31 : decode b_Mod_gets 31 = .ok (.pop, 1) := by decide +kernel
theorem d_Mod_gets_32 : decode b_Mod_gets 32 = .ok (.aload_n 0, 1) := by decide +kernel
theorem d_Mod_gets_33 : decode b_Mod_gets 33 = .ok (.invokevirtual 126, 3) := by decide +kernel
theorem d_Mod_gets_36 : decode b_Mod_gets 36 = .ok (.pop, 1) := by decide +kernel
theorem d_Mod_gets_37 : decode b_Mod_gets 37 = .ok (.aload_n 0, 1) := by decide +kernel
theorem d_Mod_gets_38 : decode b_Mod_gets 38 = .ok (.getfield 7, 3) := by decide +kernel
theorem d_Mod_gets_41 : decode b_Mod_gets 41 = .ok (.iload_n 1, 1) := by decide +kernel
theorem d_Mod_gets_42 : decode b_Mod_gets 42 = .ok (.bipush 11, 2) := by decide +kernel
theorem d_Mod_gets_44 : decode b_Mod_gets 44 = .ok (.invokestatic 43, 3) := by decide +kernel
theorem d_Mod_gets_47 : decode b_Mod_gets 47 = .ok (.iaload, 1) := by decide +kernel
theorem d_Mod_gets_48 : decode b_Mod_gets 48 = .ok (.iload_n 2, 1) := by decide +kernel
theorem d_Mod_gets_49 : decode b_Mod_gets 49 = .ok (.if_icmp .ne 7, 3) := by decide +kernel
theorem d_Mod_gets_52 : decode b_Mod_gets 52 = .ok (.iconst 1, 1) := by decide +kernel
theorem d_Mod_gets_53 : decode b_Mod_gets 53 = .ok (.goto 4, 3) := by decide +kernel
theorem d_Mod_gets_56 : decode b_Mod_gets 56 = .ok (.iconst 0, 1) := by decide +kernel
theorem d_Mod_gets_57 : decode b_Mod_gets 57 = .ok (.istore_n 3, 1) := by decide +kernel
theorem d_Mod_gets_58 : decode b_Mod_gets 58 = .ok (.aload_n 0, 1) := by decide +kernel
theorem d_Mod_gets_59 : decode b_Mod_gets 59 = .ok (.sipush 4080, 3) := by decide +kernel
theorem d_Mod_gets_62 : decode b_Mod_gets 62 = .ok (.iconst 0, 1) := by decide +kernel
theorem d_Mod_gets_63 : decode b_Mod_gets 63 = .ok (.sipush 226, 3) := by decide +kernel
theorem d_Mod_gets_66 : decode b_Mod_gets 66 = .ok (.invokevirtual 32, 3) := by decide +kernel
theorem d_Mod_gets_69 : decode b_Mod_gets 69 = .ok (.iload_n 3, 1) := by decide +kernel
theorem d_Mod_gets_70 : decode b_Mod_gets 70 = .ok (.ireturn, 1) := by decide +kernel
theorem d_Mod_bestKind_0 : decode b_Mod_bestKind 0 = .ok (.aload_n 0, 1) := by decide +kernel
theorem d_Mod_bestKind_1 : decode b_Mod_bestKind 1 = .ok (.iload_n 1, 1) := by decide +kernel
theorem d_Mod_bestKind_2 : decode b_Mod_bestKind 2 = .ok (.invokevirtual 46, 3) := by decide +kernel
theorem d_Mod_bestKind_5 : decode b_Mod_bestKind 5 = .ok (.ifCond .ne 5, 3) := by decide +kernel
theorem d_Mod_bestKind_8 : decode b_Mod_bestKind 8 = .ok (.iconst (-1), 1) := by decide +kernel
theorem d_Mod_bestKind_9 : decode b_Mod_bestKind 9 = .ok (.ireturn, 1) := by decide +kernel
theorem d_Mod_bestKind_10 : decode b_Mod_bestKind 10 = .ok (.aload_n 0, 1) := by decide +kernel
theorem d_Mod_bestKind_11 : decode b_Mod_bestKind 11 = .ok (.invokevirtual 39, 3) := by decide +kernel
theorem d_Mod_bestKind_14 : decode b_Mod_bestKind 14 = .ok (.ifCond .eq 6, 3) := by decide +kernel
theorem d_Mod_bestKind_17 : decode b_Mod_bestKind 17 = .ok (.bipush (-2), 2) := by decide +kernel
theorem d_Mod_bestKind_19 : decode b_Mod_bestKind 19 = .ok (.ireturn, 1) := by decide +kernel
theorem d_Mod_bestKind_20 : decode b_Mod_bestKind 20 = .ok (.bipush (-9), 2) := by decide +kernel
theorem d_Mod_bestKind_22 : decode b_Mod_bestKind 22 = .ok (.istore_n 2, 1) := by decide +kernel
theorem d_Mod_bestKind_23 : decode b_Mod_bestKind 23 = .ok (.iconst 0, 1) := by decide +kernel
theorem d_Mod_bestKind_24 : decode b_Mod_bestKind 24 = .ok (.istore_n 3, 1) := by decide +kernel
theorem d_Mod_bestKind_25 : decode b_Mod_bestKind 25 = .ok (.iload_n 3, 1) := by decide +kernel
theorem d_Mod_bestKind_26 : decode b_Mod_bestKind 26 = .ok (.iconst 4, 1) := by decide +kernel
theorem d_Mod_bestKind_27 : decode b_Mod_bestKind 27 = .ok (.if_icmp .ge 53, 3) := by decide +kernel
theorem d_Mod_bestKind_30 : decode b_Mod_bestKind 30 = .ok (.aload_n 0, 1) := by decide +kernel
theorem d_Mod_bestKind_31 : decode b_Mod_bestKind 31 = .ok (.iload_n 1, 1) := by decide +kernel
theorem d_Mod_bestKind_32 : decode b_Mod_bestKind 32 = .ok (.iload_n 3, 1) := by decide +kernel
theorem d_Mod_bestKind_33 : decode b_Mod_bestKind 33 = .ok (.invokevirtual 180, 3) := by decide +kernel
theorem d_Mod_bestKind_36 : decode b_Mod_bestKind 36 = .ok (.ifCond .eq 36, 3) := by decide +kernel
theorem d_Mod_bestKind_39 : decode b_Mod_bestKind 39 = .ok (.iload_n 2, 1) := by decide +kernel
theorem d_Mod_bestKind_40 : decode b_Mod_bestKind 40 = .ok (.bipush (-9), 2) := by decide +kernel
theorem d_Mod_bestKind_42 : decode b_Mod_bestKind 42 = .ok (.if_icmp .eq 26, 3) := by decide +kernel
theorem d_Mod_bestKind_45 : decode b_Mod_bestKind 45 = .ok (.aload_n 0, 1) := by decide +kernel
theorem d_Mod_bestKind_46 : decode b_Mod_bestKind 46 = .ok (.getfield 7, 3) := by decide +kernel
theorem d_Mod_bestKind_49 : decode b_Mod_bestKind 49 = .ok (.iload_n 3, 1) := by decide +kernel
theorem d_Mod_bestKind_50 : decode b_Mod_bestKind 50 = .ok (.iconst 0, 1) := by decide +kernel
theorem d_Mod_bestKind_51 : decode b_Mod_bestKind 51 = .ok (.invokestatic 20, 3) := by decide +kernel
theorem d_Mod_bestKind_54 : decode b_Mod_bestKind 54 = .ok (.iaload, 1) := by decide +kernel
theorem d_Mod_bestKind_55 : decode b_Mod_bestKind 55 = .ok (.aload_n 0, 1) := by decide +kernel
theorem d_Mod_bestKind_56 : decode b_Mod_bestKind 56 = .ok (.getfield 7, 3) := by decide +kernel
theorem d_Mod_bestKind_59 : decode b_Mod_bestKind 59 = .ok (.iload_n 2, 1) := by decide +kernel
theorem d_Mod_bestKind_60 : decode b_Mod_bestKind 60 = .ok (.iconst 0, 1) := by decide +kernel
theorem d_Mod_bestKind_61 : decode b_Mod_bestKind 61 = .ok (.invokestatic 20, 3) := by decide +kernel
theorem d_Mod_bestKind_64 : decode b_Mod_bestKind 64 = .ok (.iaload, 1) := by decide +kernel
theorem d_Mod_bestKind_65 : decode b_Mod_bestKind 65 = .ok (.if_icmp .le 7, 3) := by decide +kernel
theorem d_Mod_bestKind_68 : decode b_Mod_bestKind 68 = .ok (.iload_n 3, 1) := by decide +kernel
theorem d_Mod_bestKind_69 : decode b_Mod_bestKind 69 = .ok (.goto 4, 3) := by decide +kernel
theorem d_Mod_bestKind_72 : decode b_Mod_bestKind 72 = .ok (.iload_n 2, 1) := by decide +kernel
theorem d_Mod_bestKind_73 : decode b_Mod_bestKind 73 = .ok (.istore_n 2, 1) := by decide +kernel
theorem d_Mod_bestKind_74 : decode b_Mod_bestKind 74 = .ok (.iinc 3 1, 3) := by decide +kernel
theorem d_Mod_bestKind_77 : decode b_Mod_bestKind 77 = .ok (.goto (-52), 3) := by decide +kernel
theorem d_Mod_bestKind_80 : decode b_Mod_bestKind 80 = .ok (.iload_n 2, 1) := by decide +kernel
theorem d_Mod_bestKind_81 : decode b_Mod_bestKind 81 = .ok (.ireturn, 1) := by decide +kernel
theorem d_Mod_weeksFor_0 : decode b_Mod_weeksFor 0 = .ok (.aload_n 0, 1) := by decide +kernel
theorem d_Mod_weeksFor_1 : decode b_Mod_weeksFor 1 = .ok (.iload_n 1, 1) := by decide +kernel
theorem d_Mod_weeksFor_2 : decode b_Mod_weeksFor 2 = .ok (.invokevirtual 46, 3) := by decide +kernel
theorem d_Mod_weeksFor_5 : decode b_Mod_weeksFor 5 = .ok (.ifCond .eq 19, 3) := by decide +kernel
theorem d_Mod_weeksFor_8 : decode b_Mod_weeksFor 8 = .ok (.iload_n 2, 1) := by decide +kernel
theorem d_Mod_weeksFor_9 : decode b_Mod_weeksFor 9 = .ok (.invokestatic 86, 3) := by decide +kernel
theorem d_Mod_weeksFor_12 : decode b_Mod_weeksFor 12 = .ok (.ifCond .eq 12, 3) := by decide +kernel
theorem d_Mod_weeksFor_15 : decode b_Mod_weeksFor 15 = .ok (.iload_n 3, 1) := by decide +kernel
theorem d_Mod_weeksFor_16 : decode b_Mod_weeksFor 16 = .ok (.iconst 1, 1) := by decide +kernel
theorem d_Mod_weeksFor_17 : decode b_Mod_weeksFor 17 = .ok (.iconst 5, 1) := by decide +kernel
theorem d_Mod_weeksFor_18 : decode b_Mod_weeksFor 18 = .ok (.invokestatic 24, 3) := by decide +kernel
theorem d_Mod_weeksFor_21 : decode b_Mod_weeksFor 21 = .ok (.ifCond .ne 5, 3) := by decide +kernel
theorem d_Mod_weeksFor_24 : decode b_Mod_weeksFor 24 = .ok (.iconst (-1), 1) := by decide +kernel
theorem d_Mod_weeksFor_25 : decode b_Mod_weeksFor 25 = .ok (.ireturn, 1) := by decide +kernel
theorem d_Mod_weeksFor_26 : decode b_Mod_weeksFor 26 = .ok (.aload_n 0, 1) := by decide +kernel
theorem d_Mod_weeksFor_27 : decode b_Mod_weeksFor 27 = .ok (.iload_n 1, 1) := by decide +kernel
theorem d_Mod_weeksFor_28 : decode b_Mod_weeksFor 28 = .ok (.invokevirtual 50, 3) := by decide +kernel
theorem d_Mod_weeksFor_31 : decode b_Mod_weeksFor 31 = .ok (.ifCond .ne 6, 3) := by decide +kernel
theorem d_Mod_weeksFor_34 : decode b_Mod_weeksFor 34 = .ok (.bipush (-2), 2) := by decide +kernel
theorem d_Mod_weeksFor_36 : decode b_Mod_weeksFor 36 = .ok (.ireturn, 1) := by decide +kernel
theorem d_Mod_weeksFor_37 : decode b_Mod_weeksFor 37 = .ok (.aload_n 0, 1) := by decide +kernel
theorem d_Mod_weeksFor_38 : decode b_Mod_weeksFor 38 = .ok (.getfield 7, 3) := by decide +kernel
theorem d_Mod_weeksFor_41 : decode b_Mod_weeksFor 41 = .ok (.iload_n 2, 1) := by decide +kernel
theorem d_Mod_weeksFor_42 : decode b_Mod_weeksFor 42 = .ok (.iconst 0, 1) := by decide +kernel
theorem d_Mod_weeksFor_43 : decode b_Mod_weeksFor 43 = .ok (.invokestatic 20, 3) := by decide +kernel
theorem d_Mod_weeksFor_46 : decode b_Mod_weeksFor 46 = .ok (.iaload, 1) := by decide +kernel
theorem d_Mod_weeksFor_47 : decode b_Mod_weeksFor 47 = .ok (.aload_n 0, 1) := by decide +kernel
theorem d_Mod_weeksFor_48 : decode b_Mod_weeksFor 48 = .ok (.getfield 7, 3) := by decide +kernel
theorem d_Mod_weeksFor_51 : decode b_Mod_weeksFor 51 = .ok (.iload_n 1, 1) := by decide +kernel
theorem d_Mod_weeksFor_52 : decode b_Mod_weeksFor 52 = .ok (.iconst 0, 1) := by decide +kernel
theorem d_Mod_weeksFor_53 : decode b_Mod_weeksFor 53 = .ok (.invokestatic 43, 3) := by decide +kernel
theorem d_Mod_weeksFor_56 : decode b_Mod_weeksFor 56 = .ok (.iaload, 1) := by decide +kernel
theorem d_Mod_weeksFor_57 : decode b_Mod_weeksFor 57 = .ok (.isub, 1) := by decide +kernel
theorem d_Mod_weeksFor_58 : decode b_Mod_weeksFor 58 = .ok (.istore 4, 2) := by decide +kernel
theorem d_Mod_weeksFor_60 : decode b_Mod_weeksFor 60 = .ok (.iload 4, 2) := by decide +kernel
theorem d_Mod_weeksFor_62 : decode b_Mod_weeksFor 62 = .ok (.aload_n 0, 1) := by decide +kernel
theorem d_Mod_weeksFor_63 : decode b_Mod_weeksFor 63 = .ok (.iload_n 1, 1) := by decide +kernel
theorem d_Mod_weeksFor_64 : decode b_Mod_weeksFor 64 = .ok (.aload_n 0, 1) := by decide +kernel
theorem d_Mod_weeksFor_65 : decode b_Mod_weeksFor 65 = .ok (.getfield 7, 3) := by decide +kernel
theorem d_Mod_weeksFor_68 : decode b_Mod_weeksFor 68 = .ok (.iconst 0, 1) := by decide +kernel
theorem d_Mod_weeksFor_69 : decode b_Mod_weeksFor 69 = .ok (.iaload, 1) := by decide +kernel
theorem d_Mod_weeksFor_70 : decode b_Mod_weeksFor 70 = .ok (.invokevirtual 53, 3) := by decide +kernel
theorem d_Mod_weeksFor_73 : decode b_Mod_weeksFor 73 = .ok (.ifCond .eq 7, 3) := by decide +kernel
theorem d_Mod_weeksFor_76 : decode b_Mod_weeksFor 76 = .ok (.iconst 0, 1) := by decide +kernel
theorem d_Mod_weeksFor_77 : decode b_Mod_weeksFor 77 = .ok (.goto 4, 3) := by decide +kernel
theorem d_Mod_weeksFor_80 : decode b_Mod_weeksFor 80 = .ok (.iload_n 3, 1) := by decide +kernel
theorem d_Mod_weeksFor_81 : decode b_Mod_weeksFor 81 = .ok (.isub, 1) := by decide +kernel
theorem d_Mod_weeksFor_82 : decode b_Mod_weeksFor 82 = .ok (.istore 4, 2) := by decide +kernel
theorem d_Mod_weeksFor_84 : decode b_Mod_weeksFor 84 = .ok (.iload 4, 2) := by decide +kernel
theorem d_Mod_weeksFor_86 : decode b_Mod_weeksFor 86 = .ok (.ifCond .gt 7, 3) := by decide +kernel
theorem d_Mod_weeksFor_89 : decode b_Mod_weeksFor 89 = .ok (.iconst 0, 1) := by decide +kernel
theorem d_Mod_weeksFor_90 : decode b_Mod_weeksFor 90 = .ok (.goto 11, 3) := by decide +kernel
theorem d_Mod_weeksFor_93 : decode b_Mod_weeksFor 93 = .ok (.iload 4, 2) := by decide +kernel
theorem d_Mod_weeksFor_95 : decode b_Mod_weeksFor 95 = .ok (.iload_n 3, 1) := by decide +kernel
theorem d_Mod_weeksFor_96 : decode b_Mod_weeksFor 96 = .ok (.iadd, 1) := by decide +kernel
theorem d_Mod_weeksFor_97 : decode b_Mod_weeksFor 97 = .ok (.iconst 1, 1) := by decide +kernel
theorem d_Mod_weeksFor_98 : decode b_Mod_weeksFor 98 = .ok (.isub, 1) := by decide +kernel
theorem d_Mod_weeksFor_99 : decode b_Mod_weeksFor 99 = .ok (.iload_n 3, 1) := by decide +kernel
theorem d_Mod_weeksFor_100 : decode b_Mod_weeksFor 100 = .ok (.idiv, 1) := by decide +kernel
theorem d_Mod_weeksFor_101 : decode b_Mod_weeksFor 101 = .ok (.ireturn, 1) := by decide +kernel
theorem d_Lng_bitCount_0 : decode b_Lng_bitCount 0 = .ok (.lload_n 0, 1) := by decide +kernel
theorem d_Lng_bitCount_1 : decode b_Lng_bitCount 1 = .ok (.lload_n 0, 1) := by decide +kernel
theorem d_Lng_bitCount_2 : decode b_Lng_bitCount 2 = .ok (.iconst 1, 1) := by decide +kernel
theorem d_Lng_bitCount_3 : decode b_Lng_bitCount 3 = .ok (.lushr, 1) := by decide +kernel
theorem d_Lng_bitCount_4 : decode b_Lng_bitCount 4 = .ok (.ldc2_w 314, 3) := by decide +kernel
theorem d_Lng_bitCount_7 : decode b_Lng_bitCount 7 = .ok (.land, 1) := by decide +kernel
theorem d_Lng_bitCount_8 : decode b_Lng_bitCount 8 = .ok (.lsub, 1) := by decide +kernel
theorem d_Lng_bitCount_9 : decode b_Lng_bitCount 9 = .ok (.lstore_n 0, 1) := by decide +kernel
theorem d_Lng_bitCount_10 : decode b_Lng_bitCount 10 = .ok (.lload_n 0, 1) := by decide +kernel
theorem d_Lng_bitCount_11 : decode b_Lng_bitCount 11 = .ok (.ldc2_w 316, 3) := by decide +kernel
theorem d_Lng_bitCount_14 : decode b_Lng_bitCount 14 = .ok (.land, 1) := by decide +kernel
theorem d_Lng_bitCount_15 : decode b_Lng_bitCount 15 = .ok (.lload_n 0, 1) := by decide +kernel
theorem d_Lng_bitCount_16 : decode b_Lng_bitCount 16 = .ok (.iconst 2, 1) := by decide +kernel
theorem d_Lng_bitCount_17 : decode b_Lng_bitCount 17 = .ok (.lushr, 1) := by decide +kernel
theorem d_Lng_bitCount_18 : decode b_Lng_bitCount 18 = .ok (.ldc2_w 316, 3) := by decide +kernel
theorem d_Lng_bitCount_21 : decode b_Lng_bitCount 21 = .ok (.land, 1) := by decide +kernel
theorem d_Lng_bitCount_22 : decode b_Lng_bitCount 22 = .ok (.ladd, 1) := by decide +kernel
theorem d_Lng_bitCount_23 : decode b_Lng_bitCount 23 = .ok (.lstore_n 0, 1) := by decide +kernel
theorem d_Lng_bitCount_24 : decode b_Lng_bitCount 24 = .ok (.lload_n 0, 1) := by decide +kernel
theorem d_Lng_bitCount_25 : decode b_Lng_bitCount 25 = .ok (.lload_n 0, 1) := by decide +kernel
theorem d_Lng_bitCount_26 : decode b_Lng_bitCount 26 = .ok (.iconst 4, 1) := by decide +kernel
theorem d_Lng_bitCount_27 : decode b_Lng_bitCount 27 = .ok (.lushr, 1) := by decide +kernel
theorem d_Lng_bitCount_28 : decode b_Lng_bitCount 28 = .ok (.ladd, 1) := by decide +kernel
theorem d_Lng_bitCount_29 : decode b_Lng_bitCount 29 = .ok (.ldc2_w 318, 3) := by decide +kernel
theorem d_Lng_bitCount_32 : decode b_Lng_bitCount 32 = .ok (.land, 1) := by decide +kernel
theorem d_Lng_bitCount_33 : decode b_Lng_bitCount 33 = .ok (.lstore_n 0, 1) := by decide +kernel
theorem d_Lng_bitCount_34 : decode b_Lng_bitCount 34 = .ok (.lload_n 0, 1) := by decide +kernel
theorem d_Lng_bitCount_35 : decode b_Lng_bitCount 35 = .ok (.lload_n 0, 1) := by decide +kernel
theorem d_Lng_bitCount_36 : decode b_Lng_bitCount 36 = .ok (.bipush 8, 2) := by decide +kernel
theorem d_Lng_bitCount_38 : decode b_Lng_bitCount 38 = .ok (.lushr, 1) := by decide +kernel
theorem d_Lng_bitCount_39 : decode b_Lng_bitCount 39 = .ok (.ladd, 1) := by decide +kernel
theorem d_Lng_bitCount_40 : decode b_Lng_bitCount 40 = .ok (.lstore_n 0, 1) := by decide +kernel
theorem d_Lng_bitCount_41 : decode b_Lng_bitCount 41 = .ok (.lload_n 0, 1) := by decide +kernel
theorem d_Lng_bitCount_42 : decode b_Lng_bitCount 42 = .ok (.lload_n 0, 1) := by decide +kernel
theorem d_Lng_bitCount_43 : decode b_Lng_bitCount 43 = .ok (.bipush 16, 2) := by decide +kernel
theorem d_Lng_bitCount_45 : decode b_Lng_bitCount 45 = .ok (.lushr, 1) := by decide +kernel
theorem d_Lng_bitCount_46 : decode b_Lng_bitCount 46 = .ok (.ladd, 1) := by decide +kernel
theorem d_Lng_bitCount_47 : decode b_Lng_bitCount 47 = .ok (.lstore_n 0, 1) := by decide +kernel
theorem d_Lng_bitCount_48 : decode b_Lng_bitCount 48 = .ok (.lload_n 0, 1) := by decide +kernel
theorem d_Lng_bitCount_49 : decode b_Lng_bitCount 49 = .ok (.lload_n 0, 1) := by decide +kernel
theorem d_Lng_bitCount_50 : decode b_Lng_bitCount 50 = .ok (.bipush 32, 2) := by decide +kernel
theorem d_Lng_bitCount_52 : decode b_Lng_bitCount 52 = .ok (.lushr, 1) := by decide +kernel
theorem d_Lng_bitCount_53 : decode b_Lng_bitCount 53 = .ok (.ladd, 1) := by decide +kernel
theorem d_Lng_bitCount_54 : decode b_Lng_bitCount 54 = .ok (.lstore_n 0, 1) := by decide +kernel
theorem d_Lng_bitCount_55 : decode b_Lng_bitCount 55 = .ok (.lload_n 0, 1) := by decide +kernel
theorem d_Lng_bitCount_56 : decode b_Lng_bitCount 56 = .ok (.l2i, 1) := by decide +kernel
theorem d_Lng_bitCount_57 : decode b_Lng_bitCount 57 = .ok (.bipush 127, 2) := by decide +kernel
theorem d_Lng_bitCount_59 : decode b_Lng_bitCount 59 = .ok (.iand, 1) := by decide +kernel
theorem d_Lng_bitCount_60 : decode b_Lng_bitCount 60 = .ok (.ireturn, 1) := by decide +kernel
theorem d_Mth_min_0 : decode b_Mth_min 0 = .ok (.iload_n 0, 1) := by decide +kernel
theorem d_Mth_min_1 : decode b_Mth_min 1 = .ok (.iload_n 1, 1) := by decide +kernel
theorem d_Mth_min_2 : decode b_Mth_min 2 = .ok (.if_icmp .gt 7, 3) := by decide +kernel
theorem d_Mth_min_5 : decode b_Mth_min 5 = .ok (.iload_n 0, 1) := by decide +kernel
theorem d_Mth_min_6 : decode b_Mth_min 6 = .ok (.goto 4, 3) := by decide +kernel
theorem d_Mth_min_9 : decode b_Mth_min 9 = .ok (.iload_n 1, 1) := by decide +kernel
theorem d_Mth_min_10 : decode b_Mth_min 10 = .ok (.ireturn, 1) := by decide +kernel
theorem d_Arr_fill_0 : decode b_Arr_fill 0 = .ok (.iconst 0, 1) := by decide +kernel
theorem d_Arr_fill_1 : decode b_Arr_fill 1 = .ok (.istore_n 2, 1) := by decide +kernel
theorem d_Arr_fill_2 : decode b_Arr_fill 2 = .ok (.aload_n 0, 1) := by decide +kernel
theorem d_Arr_fill_3 : decode b_Arr_fill 3 = .ok (.arraylength, 1) := by decide +kernel
theorem d_Arr_fill_4 : decode b_Arr_fill 4 = .ok (.istore_n 3, 1) := by decide +kernel
theorem d_Arr_fill_5 : decode b_Arr_fill 5 = .ok (.iload_n 2, 1) := by decide +kernel
theorem d_Arr_fill_6 : decode b_Arr_fill 6 = .ok (.iload_n 3, 1) := by decide +kernel
theorem d_Arr_fill_7 : decode b_Arr_fill 7 = .ok (.if_icmp .ge 13, 3) := by decide +kernel
theorem d_Arr_fill_10 : decode b_Arr_fill 10 = .ok (.aload_n 0, 1) := by decide +kernel
theorem d_Arr_fill_11 : decode b_Arr_fill 11 = .ok (.iload_n 2, 1) := by decide +kernel
theorem d_Arr_fill_12 : decode b_Arr_fill 12 = .ok (.iload_n 1, 1) := by decide +kernel
theorem d_Arr_fill_13 : decode b_Arr_fill 13 = .ok (.iastore, 1) := by decide +kernel
theorem d_Arr_fill_14 : decode b_Arr_fill 14 = .ok (.iinc 2 1, 3) := by decide +kernel
theorem d_Arr_fill_17 : decode b_Arr_fill 17 = .ok (.goto (-12), 3) := by decide +kernel
theorem d_Arr_fill_20 : decode b_Arr_fill 20 = .ok (.return_, 1) := by decide +kernel
theorem d_Law_law_0 : decode code 0 = .ok (.new 7, 3) := by decide +kernel
theorem d_Law_law_3 : decode code 3 = .ok (.dup, 1) := by decide +kernel
theorem d_Law_law_4 : decode code 4 = .ok (.invokespecial 9, 3) := by decide +kernel
theorem d_Law_law_7 : decode code 7 = .ok (.astore_n 1, 1) := by decide +kernel
theorem d_Law_law_8 : decode code 8 = .ok (.new 10, 3) := by decide +kernel
theorem d_Law_law_11 : decode code 11 = .ok (.dup, 1) := by decide +kernel
theorem d_Law_law_12 : decode code 12 = .ok (.invokespecial 12, 3) := by decide +kernel
theorem d_Law_law_15 : decode code 15 = .ok (.astore_n 2, 1) := by decide +kernel
theorem d_Law_law_16 : decode code 16 = .ok (.iconst 0, 1) := by decide +kernel
theorem d_Law_law_17 : decode code 17 = .ok (.istore_n 3, 1) := by decide +kernel
theorem d_Law_law_18 : decode code 18 = .ok (.iload_n 3, 1) := by decide +kernel
theorem d_Law_law_19 : decode code 19 = .ok (.aload_n 0, 1) := by decide +kernel
theorem d_Law_law_20 : decode code 20 = .ok (.arraylength, 1) := by decide +kernel
theorem d_Law_law_21 : decode code 21 = .ok (.iconst 4, 1) := by decide +kernel
theorem d_Law_law_22 : decode code 22 = .ok (.isub, 1) := by decide +kernel
theorem d_Law_law_23 : decode code 23 = .ok (.if_icmp .gt 739, 3) := by decide +kernel
theorem d_Law_law_26 : decode code 26 = .ok (.aload_n 0, 1) := by decide +kernel
theorem d_Law_law_27 : decode code 27 = .ok (.iload_n 3, 1) := by decide +kernel
theorem d_Law_law_28 : decode code 28 = .ok (.iaload, 1) := by decide +kernel
theorem d_Law_law_29 : decode code 29 = .ok (.bipush 31, 2) := by decide +kernel
theorem d_Law_law_31 : decode code 31 = .ok (.iand, 1) := by decide +kernel
theorem d_Law_law_32 : decode code 32 = .ok (.tableswitch 724 0 23 #[112, 125, 158, 191, 214, 237, 280, 313, 336, 349, 362, 385, 408, 421, 444, 457, 470, 493, 526, 559, 592, 625, 658, 681], 112) := by decide +kernel
theorem d_Law_law_144 : decode code 144 = .ok (.aload_n 1, 1) := by decide +kernel
theorem d_Law_law_145 : decode code 145 = .ok (.invokevirtual 13, 3) := by decide +kernel
theorem d_Law_law_148 : decode code 148 = .ok (.aload_n 2, 1) := by decide +kernel
theorem d_Law_law_149 : decode code 149 = .ok (.invokevirtual 17, 3) := by decide +kernel
theorem d_Law_law_152 : decode code 152 = .ok (.if_icmp .eq 604, 3) := by decide +kernel
theorem d_Law_law_155 : decode code 155 = .ok (.iconst 0, 1) := by decide +kernel
theorem d_Law_law_156 : decode code 156 = .ok (.ireturn, 1) := by decide +kernel
theorem d_Law_law_157 : decode code 157 = .ok (.aload_n 1, 1) := by decide +kernel
theorem d_Law_law_158 : decode code 158 = .ok (.aload_n 0, 1) := by decide +kernel
theorem d_Law_law_159 : decode code 159 = .ok (.iload_n 3, 1) := by decide +kernel
theorem d_Law_law_160 : decode code 160 = .ok (.iconst 1, 1) := by decide +kernel
theorem d_Law_law_161 : decode code 161 = .ok (.iadd, 1) := by decide +kernel
theorem d_Law_law_162 : decode code 162 = .ok (.iaload, 1) := by decide +kernel
theorem d_Law_law_163 : decode code 163 = .ok (.aload_n 0, 1) := by decide +kernel
theorem d_Law_law_164 : decode code 164 = .ok (.iload_n 3, 1) := by decide +kernel
theorem d_Law_law_165 : decode code 165 = .ok (.iconst 2, 1) := by decide +kernel
theorem d_Law_law_166 : decode code 166 = .ok (.iadd, 1) := by decide +kernel
theorem d_Law_law_167 : decode code 167 = .ok (.iaload, 1) := by decide +kernel
theorem d_Law_law_168 : decode code 168 = .ok (.invokevirtual 18, 3) := by decide +kernel
theorem d_Law_law_171 : decode code 171 = .ok (.aload_n 2, 1) := by decide +kernel
theorem d_Law_law_172 : decode code 172 = .ok (.aload_n 0, 1) := by decide +kernel
theorem d_Law_law_173 : decode code 173 = .ok (.iload_n 3, 1) := by decide +kernel
theorem d_Law_law_174 : decode code 174 = .ok (.iconst 1, 1) := by decide +kernel
theorem d_Law_law_175 : decode code 175 = .ok (.iadd, 1) := by decide +kernel
theorem d_Law_law_176 : decode code 176 = .ok (.iaload, 1) := by decide +kernel
theorem d_Law_law_177 : decode code 177 = .ok (.aload_n 0, 1) := by decide +kernel
theorem d_Law_law_178 : decode code 178 = .ok (.iload_n 3, 1) := by decide +kernel
theorem d_Law_law_179 : decode code 179 = .ok (.iconst 2, 1) := by decide +kernel
theorem d_Law_law_180 : decode code 180 = .ok (.iadd, 1) := by decide +kernel
theorem d_Law_law_181 : decode code 181 = .ok (.iaload, 1) := by decide +kernel
theorem d_Law_law_182 : decode code 182 = .ok (.invokevirtual 22, 3) := by decide +kernel
theorem d_Law_law_185 : decode code 185 = .ok (.if_icmp .eq 571, 3) := by decide +kernel
theorem d_Law_law_188 : decode code 188 = .ok (.iconst 0, 1) := by decide +kernel
theorem d_Law_law_189 : decode code 189 = .ok (.ireturn, 1) := by decide +kernel
theorem d_Law_law_190 : decode code 190 = .ok (.aload_n 1, 1) := by decide +kernel
theorem d_Law_law_191 : decode code 191 = .ok (.aload_n 0, 1) := by decide +kernel
theorem d_Law_law_192 : decode code 192 = .ok (.iload_n 3, 1) := by decide +kernel
theorem d_Law_law_193 : decode code 193 = .ok (.iconst 1, 1) := by decide +kernel
theorem d_Law_law_194 : decode code 194 = .ok (.iadd, 1) := by decide +kernel
theorem d_Law_law_195 : decode code 195 = .ok (.iaload, 1) := by decide +kernel
theorem d_Law_law_196 : decode code 196 = .ok (.aload_n 0, 1) := by decide +kernel
theorem d_Law_law_197 : decode code 197 = .ok (.iload_n 3, 1) := by decide +kernel
theorem d_Law_law_198 : decode code 198 = .ok (.iconst 2, 1) := by decide +kernel
theorem d_Law_law_199 : decode code 199 = .ok (.iadd, 1) := by decide +kernel
theorem d_Law_law_200 : decode code 200 = .ok (.iaload, 1) := by decide +kernel
theorem d_Law_law_201 : decode code 201 = .ok (.invokevirtual 23, 3) := by decide +kernel
theorem d_Law_law_204 : decode code 204 = .ok (.aload_n 2, 1) := by decide +kernel
theorem d_Law_law_205 : decode code 205 = .ok (.aload_n 0, 1) := by decide +kernel
theorem d_Law_law_206 : decode code 206 = .ok (.iload_n 3, 1) := by decide +kernel
theorem d_Law_law_207 : decode code 207 = .ok (.iconst 1, 1) := by decide +kernel
theorem d_Law_law_208 : decode code 208 = .ok (.iadd, 1) := by decide +kernel
theorem d_Law_law_209 : decode code 209 = .ok (.iaload, 1) := by decide +kernel
theorem d_Law_law_210 : decode code 210 = .ok (.aload_n 0, 1) := by decide +kernel
theorem d_Law_law_211 : decode code 211 = .ok (.iload_n 3, 1) := by decide +kernel
theorem d_Law_law_212 : decode code 212 = .ok (.iconst 2, 1) := by decide +kernel
theorem d_Law_law_213 : decode code 213 = .ok (.iadd, 1) := by decide +kernel
theorem d_Law_law_214 : decode code 214 = .ok (.iaload, 1) := by decide +kernel
theorem d_Law_law_215 : decode code 215 = .ok (.invokevirtual 26, 3) := by decide +kernel
theorem d_Law_law_218 : decode code 218 = .ok (.if_icmp .eq 538, 3) := by decide +kernel
theorem d_Law_law_221 : decode code 221 = .ok (.iconst 0, 1) := by decide +kernel
theorem d_Law_law_222 : decode code 222 = .ok (.ireturn, 1) := by decide +kernel
theorem d_Law_law_223 : decode code 223 = .ok (.aload_n 1, 1) := by decide +kernel
theorem d_Law_law_224 : decode code 224 = .ok (.aload_n 0, 1) := by decide +kernel
theorem d_Law_law_225 : decode code 225 = .ok (.iload_n 3, 1) := by decide +kernel
theorem d_Law_law_226 : decode code 226 = .ok (.iconst 1, 1) := by decide +kernel
theorem d_Law_law_227 : decode code 227 = .ok (.iadd, 1) := by decide +kernel
theorem d_Law_law_228 : decode code 228 = .ok (.iaload, 1) := by decide +kernel
theorem d_Law_law_229 : decode code 229 = .ok (.invokevirtual 27, 3) := by decide +kernel
theorem d_Law_law_232 : decode code 232 = .ok (.aload_n 2, 1) := by decide +kernel
theorem d_Law_law_233 : decode code 233 = .ok (.aload_n 0, 1) := by decide +kernel
theorem d_Law_law_234 : decode code 234 = .ok (.iload_n 3, 1) := by decide +kernel
theorem d_Law_law_235 : decode code 235 = .ok (.iconst 1, 1) := by decide +kernel
theorem d_Law_law_236 : decode code 236 = .ok (.iadd, 1) := by decide +kernel
theorem d_Law_law_237 : decode code 237 = .ok (.iaload, 1) := by decide +kernel
theorem d_Law_law_238 : decode code 238 = .ok (.invokevirtual 31, 3) := by decide +kernel
theorem d_Law_law_241 : decode code 241 = .ok (.if_icmp .eq 515, 3) := by decide +kernel
theorem d_Law_law_244 : decode code 244 = .ok (.iconst 0, 1) := by decide +kernel
theorem d_Law_law_245 : decode code 245 = .ok (.ireturn, 1) := by decide +kernel
theorem d_Law_law_246 : decode code 246 = .ok (.aload_n 1, 1) := by decide +kernel
theorem d_Law_law_247 : decode code 247 = .ok (.aload_n 0, 1) := by decide +kernel
theorem d_Law_law_248 : decode code 248 = .ok (.iload_n 3, 1) := by decide +kernel
theorem d_Law_law_249 : decode code 249 = .ok (.iconst 1, 1) := by decide +kernel
theorem d_Law_law_250 : decode code 250 = .ok (.iadd, 1) := by decide +kernel
theorem d_Law_law_251 : decode code 251 = .ok (.iaload, 1) := by decide +kernel
theorem d_Law_law_252 : decode code 252 = .ok (.invokevirtual 32, 3) := by decide +kernel
theorem d_Law_law_255 : decode code 255 = .ok (.aload_n 2, 1) := by decide +kernel
theorem d_Law_law_256 : decode code 256 = .ok (.aload_n 0, 1) := by decide +kernel
theorem d_Law_law_257 : decode code 257 = .ok (.iload_n 3, 1) := by decide +kernel
theorem d_Law_law_258 : decode code 258 = .ok (.iconst 1, 1) := by decide +kernel
theorem d_Law_law_259 : decode code 259 = .ok (.iadd, 1) := by decide +kernel
theorem d_Law_law_260 : decode code 260 = .ok (.iaload, 1) := by decide +kernel
theorem d_Law_law_261 : decode code 261 = .ok (.invokevirtual 35, 3) := by decide +kernel
theorem d_Law_law_264 : decode code 264 = .ok (.if_icmp .eq 492, 3) := by decide +kernel
theorem d_Law_law_267 : decode code 267 = .ok (.iconst 0, 1) := by decide +kernel
theorem d_Law_law_268 : decode code 268 = .ok (.ireturn, 1) := by decide +kernel
theorem d_Law_law_269 : decode code 269 = .ok (.aload_n 1, 1) := by decide +kernel
theorem d_Law_law_270 : decode code 270 = .ok (.aload_n 0, 1) := by decide +kernel
theorem d_Law_law_271 : decode code 271 = .ok (.iload_n 3, 1) := by decide +kernel
theorem d_Law_law_272 : decode code 272 = .ok (.iconst 1, 1) := by decide +kernel
theorem d_Law_law_273 : decode code 273 = .ok (.iadd, 1) := by decide +kernel
theorem d_Law_law_274 : decode code 274 = .ok (.iaload, 1) := by decide +kernel
theorem d_Law_law_275 : decode code 275 = .ok (.aload_n 0, 1) := by decide +kernel
theorem d_Law_law_276 : decode code 276 = .ok (.iload_n 3, 1) := by decide +kernel
theorem d_Law_law_277 : decode code 277 = .ok (.iconst 2, 1) := by decide +kernel
theorem d_Law_law_278 : decode code 278 = .ok (.iadd, 1) := by decide +kernel
theorem d_Law_law_279 : decode code 279 = .ok (.iaload, 1) := by decide +kernel
theorem d_Law_law_280 : decode code 280 = .ok (.aload_n 0, 1) := by decide +kernel
theorem d_Law_law_281 : decode code 281 = .ok (.iload_n 3, 1) := by decide +kernel
theorem d_Law_law_282 : decode code 282 = .ok (.iconst 3, 1) := by decide +kernel
theorem d_Law_law_283 : decode code 283 = .ok (.iadd, 1) := by decide +kernel
theorem d_Law_law_284 : decode code 284 = .ok (.iaload, 1) := by decide +kernel
theorem d_Law_law_285 : decode code 285 = .ok (.invokevirtual 36, 3) := by decide +kernel
theorem d_Law_law_288 : decode code 288 = .ok (.aload_n 2, 1) := by decide +kernel
theorem d_Law_law_289 : decode code 289 = .ok (.aload_n 0, 1) := by decide +kernel
theorem d_Law_law_290 : decode code 290 = .ok (.iload_n 3, 1) := by decide +kernel
theorem d_Law_law_291 : decode code 291 = .ok (.iconst 1, 1) := by decide +kernel
theorem d_Law_law_292 : decode code 292 = .ok (.iadd, 1) := by decide +kernel
theorem d_Law_law_293 : decode code 293 = .ok (.iaload, 1) := by decide +kernel
theorem d_Law_law_294 : decode code 294 = .ok (.aload_n 0, 1) := by decide +kernel
theorem d_Law_law_295 : decode code 295 = .ok (.iload_n 3, 1) := by decide +kernel
theorem d_Law_law_296 : decode code 296 = .ok (.iconst 2, 1) := by decide +kernel
theorem d_Law_law_297 : decode code 297 = .ok (.iadd, 1) := by decide +kernel
theorem d_Law_law_298 : decode code 298 = .ok (.iaload, 1) := by decide +kernel
theorem d_Law_law_299 : decode code 299 = .ok (.aload_n 0, 1) := by decide +kernel
theorem d_Law_law_300 : decode code 300 = .ok (.iload_n 3, 1) := by decide +kernel
theorem d_Law_law_301 : decode code 301 = .ok (.iconst 3, 1) := by decide +kernel
theorem d_Law_law_302 : decode code 302 = .ok (.iadd, 1) := by decide +kernel
theorem d_Law_law_303 : decode code 303 = .ok (.iaload, 1) := by decide +kernel
theorem d_Law_law_304 : decode code 304 = .ok (.invokevirtual 40, 3) := by decide +kernel
theorem d_Law_law_307 : decode code 307 = .ok (.if_icmp .eq 449, 3) := by decide +kernel
theorem d_Law_law_310 : decode code 310 = .ok (.iconst 0, 1) := by decide +kernel
theorem d_Law_law_311 : decode code 311 = .ok (.ireturn, 1) := by decide +kernel
theorem d_Law_law_312 : decode code 312 = .ok (.aload_n 1, 1) := by decide +kernel
theorem d_Law_law_313 : decode code 313 = .ok (.aload_n 0, 1) := by decide +kernel
theorem d_Law_law_314 : decode code 314 = .ok (.iload_n 3, 1) := by decide +kernel
theorem d_Law_law_315 : decode code 315 = .ok (.iconst 1, 1) := by decide +kernel
theorem d_Law_law_316 : decode code 316 = .ok (.iadd, 1) := by decide +kernel
theorem d_Law_law_317 : decode code 317 = .ok (.iaload, 1) := by decide +kernel
theorem d_Law_law_318 : decode code 318 = .ok (.aload_n 0, 1) := by decide +kernel
theorem d_Law_law_319 : decode code 319 = .ok (.iload_n 3, 1) := by decide +kernel
theorem d_Law_law_320 : decode code 320 = .ok (.iconst 2, 1) := by decide +kernel
theorem d_Law_law_321 : decode code 321 = .ok (.iadd, 1) := by decide +kernel
theorem d_Law_law_322 : decode code 322 = .ok (.iaload, 1) := by decide +kernel
theorem d_Law_law_323 : decode code 323 = .ok (.invokevirtual 41, 3) := by decide +kernel
theorem d_Law_law_326 : decode code 326 = .ok (.aload_n 2, 1) := by decide +kernel
theorem d_Law_law_327 : decode code 327 = .ok (.aload_n 0, 1) := by decide +kernel
theorem d_Law_law_328 : decode code 328 = .ok (.iload_n 3, 1) := by decide +kernel
theorem d_Law_law_329 : decode code 329 = .ok (.iconst 1, 1) := by decide +kernel
theorem d_Law_law_330 : decode code 330 = .ok (.iadd, 1) := by decide +kernel
theorem d_Law_law_331 : decode code 331 = .ok (.iaload, 1) := by decide +kernel
theorem d_Law_law_332 : decode code 332 = .ok (.aload_n 0, 1) := by decide +kernel
theorem d_Law_law_333 : decode code 333 = .ok (.iload_n 3, 1) := by decide +kernel
theorem d_Law_law_334 : decode code 334 = .ok (.iconst 2, 1) := by decide +kernel
theorem d_Law_law_335 : decode code 335 = .ok (.iadd, 1) := by decide +kernel
theorem d_Law_law_336 : decode code 336 = .ok (.iaload, 1) := by decide +kernel
theorem d_Law_law_337 : decode code 337 = .ok (.invokevirtual 44, 3) := by decide +kernel
theorem d_Law_law_340 : decode code 340 = .ok (.if_icmp .eq 416, 3) := by decide +kernel
theorem d_Law_law_343 : decode code 343 = .ok (.iconst 0, 1) := by decide +kernel
theorem d_Law_law_344 : decode code 344 = .ok (.ireturn, 1) := by decide +kernel
theorem d_Law_law_345 : decode code 345 = .ok (.aload_n 1, 1) := by decide +kernel
theorem d_Law_law_346 : decode code 346 = .ok (.aload_n 0, 1) := by decide +kernel
theorem d_Law_law_347 : decode code 347 = .ok (.iload_n 3, 1) := by decide +kernel
theorem d_Law_law_348 : decode code 348 = .ok (.iconst 1, 1) := by decide +kernel
theorem d_Law_law_349 : decode code 349 = .ok (.iadd, 1) := by decide +kernel
theorem d_Law_law_350 : decode code 350 = .ok (.iaload, 1) := by decide +kernel
theorem d_Law_law_351 : decode code 351 = .ok (.invokevirtual 45, 3) := by decide +kernel
theorem d_Law_law_354 : decode code 354 = .ok (.aload_n 2, 1) := by decide +kernel
theorem d_Law_law_355 : decode code 355 = .ok (.aload_n 0, 1) := by decide +kernel
theorem d_Law_law_356 : decode code 356 = .ok (.iload_n 3, 1) := by decide +kernel
theorem d_Law_law_357 : decode code 357 = .ok (.iconst 1, 1) := by decide +kernel
theorem d_Law_law_358 : decode code 358 = .ok (.iadd, 1) := by decide +kernel
theorem d_Law_law_359 : decode code 359 = .ok (.iaload, 1) := by decide +kernel
theorem d_Law_law_360 : decode code 360 = .ok (.invokevirtual 48, 3) := by decide +kernel
theorem d_Law_law_363 : decode code 363 = .ok (.if_icmp .eq 393, 3) := by decide +kernel
theorem d_Law_law_366 : decode code 366 = .ok (.iconst 0, 1) := by decide +kernel
theorem d_Law_law_367 : decode code 367 = .ok (.ireturn, 1) := by decide +kernel
theorem d_Law_law_368 : decode code 368 = .ok (.aload_n 1, 1) := by decide +kernel
theorem d_Law_law_369 : decode code 369 = .ok (.invokevirtual 49, 3) := by decide +kernel
theorem d_Law_law_372 : decode code 372 = .ok (.aload_n 2, 1) := by decide +kernel
theorem d_Law_law_373 : decode code 373 = .ok (.invokevirtual 52, 3) := by decide +kernel
theorem d_Law_law_376 : decode code 376 = .ok (.if_icmp .eq 380, 3) := by decide +kernel
theorem d_Law_law_379 : decode code 379 = .ok (.iconst 0, 1) := by decide +kernel
theorem d_Law_law_380 : decode code 380 = .ok (.ireturn, 1) := by decide +kernel
theorem d_Law_law_381 : decode code 381 = .ok (.aload_n 1, 1) := by decide +kernel
theorem d_Law_law_382 : decode code 382 = .ok (.invokevirtual 53, 3) := by decide +kernel
theorem d_Law_law_385 : decode code 385 = .ok (.aload_n 2, 1) := by decide +kernel
theorem d_Law_law_386 : decode code 386 = .ok (.invokevirtual 56, 3) := by decide +kernel
theorem d_Law_law_389 : decode code 389 = .ok (.if_icmp .eq 367, 3) := by decide +kernel
theorem d_Law_law_392 : decode code 392 = .ok (.iconst 0, 1) := by decide +kernel
theorem d_Law_law_393 : decode code 393 = .ok (.ireturn, 1) := by decide +kernel
theorem d_Law_law_394 : decode code 394 = .ok (.aload_n 1, 1) := by decide +kernel
theorem d_Law_law_395 : decode code 395 = .ok (.aload_n 0, 1) := by decide +kernel
theorem d_Law_law_396 : decode code 396 = .ok (.iload_n 3, 1) := by decide +kernel
theorem d_Law_law_397 : decode code 397 = .ok (.iconst 1, 1) := by decide +kernel
theorem d_Law_law_398 : decode code 398 = .ok (.iadd, 1) := by decide +kernel
theorem d_Law_law_399 : decode code 399 = .ok (.iaload, 1) := by decide +kernel
theorem d_Law_law_400 : decode code 400 = .ok (.invokevirtual 57, 3) := by decide +kernel
theorem d_Law_law_403 : decode code 403 = .ok (.aload_n 2, 1) := by decide +kernel
theorem d_Law_law_404 : decode code 404 = .ok (.aload_n 0, 1) := by decide +kernel
theorem d_Law_law_405 : decode code 405 = .ok (.iload_n 3, 1) := by decide +kernel
theorem d_Law_law_406 : decode code 406 = .ok (.iconst 1, 1) := by decide +kernel
theorem d_Law_law_407 : decode code 407 = .ok (.iadd, 1) := by decide +kernel
theorem d_Law_law_408 : decode code 408 = .ok (.iaload, 1) := by decide +kernel
theorem d_Law_law_409 : decode code 409 = .ok (.invokevirtual 60, 3) := by decide +kernel
theorem d_Law_law_412 : decode code 412 = .ok (.if_icmp .eq 344, 3) := by decide +kernel
theorem d_Law_law_415 : decode code 415 = .ok (.iconst 0, 1) := by decide +kernel
theorem d_Law_law_416 : decode code 416 = .ok (.ireturn, 1) := by decide +kernel
theorem d_Law_law_417 : decode code 417 = .ok (.aload_n 1, 1) := by decide +kernel
theorem d_Law_law_418 : decode code 418 = .ok (.aload_n 0, 1) := by decide +kernel
theorem d_Law_law_419 : decode code 419 = .ok (.iload_n 3, 1) := by decide +kernel
theorem d_Law_law_420 : decode code 420 = .ok (.iconst 1, 1) := by decide +kernel
theorem d_Law_law_421 : decode code 421 = .ok (.iadd, 1) := by decide +kernel
theorem d_Law_law_422 : decode code 422 = .ok (.iaload, 1) := by decide +kernel
theorem d_Law_law_423 : decode code 423 = .ok (.invokevirtual 61, 3) := by decide +kernel
theorem d_Law_law_426 : decode code 426 = .ok (.aload_n 2, 1) := by decide +kernel
theorem d_Law_law_427 : decode code 427 = .ok (.aload_n 0, 1) := by decide +kernel
theorem d_Law_law_428 : decode code 428 = .ok (.iload_n 3, 1) := by decide +kernel
theorem d_Law_law_429 : decode code 429 = .ok (.iconst 1, 1) := by decide +kernel
theorem d_Law_law_430 : decode code 430 = .ok (.iadd, 1) := by decide +kernel
theorem d_Law_law_431 : decode code 431 = .ok (.iaload, 1) := by decide +kernel
theorem d_Law_law_432 : decode code 432 = .ok (.invokevirtual 64, 3) := by decide +kernel
theorem d_Law_law_435 : decode code 435 = .ok (.if_icmp .eq 321, 3) := by decide +kernel
theorem d_Law_law_438 : decode code 438 = .ok (.iconst 0, 1) := by decide +kernel
theorem d_Law_law_439 : decode code 439 = .ok (.ireturn, 1) := by decide +kernel
theorem d_Law_law_440 : decode code 440 = .ok (.aload_n 1, 1) := by decide +kernel
theorem d_Law_law_441 : decode code 441 = .ok (.invokevirtual 65, 3) := by decide +kernel
theorem d_Law_law_444 : decode code 444 = .ok (.aload_n 2, 1) := by decide +kernel
theorem d_Law_law_445 : decode code 445 = .ok (.invokevirtual 68, 3) := by decide +kernel
theorem d_Law_law_448 : decode code 448 = .ok (.if_icmp .eq 308, 3) := by decide +kernel
theorem d_Law_law_451 : decode code 451 = .ok (.iconst 0, 1) := by decide +kernel
theorem d_Law_law_452 : decode code 452 = .ok (.ireturn, 1) := by decide +kernel
theorem d_Law_law_453 : decode code 453 = .ok (.aload_n 1, 1) := by decide +kernel
theorem d_Law_law_454 : decode code 454 = .ok (.aload_n 0, 1) := by decide +kernel
theorem d_Law_law_455 : decode code 455 = .ok (.iload_n 3, 1) := by decide +kernel
theorem d_Law_law_456 : decode code 456 = .ok (.iconst 1, 1) := by decide +kernel
theorem d_Law_law_457 : decode code 457 = .ok (.iadd, 1) := by decide +kernel
theorem d_Law_law_458 : decode code 458 = .ok (.iaload, 1) := by decide +kernel
theorem d_Law_law_459 : decode code 459 = .ok (.invokevirtual 69, 3) := by decide +kernel
theorem d_Law_law_462 : decode code 462 = .ok (.aload_n 2, 1) := by decide +kernel
theorem d_Law_law_463 : decode code 463 = .ok (.aload_n 0, 1) := by decide +kernel
theorem d_Law_law_464 : decode code 464 = .ok (.iload_n 3, 1) := by decide +kernel
theorem d_Law_law_465 : decode code 465 = .ok (.iconst 1, 1) := by decide +kernel
theorem d_Law_law_466 : decode code 466 = .ok (.iadd, 1) := by decide +kernel
theorem d_Law_law_467 : decode code 467 = .ok (.iaload, 1) := by decide +kernel
theorem d_Law_law_468 : decode code 468 = .ok (.invokevirtual 72, 3) := by decide +kernel
theorem d_Law_law_471 : decode code 471 = .ok (.if_icmp .eq 285, 3) := by decide +kernel
theorem d_Law_law_474 : decode code 474 = .ok (.iconst 0, 1) := by decide +kernel
theorem d_Law_law_475 : decode code 475 = .ok (.ireturn, 1) := by decide +kernel
theorem d_Law_law_476 : decode code 476 = .ok (.aload_n 1, 1) := by decide +kernel
theorem d_Law_law_477 : decode code 477 = .ok (.invokevirtual 73, 3) := by decide +kernel
theorem d_Law_law_480 : decode code 480 = .ok (.aload_n 2, 1) := by decide +kernel
theorem d_Law_law_481 : decode code 481 = .ok (.invokevirtual 76, 3) := by decide +kernel
theorem d_Law_law_484 : decode code 484 = .ok (.if_icmp .eq 272, 3) := by decide +kernel
theorem d_Law_law_487 : decode code 487 = .ok (.iconst 0, 1) := by decide +kernel
theorem d_Law_law_488 : decode code 488 = .ok (.ireturn, 1) := by decide +kernel
theorem d_Law_law_489 : decode code 489 = .ok (.aload_n 1, 1) := by decide +kernel
theorem d_Law_law_490 : decode code 490 = .ok (.invokevirtual 77, 3) := by decide +kernel
theorem d_Law_law_493 : decode code 493 = .ok (.aload_n 2, 1) := by decide +kernel
theorem d_Law_law_494 : decode code 494 = .ok (.invokevirtual 80, 3) := by decide +kernel
theorem d_Law_law_497 : decode code 497 = .ok (.if_icmp .eq 259, 3) := by decide +kernel
theorem d_Law_law_500 : decode code 500 = .ok (.iconst 0, 1) := by decide +kernel
theorem d_Law_law_501 : decode code 501 = .ok (.ireturn, 1) := by decide +kernel
theorem d_Law_law_502 : decode code 502 = .ok (.aload_n 1, 1) := by decide +kernel
theorem d_Law_law_503 : decode code 503 = .ok (.aload_n 0, 1) := by decide +kernel
theorem d_Law_law_504 : decode code 504 = .ok (.iload_n 3, 1) := by decide +kernel
theorem d_Law_law_505 : decode code 505 = .ok (.iconst 1, 1) := by decide +kernel
theorem d_Law_law_506 : decode code 506 = .ok (.iadd, 1) := by decide +kernel
theorem d_Law_law_507 : decode code 507 = .ok (.iaload, 1) := by decide +kernel
theorem d_Law_law_508 : decode code 508 = .ok (.invokevirtual 81, 3) := by decide +kernel
theorem d_Law_law_511 : decode code 511 = .ok (.aload_n 2, 1) := by decide +kernel
theorem d_Law_law_512 : decode code 512 = .ok (.aload_n 0, 1) := by decide +kernel
theorem d_Law_law_513 : decode code 513 = .ok (.iload_n 3, 1) := by decide +kernel
theorem d_Law_law_514 : decode code 514 = .ok (.iconst 1, 1) := by decide +kernel
theorem d_Law_law_515 : decode code 515 = .ok (.iadd, 1) := by decide +kernel
theorem d_Law_law_516 : decode code 516 = .ok (.iaload, 1) := by decide +kernel
theorem d_Law_law_517 : decode code 517 = .ok (.invokevirtual 84, 3) := by decide +kernel
theorem d_Law_law_520 : decode code 520 = .ok (.if_icmp .eq 236, 3) := by decide +kernel
theorem d_Law_law_523 : decode code 523 = .ok (.iconst 0, 1) := by decide +kernel
theorem d_Law_law_524 : decode code 524 = .ok (.ireturn, 1) := by decide +kernel
theorem d_Law_law_525 : decode code 525 = .ok (.aload_n 1, 1) := by decide +kernel
theorem d_Law_law_526 : decode code 526 = .ok (.aload_n 0, 1) := by decide +kernel
theorem d_Law_law_527 : decode code 527 = .ok (.iload_n 3, 1) := by decide +kernel
theorem d_Law_law_528 : decode code 528 = .ok (.iconst 1, 1) := by decide +kernel
theorem d_Law_law_529 : decode code 529 = .ok (.iadd, 1) := by decide +kernel
theorem d_Law_law_530 : decode code 530 = .ok (.iaload, 1) := by decide +kernel
theorem d_Law_law_531 : decode code 531 = .ok (.aload_n 0, 1) := by decide +kernel
theorem d_Law_law_532 : decode code 532 = .ok (.iload_n 3, 1) := by decide +kernel
theorem d_Law_law_533 : decode code 533 = .ok (.iconst 2, 1) := by decide +kernel
theorem d_Law_law_534 : decode code 534 = .ok (.iadd, 1) := by decide +kernel
theorem d_Law_law_535 : decode code 535 = .ok (.iaload, 1) := by decide +kernel
theorem d_Law_law_536 : decode code 536 = .ok (.invokevirtual 85, 3) := by decide +kernel
theorem d_Law_law_539 : decode code 539 = .ok (.aload_n 2, 1) := by decide +kernel
theorem d_Law_law_540 : decode code 540 = .ok (.aload_n 0, 1) := by decide +kernel
theorem d_Law_law_541 : decode code 541 = .ok (.iload_n 3, 1) := by decide +kernel
theorem d_Law_law_542 : decode code 542 = .ok (.iconst 1, 1) := by decide +kernel
theorem d_Law_law_543 : decode code 543 = .ok (.iadd, 1) := by decide +kernel
theorem d_Law_law_544 : decode code 544 = .ok (.iaload, 1) := by decide +kernel
theorem d_Law_law_545 : decode code 545 = .ok (.aload_n 0, 1) := by decide +kernel
theorem d_Law_law_546 : decode code 546 = .ok (.iload_n 3, 1) := by decide +kernel
theorem d_Law_law_547 : decode code 547 = .ok (.iconst 2, 1) := by decide +kernel
theorem d_Law_law_548 : decode code 548 = .ok (.iadd, 1) := by decide +kernel
theorem d_Law_law_549 : decode code 549 = .ok (.iaload, 1) := by decide +kernel
theorem d_Law_law_550 : decode code 550 = .ok (.invokevirtual 88, 3) := by decide +kernel
theorem d_Law_law_553 : decode code 553 = .ok (.if_icmp .eq 203, 3) := by decide +kernel
theorem d_Law_law_556 : decode code 556 = .ok (.iconst 0, 1) := by decide +kernel
theorem d_Law_law_557 : decode code 557 = .ok (.ireturn, 1) := by decide +kernel
theorem d_Law_law_558 : decode code 558 = .ok (.aload_n 1, 1) := by decide +kernel
theorem d_Law_law_559 : decode code 559 = .ok (.aload_n 0, 1) := by decide +kernel
theorem d_Law_law_560 : decode code 560 = .ok (.iload_n 3, 1) := by decide +kernel
theorem d_Law_law_561 : decode code 561 = .ok (.iconst 1, 1) := by decide +kernel
theorem d_Law_law_562 : decode code 562 = .ok (.iadd, 1) := by decide +kernel
theorem d_Law_law_563 : decode code 563 = .ok (.iaload, 1) := by decide +kernel
theorem d_Law_law_564 : decode code 564 = .ok (.aload_n 0, 1) := by decide +kernel
theorem d_Law_law_565 : decode code 565 = .ok (.iload_n 3, 1) := by decide +kernel
theorem d_Law_law_566 : decode code 566 = .ok (.iconst 2, 1) := by decide +kernel
theorem d_Law_law_567 : decode code 567 = .ok (.iadd, 1) := by decide +kernel
theorem d_Law_law_568 : decode code 568 = .ok (.iaload, 1) := by decide +kernel
theorem d_Law_law_569 : decode code 569 = .ok (.invokevirtual 89, 3) := by decide +kernel
theorem d_Law_law_572 : decode code 572 = .ok (.aload_n 2, 1) := by decide +kernel
theorem d_Law_law_573 : decode code 573 = .ok (.aload_n 0, 1) := by decide +kernel
theorem d_Law_law_574 : decode code 574 = .ok (.iload_n 3, 1) := by decide +kernel
theorem d_Law_law_575 : decode code 575 = .ok (.iconst 1, 1) := by decide +kernel
theorem d_Law_law_576 : decode code 576 = .ok (.iadd, 1) := by decide +kernel
theorem d_Law_law_577 : decode code 577 = .ok (.iaload, 1) := by decide +kernel
theorem d_Law_law_578 : decode code 578 = .ok (.aload_n 0, 1) := by decide +kernel
theorem d_Law_law_579 : decode code 579 = .ok (.iload_n 3, 1) := by decide +kernel
theorem d_Law_law_580 : decode code 580 = .ok (.iconst 2, 1) := by decide +kernel
theorem d_Law_law_581 : decode code 581 = .ok (.iadd, 1) := by decide +kernel
theorem d_Law_law_582 : decode code 582 = .ok (.iaload, 1) := by decide +kernel
theorem d_Law_law_583 : decode code 583 = .ok (.invokevirtual 92, 3) := by decide +kernel
theorem d_Law_law_586 : decode code 586 = .ok (.if_icmp .eq 170, 3) := by decide +kernel
theorem d_Law_law_589 : decode code 589 = .ok (.iconst 0, 1) := by decide +kernel
theorem d_Law_law_590 : decode code 590 = .ok (.ireturn, 1) := by decide +kernel
theorem d_Law_law_591 : decode code 591 = .ok (.aload_n 1, 1) := by decide +kernel
theorem d_Law_law_592 : decode code 592 = .ok (.aload_n 0, 1) := by decide +kernel
theorem d_Law_law_593 : decode code 593 = .ok (.iload_n 3, 1) := by decide +kernel
theorem d_Law_law_594 : decode code 594 = .ok (.iconst 1, 1) := by decide +kernel
theorem d_Law_law_595 : decode code 595 = .ok (.iadd, 1) := by decide +kernel
theorem d_Law_law_596 : decode code 596 = .ok (.iaload, 1) := by decide +kernel
theorem d_Law_law_597 : decode code 597 = .ok (.aload_n 0, 1) := by decide +kernel
theorem d_Law_law_598 : decode code 598 = .ok (.iload_n 3, 1) := by decide +kernel
theorem d_Law_law_599 : decode code 599 = .ok (.iconst 2, 1) := by decide +kernel
theorem d_Law_law_600 : decode code 600 = .ok (.iadd, 1) := by decide +kernel
theorem d_Law_law_601 : decode code 601 = .ok (.iaload, 1) := by decide +kernel
theorem d_Law_law_602 : decode code 602 = .ok (.invokevirtual 93, 3) := by decide +kernel
theorem d_Law_law_605 : decode code 605 = .ok (.aload_n 2, 1) := by decide +kernel
theorem d_Law_law_606 : decode code 606 = .ok (.aload_n 0, 1) := by decide +kernel
theorem d_Law_law_607 : decode code 607 = .ok (.iload_n 3, 1) := by decide +kernel
theorem d_Law_law_608 : decode code 608 = .ok (.iconst 1, 1) := by decide +kernel
theorem d_Law_law_609 : decode code 609 = .ok (.iadd, 1) := by decide +kernel
theorem d_Law_law_610 : decode code 610 = .ok (.iaload, 1) := by decide +kernel
theorem d_Law_law_611 : decode code 611 = .ok (.aload_n 0, 1) := by decide +kernel
theorem d_Law_law_612 : decode code 612 = .ok (.iload_n 3, 1) := by decide +kernel
theorem d_Law_law_613 : decode code 613 = .ok (.iconst 2, 1) := by decide +kernel
theorem d_Law_law_614 : decode code 614 = .ok (.iadd, 1) := by decide +kernel
theorem d_Law_law_615 : decode code 615 = .ok (.iaload, 1) := by decide +kernel
theorem d_Law_law_616 : decode code 616 = .ok (.invokevirtual 96, 3) := by decide +kernel
theorem d_Law_law_619 : decode code 619 = .ok (.if_icmp .eq 137, 3) := by decide +kernel
theorem d_Law_law_622 : decode code 622 = .ok (.iconst 0, 1) := by decide +kernel
theorem d_Law_law_623 : decode code 623 = .ok (.ireturn, 1) := by decide +kernel
theorem d_Law_law_624 : decode code 624 = .ok (.aload_n 1, 1) := by decide +kernel
theorem d_Law_law_625 : decode code 625 = .ok (.aload_n 0, 1) := by decide +kernel
theorem d_Law_law_626 : decode code 626 = .ok (.iload_n 3, 1) := by decide +kernel
theorem d_Law_law_627 : decode code 627 = .ok (.iconst 1, 1) := by decide +kernel
theorem d_Law_law_628 : decode code 628 = .ok (.iadd, 1) := by decide +kernel
theorem d_Law_law_629 : decode code 629 = .ok (.iaload, 1) := by decide +kernel
theorem d_Law_law_630 : decode code 630 = .ok (.aload_n 0, 1) := by decide +kernel
theorem d_Law_law_631 : decode code 631 = .ok (.iload_n 3, 1) := by decide +kernel
theorem d_Law_law_632 : decode code 632 = .ok (.iconst 2, 1) := by decide +kernel
theorem d_Law_law_633 : decode code 633 = .ok (.iadd, 1) := by decide +kernel
theorem d_Law_law_634 : decode code 634 = .ok (.iaload, 1) := by decide +kernel
theorem d_Law_law_635 : decode code 635 = .ok (.invokevirtual 97, 3) := by decide +kernel
theorem d_Law_law_638 : decode code 638 = .ok (.aload_n 2, 1) := by decide +kernel
theorem d_Law_law_639 : decode code 639 = .ok (.aload_n 0, 1) := by decide +kernel
theorem d_Law_law_640 : decode code 640 = .ok (.iload_n 3, 1) := by decide +kernel
theorem d_Law_law_641 : decode code 641 = .ok (.iconst 1, 1) := by decide +kernel
theorem d_Law_law_642 : decode code 642 = .ok (.iadd, 1) := by decide +kernel
theorem d_Law_law_643 : decode code 643 = .ok (.iaload, 1) := by decide +kernel
theorem d_Law_law_644 : decode code 644 = .ok (.aload_n 0, 1) := by decide +kernel
theorem d_Law_law_645 : decode code 645 = .ok (.iload_n 3, 1) := by decide +kernel
theorem d_Law_law_646 : decode code 646 = .ok (.iconst 2, 1) := by decide +kernel
theorem d_Law_law_647 : decode code 647 = .ok (.iadd, 1) := by decide +kernel
theorem d_Law_law_648 : decode code 648 = .ok (.iaload, 1) := by decide +kernel
theorem d_Law_law_649 : decode code 649 = .ok (.invokevirtual 100, 3) := by decide +kernel
theorem d_Law_law_652 : decode code 652 = .ok (.if_icmp .eq 104, 3) := by decide +kernel
theorem d_Law_law_655 : decode code 655 = .ok (.iconst 0, 1) := by decide +kernel
theorem d_Law_law_656 : decode code 656 = .ok (.ireturn, 1) := by decide +kernel
theorem d_Law_law_657 : decode code 657 = .ok (.aload_n 1, 1) := by decide +kernel
theorem d_Law_law_658 : decode code 658 = .ok (.aload_n 0, 1) := by decide +kernel
theorem d_Law_law_659 : decode code 659 = .ok (.iload_n 3, 1) := by decide +kernel
theorem d_Law_law_660 : decode code 660 = .ok (.iconst 1, 1) := by decide +kernel
theorem d_Law_law_661 : decode code 661 = .ok (.iadd, 1) := by decide +kernel
theorem d_Law_law_662 : decode code 662 = .ok (.iaload, 1) := by decide +kernel
theorem d_Law_law_663 : decode code 663 = .ok (.aload_n 0, 1) := by decide +kernel
theorem d_Law_law_664 : decode code 664 = .ok (.iload_n 3, 1) := by decide +kernel
theorem d_Law_law_665 : decode code 665 = .ok (.iconst 2, 1) := by decide +kernel
theorem d_Law_law_666 : decode code 666 = .ok (.iadd, 1) := by decide +kernel
theorem d_Law_law_667 : decode code 667 = .ok (.iaload, 1) := by decide +kernel
theorem d_Law_law_668 : decode code 668 = .ok (.invokevirtual 101, 3) := by decide +kernel
theorem d_Law_law_671 : decode code 671 = .ok (.aload_n 2, 1) := by decide +kernel
theorem d_Law_law_672 : decode code 672 = .ok (.aload_n 0, 1) := by decide +kernel
theorem d_Law_law_673 : decode code 673 = .ok (.iload_n 3, 1) := by decide +kernel
theorem d_Law_law_674 : decode code 674 = .ok (.iconst 1, 1) := by decide +kernel
theorem d_Law_law_675 : decode code 675 = .ok (.iadd, 1) := by decide +kernel
theorem d_Law_law_676 : decode code 676 = .ok (.iaload, 1) := by decide +kernel
theorem d_Law_law_677 : decode code 677 = .ok (.aload_n 0, 1) := by decide +kernel
theorem d_Law_law_678 : decode code 678 = .ok (.iload_n 3, 1) := by decide +kernel
theorem d_Law_law_679 : decode code 679 = .ok (.iconst 2, 1) := by decide +kernel
theorem d_Law_law_680 : decode code 680 = .ok (.iadd, 1) := by decide +kernel
theorem d_Law_law_681 : decode code 681 = .ok (.iaload, 1) := by decide +kernel
theorem d_Law_law_682 : decode code 682 = .ok (.invokevirtual 104, 3) := by decide +kernel
theorem d_Law_law_685 : decode code 685 = .ok (.if_icmp .eq 71, 3) := by decide +kernel
theorem d_Law_law_688 : decode code 688 = .ok (.iconst 0, 1) := by decide +kernel
theorem d_Law_law_689 : decode code 689 = .ok (.ireturn, 1) := by decide +kernel
theorem d_Law_law_690 : decode code 690 = .ok (.aload_n 1, 1) := by decide +kernel
theorem d_Law_law_691 : decode code 691 = .ok (.aload_n 0, 1) := by decide +kernel
theorem d_Law_law_692 : decode code 692 = .ok (.iload_n 3, 1) := by decide +kernel
theorem d_Law_law_693 : decode code 693 = .ok (.iconst 1, 1) := by decide +kernel
theorem d_Law_law_694 : decode code 694 = .ok (.iadd, 1) := by decide +kernel
theorem d_Law_law_695 : decode code 695 = .ok (.iaload, 1) := by decide +kernel
theorem d_Law_law_696 : decode code 696 = .ok (.invokevirtual 105, 3) := by decide +kernel
theorem d_Law_law_699 : decode code 699 = .ok (.aload_n 2, 1) := by decide +kernel
theorem d_Law_law_700 : decode code 700 = .ok (.aload_n 0, 1) := by decide +kernel
theorem d_Law_law_701 : decode code 701 = .ok (.iload_n 3, 1) := by decide +kernel
theorem d_Law_law_702 : decode code 702 = .ok (.iconst 1, 1) := by decide +kernel
theorem d_Law_law_703 : decode code 703 = .ok (.iadd, 1) := by decide +kernel
theorem d_Law_law_704 : decode code 704 = .ok (.iaload, 1) := by decide +kernel
theorem d_Law_law_705 : decode code 705 = .ok (.invokevirtual 108, 3) := by decide +kernel
theorem d_Law_law_708 : decode code 708 = .ok (.if_icmp .eq 48, 3) := by decide +kernel
theorem d_Law_law_711 : decode code 711 = .ok (.iconst 0, 1) := by decide +kernel
theorem d_Law_law_712 : decode code 712 = .ok (.ireturn, 1) := by decide +kernel
theorem d_Law_law_713 : decode code 713 = .ok (.aload_n 1, 1) := by decide +kernel
theorem d_Law_law_714 : decode code 714 = .ok (.aload_n 0, 1) := by decide +kernel
theorem d_Law_law_715 : decode code 715 = .ok (.iload_n 3, 1) := by decide +kernel
theorem d_Law_law_716 : decode code 716 = .ok (.iconst 1, 1) := by decide +kernel
theorem d_Law_law_717 : decode code 717 = .ok (.iadd, 1) := by decide +kernel
theorem d_Law_law_718 : decode code 718 = .ok (.iaload, 1) := by decide +kernel
theorem d_Law_law_719 : decode code 719 = .ok (.aload_n 0, 1) := by decide +kernel
theorem d_Law_law_720 : decode code 720 = .ok (.iload_n 3, 1) := by decide +kernel
theorem d_Law_law_721 : decode code 721 = .ok (.iconst 2, 1) := by decide +kernel
theorem d_Law_law_722 : decode code 722 = .ok (.iadd, 1) := by decide +kernel
theorem d_Law_law_723 : decode code 723 = .ok (.iaload, 1) := by decide +kernel
theorem d_Law_law_724 : decode code 724 = .ok (.aload_n 0, 1) := by decide +kernel
theorem d_Law_law_725 : decode code 725 = .ok (.iload_n 3, 1) := by decide +kernel
theorem d_Law_law_726 : decode code 726 = .ok (.iconst 3, 1) := by decide +kernel
theorem d_Law_law_727 : decode code 727 = .ok (.iadd, 1) := by decide +kernel
theorem d_Law_law_728 : decode code 728 = .ok (.iaload, 1) := by decide +kernel
theorem d_Law_law_729 : decode code 729 = .ok (.invokevirtual 109, 3) := by decide +kernel
theorem d_Law_law_732 : decode code 732 = .ok (.aload_n 2, 1) := by decide +kernel
theorem d_Law_law_733 : decode code 733 = .ok (.aload_n 0, 1) := by decide +kernel
theorem d_Law_law_734 : decode code 734 = .ok (.iload_n 3, 1) := by decide +kernel
theorem d_Law_law_735 : decode code 735 = .ok (.iconst 1, 1) := by decide +kernel
theorem d_Law_law_736 : decode code 736 = .ok (.iadd, 1) := by decide +kernel
theorem d_Law_law_737 : decode code 737 = .ok (.iaload, 1) := by decide +kernel
theorem d_Law_law_738 : decode code 738 = .ok (.aload_n 0, 1) := by decide +kernel
theorem d_Law_law_739 : decode code 739 = .ok (.iload_n 3, 1) := by decide +kernel
theorem d_Law_law_740 : decode code 740 = .ok (.iconst 2, 1) := by decide +kernel
theorem d_Law_law_741 : decode code 741 = .ok (.iadd, 1) := by decide +kernel
theorem d_Law_law_742 : decode code 742 = .ok (.iaload, 1) := by decide +kernel
theorem d_Law_law_743 : decode code 743 = .ok (.aload_n 0, 1) := by decide +kernel
theorem d_Law_law_744 : decode code 744 = .ok (.iload_n 3, 1) := by decide +kernel
theorem d_Law_law_745 : decode code 745 = .ok (.iconst 3, 1) := by decide +kernel
theorem d_Law_law_746 : decode code 746 = .ok (.iadd, 1) := by decide +kernel
theorem d_Law_law_747 : decode code 747 = .ok (.iaload, 1) := by decide +kernel
theorem d_Law_law_748 : decode code 748 = .ok (.invokevirtual 112, 3) := by decide +kernel
theorem d_Law_law_751 : decode code 751 = .ok (.if_icmp .eq 5, 3) := by decide +kernel
theorem d_Law_law_754 : decode code 754 = .ok (.iconst 0, 1) := by decide +kernel
theorem d_Law_law_755 : decode code 755 = .ok (.ireturn, 1) := by decide +kernel
theorem d_Law_law_756 : decode code 756 = .ok (.iinc 3 4, 3) := by decide +kernel
theorem d_Law_law_759 : decode code 759 = .ok (.goto (-741), 3) := by decide +kernel
theorem d_Law_law_762 : decode code 762 = .ok (.iconst 1, 1) := by decide +kernel
theorem d_Law_law_763 : decode code 763 = .ok (.ireturn, 1) := by decide +kernel
