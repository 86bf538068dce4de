/-! THE CONSTRUCTORS, by program (gen_ctor.py). -/
theorem cdm0_0 : cd 0 0 = some (.aload_n 0) := rfl
theorem cdm0_1 : cd 0 1 = some (.invokespecial 3) := rfl
theorem cdm0_4 : cd 0 4 = some (.aload_n 0) := rfl
theorem cdm0_5 : cd 0 5 = some (.bipush 40) := rfl
theorem cdm0_7 : cd 0 7 = some (.newarray .int) := rfl
theorem cdm0_9 : cd 0 9 = some (.putfield 9) := rfl
theorem cdm0_12 : cd 0 12 = some (.aload_n 0) := rfl
theorem cdm0_13 : cd 0 13 = some (.bipush 40) := rfl
theorem cdm0_15 : cd 0 15 = some (.newarray .int) := rfl
theorem cdm0_17 : cd 0 17 = some (.putfield 15) := rfl
theorem cdm0_20 : cd 0 20 = some (.aload_n 0) := rfl
theorem cdm0_21 : cd 0 21 = some (.bipush 40) := rfl
theorem cdm0_23 : cd 0 23 = some (.newarray .int) := rfl
theorem cdm0_25 : cd 0 25 = some (.putfield 18) := rfl
theorem cdm0_28 : cd 0 28 = some (.aload_n 0) := rfl
theorem cdm0_29 : cd 0 29 = some (.bipush 40) := rfl
theorem cdm0_31 : cd 0 31 = some (.newarray .int) := rfl
theorem cdm0_33 : cd 0 33 = some (.putfield 21) := rfl
theorem cdm0_36 : cd 0 36 = some (.aload_n 0) := rfl
theorem cdm0_37 : cd 0 37 = some (.iconst 0) := rfl
theorem cdm0_38 : cd 0 38 = some (.putfield 24) := rfl
theorem cdm0_41 : cd 0 41 = some (.aload_n 0) := rfl
theorem cdm0_42 : cd 0 42 = some (.aload_n 1) := rfl
theorem cdm0_43 : cd 0 43 = some (.putfield 28) := rfl
theorem cdm0_46 : cd 0 46 = some (.return_) := rfl
theorem cdm10_0 : cd 10 0 = some (.aload_n 0) := rfl
theorem cdm10_1 : cd 10 1 = some (.invokespecial 3) := rfl
theorem cdm10_4 : cd 10 4 = some (.aload_n 0) := rfl
theorem cdm10_5 : cd 10 5 = some (.new 9) := rfl
theorem cdm10_8 : cd 10 8 = some (.dup) := rfl
theorem cdm10_9 : cd 10 9 = some (.invokespecial 11) := rfl
theorem cdm10_12 : cd 10 12 = some (.putfield 12) := rfl
theorem cdm10_15 : cd 10 15 = some (.aload_n 0) := rfl
theorem cdm10_16 : cd 10 16 = some (.new 18) := rfl
theorem cdm10_19 : cd 10 19 = some (.dup) := rfl
theorem cdm10_20 : cd 10 20 = some (.invokespecial 20) := rfl
theorem cdm10_23 : cd 10 23 = some (.putfield 21) := rfl
theorem cdm10_26 : cd 10 26 = some (.aload_n 0) := rfl
theorem cdm10_27 : cd 10 27 = some (.iconst 0) := rfl
theorem cdm10_28 : cd 10 28 = some (.putfield 25) := rfl
theorem cdm10_31 : cd 10 31 = some (.aload_n 0) := rfl
theorem cdm10_32 : cd 10 32 = some (.iconst 0) := rfl
theorem cdm10_33 : cd 10 33 = some (.putfield 29) := rfl
theorem cdm10_36 : cd 10 36 = some (.aload_n 0) := rfl
theorem cdm10_37 : cd 10 37 = some (.aload_n 1) := rfl
theorem cdm10_38 : cd 10 38 = some (.putfield 32) := rfl
theorem cdm10_41 : cd 10 41 = some (.aload_n 0) := rfl
theorem cdm10_42 : cd 10 42 = some (.aload_n 2) := rfl
theorem cdm10_43 : cd 10 43 = some (.putfield 36) := rfl
theorem cdm10_46 : cd 10 46 = some (.aload_n 0) := rfl
theorem cdm10_47 : cd 10 47 = some (.new 40) := rfl
theorem cdm10_50 : cd 10 50 = some (.dup) := rfl
theorem cdm10_51 : cd 10 51 = some (.aload_n 1) := rfl
theorem cdm10_52 : cd 10 52 = some (.invokespecial 42) := rfl
theorem cdm10_55 : cd 10 55 = some (.putfield 45) := rfl
theorem cdm10_58 : cd 10 58 = some (.return_) := rfl
theorem cdm42_0 : cd 42 0 = some (.aload_n 0) := rfl
theorem cdm42_1 : cd 42 1 = some (.invokespecial 3) := rfl
theorem cdm42_4 : cd 42 4 = some (.aload_n 0) := rfl
theorem cdm42_5 : cd 42 5 = some (.sipush 150) := rfl
theorem cdm42_8 : cd 42 8 = some (.newarray .int) := rfl
theorem cdm42_10 : cd 42 10 = some (.putfield 9) := rfl
theorem cdm42_13 : cd 42 13 = some (.aload_n 0) := rfl
theorem cdm42_14 : cd 42 14 = some (.iconst 4) := rfl
theorem cdm42_15 : cd 42 15 = some (.newarray .int) := rfl
theorem cdm42_17 : cd 42 17 = some (.putfield 15) := rfl
theorem cdm42_20 : cd 42 20 = some (.aload_n 0) := rfl
theorem cdm42_21 : cd 42 21 = some (.iconst 0) := rfl
theorem cdm42_22 : cd 42 22 = some (.putfield 18) := rfl
theorem cdm42_25 : cd 42 25 = some (.return_) := rfl
theorem cdm49_0 : cd 49 0 = some (.aload_n 0) := rfl
theorem cdm49_1 : cd 49 1 = some (.invokespecial 3) := rfl
theorem cdm49_4 : cd 49 4 = some (.aload_n 0) := rfl
theorem cdm49_5 : cd 49 5 = some (.bipush 96) := rfl
theorem cdm49_7 : cd 49 7 = some (.newarray .int) := rfl
theorem cdm49_9 : cd 49 9 = some (.putfield 9) := rfl
theorem cdm49_12 : cd 49 12 = some (.aload_n 0) := rfl
theorem cdm49_13 : cd 49 13 = some (.bipush 96) := rfl
theorem cdm49_15 : cd 49 15 = some (.newarray .int) := rfl
theorem cdm49_17 : cd 49 17 = some (.putfield 15) := rfl
theorem cdm49_20 : cd 49 20 = some (.aload_n 0) := rfl
theorem cdm49_21 : cd 49 21 = some (.bipush 96) := rfl
theorem cdm49_23 : cd 49 23 = some (.newarray .int) := rfl
theorem cdm49_25 : cd 49 25 = some (.putfield 18) := rfl
theorem cdm49_28 : cd 49 28 = some (.aload_n 0) := rfl
theorem cdm49_29 : cd 49 29 = some (.bipush 96) := rfl
theorem cdm49_31 : cd 49 31 = some (.newarray .int) := rfl
theorem cdm49_33 : cd 49 33 = some (.putfield 21) := rfl
theorem cdm49_36 : cd 49 36 = some (.aload_n 0) := rfl
theorem cdm49_37 : cd 49 37 = some (.bipush 96) := rfl
theorem cdm49_39 : cd 49 39 = some (.newarray .int) := rfl
theorem cdm49_41 : cd 49 41 = some (.putfield 24) := rfl
theorem cdm49_44 : cd 49 44 = some (.return_) := rfl
theorem cdm59_0 : cd 59 0 = some (.aload_n 0) := rfl
theorem cdm59_1 : cd 59 1 = some (.invokespecial 3) := rfl
theorem cdm59_4 : cd 59 4 = some (.aload_n 0) := rfl
theorem cdm59_5 : cd 59 5 = some (.bipush 8) := rfl
theorem cdm59_7 : cd 59 7 = some (.anewarray 9) := rfl
theorem cdm59_10 : cd 59 10 = some (.putfield 11) := rfl
theorem cdm59_13 : cd 59 13 = some (.aload_n 0) := rfl
theorem cdm59_14 : cd 59 14 = some (.iconst 0) := rfl
theorem cdm59_15 : cd 59 15 = some (.putfield 17) := rfl
theorem cdm59_18 : cd 59 18 = some (.aload_n 0) := rfl
theorem cdm59_19 : cd 59 19 = some (.iconst 0) := rfl
theorem cdm59_20 : cd 59 20 = some (.putfield 21) := rfl
theorem cdm59_23 : cd 59 23 = some (.iconst 0) := rfl
theorem cdm59_24 : cd 59 24 = some (.istore_n 3) := rfl
theorem cdm59_25 : cd 59 25 = some (.iload_n 3) := rfl
theorem cdm59_26 : cd 59 26 = some (.bipush 8) := rfl
theorem cdm59_28 : cd 59 28 = some (.if_icmp .ge 24) := rfl
theorem cdm59_31 : cd 59 31 = some (.aload_n 0) := rfl
theorem cdm59_32 : cd 59 32 = some (.getfield 11) := rfl
theorem cdm59_35 : cd 59 35 = some (.iload_n 3) := rfl
theorem cdm59_36 : cd 59 36 = some (.new 9) := rfl
theorem cdm59_39 : cd 59 39 = some (.dup) := rfl
theorem cdm59_40 : cd 59 40 = some (.aload_n 1) := rfl
theorem cdm59_41 : cd 59 41 = some (.aload_n 2) := rfl
theorem cdm59_42 : cd 59 42 = some (.invokespecial 24) := rfl
theorem cdm59_45 : cd 59 45 = some (.aastore) := rfl
theorem cdm59_46 : cd 59 46 = some (.iinc 3 1) := rfl
theorem cdm59_49 : cd 59 49 = some (.goto (-24)) := rfl
theorem cdm59_52 : cd 59 52 = some (.return_) := rfl
theorem cdm62_0 : cd 62 0 = some (.aload_n 0) := rfl
theorem cdm62_1 : cd 62 1 = some (.invokespecial 3) := rfl
theorem cdm62_4 : cd 62 4 = some (.aload_n 0) := rfl
theorem cdm62_5 : cd 62 5 = some (.sipush 900) := rfl
theorem cdm62_8 : cd 62 8 = some (.newarray .byte) := rfl
theorem cdm62_10 : cd 62 10 = some (.putfield 9) := rfl
theorem cdm62_13 : cd 62 13 = some (.aload_n 0) := rfl
theorem cdm62_14 : cd 62 14 = some (.iconst 0) := rfl
theorem cdm62_15 : cd 62 15 = some (.putfield 15) := rfl
theorem cdm62_18 : cd 62 18 = some (.return_) := rfl
theorem cdm66_0 : cd 66 0 = some (.aload_n 0) := rfl
theorem cdm66_1 : cd 66 1 = some (.invokespecial 3) := rfl
theorem cdm66_4 : cd 66 4 = some (.aload_n 0) := rfl
theorem cdm66_5 : cd 66 5 = some (.new 9) := rfl
theorem cdm66_8 : cd 66 8 = some (.dup) := rfl
theorem cdm66_9 : cd 66 9 = some (.invokespecial 11) := rfl
theorem cdm66_12 : cd 66 12 = some (.putfield 12) := rfl
theorem cdm66_15 : cd 66 15 = some (.aload_n 0) := rfl
theorem cdm66_16 : cd 66 16 = some (.iconst 0) := rfl
theorem cdm66_17 : cd 66 17 = some (.putfield 18) := rfl
theorem cdm66_20 : cd 66 20 = some (.aload_n 0) := rfl
theorem cdm66_21 : cd 66 21 = some (.iconst (-1)) := rfl
theorem cdm66_22 : cd 66 22 = some (.putfield 22) := rfl
theorem cdm66_25 : cd 66 25 = some (.aload_n 0) := rfl
theorem cdm66_26 : cd 66 26 = some (.iconst 0) := rfl
theorem cdm66_27 : cd 66 27 = some (.putfield 25) := rfl
theorem cdm66_30 : cd 66 30 = some (.aload_n 0) := rfl
theorem cdm66_31 : cd 66 31 = some (.iconst 0) := rfl
theorem cdm66_32 : cd 66 32 = some (.putfield 28) := rfl
theorem cdm66_35 : cd 66 35 = some (.aload_n 0) := rfl
theorem cdm66_36 : cd 66 36 = some (.new 31) := rfl
theorem cdm66_39 : cd 66 39 = some (.dup) := rfl
theorem cdm66_40 : cd 66 40 = some (.aload_n 0) := rfl
theorem cdm66_41 : cd 66 41 = some (.getfield 12) := rfl
theorem cdm66_44 : cd 66 44 = some (.aload_n 2) := rfl
theorem cdm66_45 : cd 66 45 = some (.invokespecial 33) := rfl
theorem cdm66_48 : cd 66 48 = some (.putfield 36) := rfl
theorem cdm66_51 : cd 66 51 = some (.aload_n 0) := rfl
theorem cdm66_52 : cd 66 52 = some (.new 40) := rfl
theorem cdm66_55 : cd 66 55 = some (.dup) := rfl
theorem cdm66_56 : cd 66 56 = some (.aload_n 1) := rfl
theorem cdm66_57 : cd 66 57 = some (.invokespecial 42) := rfl
theorem cdm66_60 : cd 66 60 = some (.putfield 45) := rfl
theorem cdm66_63 : cd 66 63 = some (.return_) := rfl
theorem cdm77_0 : cd 77 0 = some (.aload_n 0) := rfl
theorem cdm77_1 : cd 77 1 = some (.invokespecial 3) := rfl
theorem cdm77_4 : cd 77 4 = some (.aload_n 0) := rfl
theorem cdm77_5 : cd 77 5 = some (.bipush 6) := rfl
theorem cdm77_7 : cd 77 7 = some (.newarray .int) := rfl
theorem cdm77_9 : cd 77 9 = some (.putfield 9) := rfl
theorem cdm77_12 : cd 77 12 = some (.aload_n 0) := rfl
theorem cdm77_13 : cd 77 13 = some (.bipush 40) := rfl
theorem cdm77_15 : cd 77 15 = some (.newarray .int) := rfl
theorem cdm77_17 : cd 77 17 = some (.putfield 15) := rfl
theorem cdm77_20 : cd 77 20 = some (.aload_n 0) := rfl
theorem cdm77_21 : cd 77 21 = some (.bipush 40) := rfl
theorem cdm77_23 : cd 77 23 = some (.newarray .int) := rfl
theorem cdm77_25 : cd 77 25 = some (.putfield 18) := rfl
theorem cdm77_28 : cd 77 28 = some (.aload_n 0) := rfl
theorem cdm77_29 : cd 77 29 = some (.bipush 40) := rfl
theorem cdm77_31 : cd 77 31 = some (.newarray .int) := rfl
theorem cdm77_33 : cd 77 33 = some (.putfield 21) := rfl
theorem cdm77_36 : cd 77 36 = some (.aload_n 0) := rfl
theorem cdm77_37 : cd 77 37 = some (.iconst 0) := rfl
theorem cdm77_38 : cd 77 38 = some (.putfield 24) := rfl
theorem cdm77_41 : cd 77 41 = some (.return_) := rfl
theorem cdm84_0 : cd 84 0 = some (.aload_n 0) := rfl
theorem cdm84_1 : cd 84 1 = some (.invokespecial 3) := rfl
theorem cdm84_4 : cd 84 4 = some (.aload_n 0) := rfl
theorem cdm84_5 : cd 84 5 = some (.bipush 96) := rfl
theorem cdm84_7 : cd 84 7 = some (.newarray .int) := rfl
theorem cdm84_9 : cd 84 9 = some (.putfield 9) := rfl
theorem cdm84_12 : cd 84 12 = some (.aload_n 0) := rfl
theorem cdm84_13 : cd 84 13 = some (.bipush 96) := rfl
theorem cdm84_15 : cd 84 15 = some (.newarray .int) := rfl
theorem cdm84_17 : cd 84 17 = some (.putfield 15) := rfl
theorem cdm84_20 : cd 84 20 = some (.return_) := rfl
theorem cdm87_0 : cd 87 0 = some (.aload_n 0) := rfl
theorem cdm87_1 : cd 87 1 = some (.invokespecial 3) := rfl
theorem cdm87_4 : cd 87 4 = some (.aload_n 0) := rfl
theorem cdm87_5 : cd 87 5 = some (.sipush 240) := rfl
theorem cdm87_8 : cd 87 8 = some (.newarray .byte) := rfl
theorem cdm87_10 : cd 87 10 = some (.putfield 9) := rfl
theorem cdm87_13 : cd 87 13 = some (.aload_n 0) := rfl
theorem cdm87_14 : cd 87 14 = some (.iconst 0) := rfl
theorem cdm87_15 : cd 87 15 = some (.putfield 15) := rfl
theorem cdm87_18 : cd 87 18 = some (.return_) := rfl
theorem cdm92_0 : cd 92 0 = some (.aload_n 0) := rfl
theorem cdm92_1 : cd 92 1 = some (.invokespecial 3) := rfl
theorem cdm92_4 : cd 92 4 = some (.aload_n 0) := rfl
theorem cdm92_5 : cd 92 5 = some (.iconst 0) := rfl
theorem cdm92_6 : cd 92 6 = some (.putfield 9) := rfl
theorem cdm92_9 : cd 92 9 = some (.aload_n 0) := rfl
theorem cdm92_10 : cd 92 10 = some (.iconst 0) := rfl
theorem cdm92_11 : cd 92 11 = some (.putfield 15) := rfl
theorem cdm92_14 : cd 92 14 = some (.aload_n 0) := rfl
theorem cdm92_15 : cd 92 15 = some (.iconst 0) := rfl
theorem cdm92_16 : cd 92 16 = some (.putfield 18) := rfl
theorem cdm92_19 : cd 92 19 = some (.aload_n 0) := rfl
theorem cdm92_20 : cd 92 20 = some (.iconst 0) := rfl
theorem cdm92_21 : cd 92 21 = some (.putfield 21) := rfl
theorem cdm92_24 : cd 92 24 = some (.aload_n 0) := rfl
theorem cdm92_25 : cd 92 25 = some (.iconst 0) := rfl
theorem cdm92_26 : cd 92 26 = some (.putfield 24) := rfl
theorem cdm92_29 : cd 92 29 = some (.aload_n 0) := rfl
theorem cdm92_30 : cd 92 30 = some (.aload_n 1) := rfl
theorem cdm92_31 : cd 92 31 = some (.putfield 27) := rfl
theorem cdm92_34 : cd 92 34 = some (.return_) := rfl
theorem cdm98_0 : cd 98 0 = some (.aload_n 0) := rfl
theorem cdm98_1 : cd 98 1 = some (.invokespecial 3) := rfl
theorem cdm98_4 : cd 98 4 = some (.aload_n 0) := rfl
theorem cdm98_5 : cd 98 5 = some (.new 9) := rfl
theorem cdm98_8 : cd 98 8 = some (.dup) := rfl
theorem cdm98_9 : cd 98 9 = some (.invokespecial 11) := rfl
theorem cdm98_12 : cd 98 12 = some (.putfield 12) := rfl
theorem cdm98_15 : cd 98 15 = some (.aload_n 0) := rfl
theorem cdm98_16 : cd 98 16 = some (.new 16) := rfl
theorem cdm98_19 : cd 98 19 = some (.dup) := rfl
theorem cdm98_20 : cd 98 20 = some (.invokespecial 18) := rfl
theorem cdm98_23 : cd 98 23 = some (.putfield 19) := rfl
theorem cdm98_26 : cd 98 26 = some (.aload_n 0) := rfl
theorem cdm98_27 : cd 98 27 = some (.new 23) := rfl
theorem cdm98_30 : cd 98 30 = some (.dup) := rfl
theorem cdm98_31 : cd 98 31 = some (.invokespecial 25) := rfl
theorem cdm98_34 : cd 98 34 = some (.putfield 26) := rfl
theorem cdm98_37 : cd 98 37 = some (.aload_n 0) := rfl
theorem cdm98_38 : cd 98 38 = some (.new 30) := rfl
theorem cdm98_41 : cd 98 41 = some (.dup) := rfl
theorem cdm98_42 : cd 98 42 = some (.aload_n 0) := rfl
theorem cdm98_43 : cd 98 43 = some (.getfield 12) := rfl
theorem cdm98_46 : cd 98 46 = some (.aload_n 0) := rfl
theorem cdm98_47 : cd 98 47 = some (.getfield 26) := rfl
theorem cdm98_50 : cd 98 50 = some (.invokespecial 32) := rfl
theorem cdm98_53 : cd 98 53 = some (.putfield 35) := rfl
theorem cdm98_56 : cd 98 56 = some (.aload_n 0) := rfl
theorem cdm98_57 : cd 98 57 = some (.new 39) := rfl
theorem cdm98_60 : cd 98 60 = some (.dup) := rfl
theorem cdm98_61 : cd 98 61 = some (.aload_n 0) := rfl
theorem cdm98_62 : cd 98 62 = some (.getfield 19) := rfl
theorem cdm98_65 : cd 98 65 = some (.aload_n 0) := rfl
theorem cdm98_66 : cd 98 66 = some (.getfield 26) := rfl
theorem cdm98_69 : cd 98 69 = some (.invokespecial 41) := rfl
theorem cdm98_72 : cd 98 72 = some (.putfield 44) := rfl
theorem cdm98_75 : cd 98 75 = some (.aload_n 0) := rfl
theorem cdm98_76 : cd 98 76 = some (.new 39) := rfl
theorem cdm98_79 : cd 98 79 = some (.dup) := rfl
theorem cdm98_80 : cd 98 80 = some (.aload_n 0) := rfl
theorem cdm98_81 : cd 98 81 = some (.getfield 19) := rfl
theorem cdm98_84 : cd 98 84 = some (.aload_n 0) := rfl
theorem cdm98_85 : cd 98 85 = some (.getfield 26) := rfl
theorem cdm98_88 : cd 98 88 = some (.invokespecial 41) := rfl
theorem cdm98_91 : cd 98 91 = some (.putfield 48) := rfl
theorem cdm98_94 : cd 98 94 = some (.aload_n 0) := rfl
theorem cdm98_95 : cd 98 95 = some (.new 51) := rfl
theorem cdm98_98 : cd 98 98 = some (.dup) := rfl
theorem cdm98_99 : cd 98 99 = some (.aload_n 0) := rfl
theorem cdm98_100 : cd 98 100 = some (.getfield 19) := rfl
theorem cdm98_103 : cd 98 103 = some (.aload_n 0) := rfl
theorem cdm98_104 : cd 98 104 = some (.getfield 26) := rfl
theorem cdm98_107 : cd 98 107 = some (.invokespecial 53) := rfl
theorem cdm98_110 : cd 98 110 = some (.putfield 54) := rfl
theorem cdm98_113 : cd 98 113 = some (.aload_n 0) := rfl
theorem cdm98_114 : cd 98 114 = some (.iconst 2) := rfl
theorem cdm98_115 : cd 98 115 = some (.anewarray 39) := rfl
theorem cdm98_118 : cd 98 118 = some (.putfield 58) := rfl
theorem cdm98_121 : cd 98 121 = some (.aload_n 0) := rfl
theorem cdm98_122 : cd 98 122 = some (.iconst 2) := rfl
theorem cdm98_123 : cd 98 123 = some (.newarray .boolean) := rfl
theorem cdm98_125 : cd 98 125 = some (.putfield 62) := rfl
theorem cdm98_128 : cd 98 128 = some (.aload_n 0) := rfl
theorem cdm98_129 : cd 98 129 = some (.new 66) := rfl
theorem cdm98_132 : cd 98 132 = some (.dup) := rfl
theorem cdm98_133 : cd 98 133 = some (.invokespecial 68) := rfl
theorem cdm98_136 : cd 98 136 = some (.putfield 69) := rfl
theorem cdm98_139 : cd 98 139 = some (.aload_n 0) := rfl
theorem cdm98_140 : cd 98 140 = some (.iconst 0) := rfl
theorem cdm98_141 : cd 98 141 = some (.putfield 73) := rfl
theorem cdm98_144 : cd 98 144 = some (.iconst 0) := rfl
theorem cdm98_145 : cd 98 145 = some (.istore_n 1) := rfl
theorem cdm98_146 : cd 98 146 = some (.iload_n 1) := rfl
theorem cdm98_147 : cd 98 147 = some (.iconst 2) := rfl
theorem cdm98_148 : cd 98 148 = some (.if_icmp .ge 30) := rfl
theorem cdm98_151 : cd 98 151 = some (.aload_n 0) := rfl
theorem cdm98_152 : cd 98 152 = some (.getfield 58) := rfl
theorem cdm98_155 : cd 98 155 = some (.iload_n 1) := rfl
theorem cdm98_156 : cd 98 156 = some (.new 39) := rfl
theorem cdm98_159 : cd 98 159 = some (.dup) := rfl
theorem cdm98_160 : cd 98 160 = some (.aload_n 0) := rfl
theorem cdm98_161 : cd 98 161 = some (.getfield 19) := rfl
theorem cdm98_164 : cd 98 164 = some (.aload_n 0) := rfl
theorem cdm98_165 : cd 98 165 = some (.getfield 26) := rfl
theorem cdm98_168 : cd 98 168 = some (.invokespecial 41) := rfl
theorem cdm98_171 : cd 98 171 = some (.aastore) := rfl
theorem cdm98_172 : cd 98 172 = some (.iinc 1 1) := rfl
theorem cdm98_175 : cd 98 175 = some (.goto (-29)) := rfl
theorem cdm98_178 : cd 98 178 = some (.return_) := rfl
set_option maxRecDepth 100000 in
theorem ccK62_2 {D : Nat} {E : oEnv} {mi : mMi} {Q : mOut → mH → Prop} (hE : oOk E) (z : ccZr mi) (hq : Q (.inl none) (hc E 3 1 mi 913)) : WP (D + 0) 62 0 (mEntry 62 [mR 2 1 0]) [] (hc E 2 0 mi 13) Q := by
  refine sAn cdm62_0 rfl ?_
  refine sObj cdm62_1 rfl rfl ?_
  refine sAn cdm62_4 rfl ?_
  refine sSp (x := N 900) cdm62_5 (by decide) ?_
  refine sArr (f := 2) (i := 1) (j := 1) hE cdm62_8 (by decide +kernel) (by decide) rfl (by decide +kernel) (by omega) (fun p _ => z _ _ _ p (by omega) (by omega)) ?_
  refine sPr (by decide) cdm62_10 rfl rfl (by decide +kernel) (by decide +kernel) (by decide +kernel) rfl ?_
  refine sAn cdm62_13 rfl ?_
  refine sIc (x := N 0) cdm62_14 (by decide) ?_
  refine sPz (by decide) cdm62_15 rfl rfl (by decide +kernel) (by decide +kernel) (z _ _ _ _ (by omega) (by omega)) ?_
  exact sRet cdm62_18 rfl hq
set_option maxRecDepth 100000 in
theorem ccK77_4 {D : Nat} {E : oEnv} {mi : mMi} {Q : mOut → mH → Prop} (hE : oOk E) (z : ccZr mi) (hq : Q (.inl none) (hc E 8 6 mi 1044)) : WP (D + 0) 77 0 (mEntry 77 [mR 1 0 0]) [] (hc E 4 2 mi 918) Q := by
  refine sAn cdm77_0 rfl ?_
  refine sObj cdm77_1 rfl rfl ?_
  refine sAn cdm77_4 rfl ?_
  refine sBp (x := N 6) cdm77_5 (by decide) ?_
  refine sArr (f := 1) (i := 0) (j := 1) hE cdm77_7 (by decide +kernel) (by decide) rfl (by decide +kernel) (by omega) (fun p _ => z _ _ _ p (by omega) (by omega)) ?_
  refine sPr (by decide) cdm77_9 rfl rfl (by decide +kernel) (by decide +kernel) (by decide +kernel) rfl ?_
  refine sAn cdm77_12 rfl ?_
  refine sBp (x := N 40) cdm77_13 (by decide) ?_
  refine sArr (f := 1) (i := 0) (j := 2) hE cdm77_15 (by decide +kernel) (by decide) rfl (by decide +kernel) (by omega) (fun p _ => z _ _ _ p (by omega) (by omega)) ?_
  refine sPr (by decide) cdm77_17 rfl rfl (by decide +kernel) (by decide +kernel) (by decide +kernel) rfl ?_
  refine sAn cdm77_20 rfl ?_
  refine sBp (x := N 40) cdm77_21 (by decide) ?_
  refine sArr (f := 1) (i := 0) (j := 3) hE cdm77_23 (by decide +kernel) (by decide) rfl (by decide +kernel) (by omega) (fun p _ => z _ _ _ p (by omega) (by omega)) ?_
  refine sPr (by decide) cdm77_25 rfl rfl (by decide +kernel) (by decide +kernel) (by decide +kernel) rfl ?_
  refine sAn cdm77_28 rfl ?_
  refine sBp (x := N 40) cdm77_29 (by decide) ?_
  refine sArr (f := 1) (i := 0) (j := 4) hE cdm77_31 (by decide +kernel) (by decide) rfl (by decide +kernel) (by omega) (fun p _ => z _ _ _ p (by omega) (by omega)) ?_
  refine sPr (by decide) cdm77_33 rfl rfl (by decide +kernel) (by decide +kernel) (by decide +kernel) rfl ?_
  refine sAn cdm77_36 rfl ?_
  refine sIc (x := N 0) cdm77_37 (by decide) ?_
  refine sPz (by decide) cdm77_38 rfl rfl (by decide +kernel) (by decide +kernel) (z _ _ _ _ (by omega) (by omega)) ?_
  exact sRet cdm77_41 rfl hq
set_option maxRecDepth 100000 in
theorem ccK84_9 {D : Nat} {E : oEnv} {mi : mMi} {Q : mOut → mH → Prop} (hE : oOk E) (z : ccZr mi) (hq : Q (.inl none) (hc E 11 9 mi 1238)) : WP (D + 0) 84 0 (mEntry 84 [mR 2 2 0]) [] (hc E 9 7 mi 1046) Q := by
  refine sAn cdm84_0 rfl ?_
  refine sObj cdm84_1 rfl rfl ?_
  refine sAn cdm84_4 rfl ?_
  refine sBp (x := N 96) cdm84_5 (by decide) ?_
  refine sArr (f := 2) (i := 2) (j := 1) hE cdm84_7 (by decide +kernel) (by decide) rfl (by decide +kernel) (by omega) (fun p _ => z _ _ _ p (by omega) (by omega)) ?_
  refine sPr (by decide) cdm84_9 rfl rfl (by decide +kernel) (by decide +kernel) (by decide +kernel) rfl ?_
  refine sAn cdm84_12 rfl ?_
  refine sBp (x := N 96) cdm84_13 (by decide) ?_
  refine sArr (f := 2) (i := 2) (j := 2) hE cdm84_15 (by decide +kernel) (by decide) rfl (by decide +kernel) (by omega) (fun p _ => z _ _ _ p (by omega) (by omega)) ?_
  refine sPr (by decide) cdm84_17 rfl rfl (by decide +kernel) (by decide +kernel) (by decide +kernel) rfl ?_
  exact sRet cdm84_20 rfl hq
set_option maxRecDepth 100000 in
theorem ccK77_13 {D : Nat} {E : oEnv} {mi : mMi} {Q : mOut → mH → Prop} (hE : oOk E) (z : ccZr mi) (hq : Q (.inl none) (hc E 17 14 mi 1376)) : WP (D + 0) 77 0 (mEntry 77 [mR 1 1 0]) [] (hc E 13 10 mi 1250) Q := by
  refine sAn cdm77_0 rfl ?_
  refine sObj cdm77_1 rfl rfl ?_
  refine sAn cdm77_4 rfl ?_
  refine sBp (x := N 6) cdm77_5 (by decide) ?_
  refine sArr (f := 1) (i := 1) (j := 1) hE cdm77_7 (by decide +kernel) (by decide) rfl (by decide +kernel) (by omega) (fun p _ => z _ _ _ p (by omega) (by omega)) ?_
  refine sPr (by decide) cdm77_9 rfl rfl (by decide +kernel) (by decide +kernel) (by decide +kernel) rfl ?_
  refine sAn cdm77_12 rfl ?_
  refine sBp (x := N 40) cdm77_13 (by decide) ?_
  refine sArr (f := 1) (i := 1) (j := 2) hE cdm77_15 (by decide +kernel) (by decide) rfl (by decide +kernel) (by omega) (fun p _ => z _ _ _ p (by omega) (by omega)) ?_
  refine sPr (by decide) cdm77_17 rfl rfl (by decide +kernel) (by decide +kernel) (by decide +kernel) rfl ?_
  refine sAn cdm77_20 rfl ?_
  refine sBp (x := N 40) cdm77_21 (by decide) ?_
  refine sArr (f := 1) (i := 1) (j := 3) hE cdm77_23 (by decide +kernel) (by decide) rfl (by decide +kernel) (by omega) (fun p _ => z _ _ _ p (by omega) (by omega)) ?_
  refine sPr (by decide) cdm77_25 rfl rfl (by decide +kernel) (by decide +kernel) (by decide +kernel) rfl ?_
  refine sAn cdm77_28 rfl ?_
  refine sBp (x := N 40) cdm77_29 (by decide) ?_
  refine sArr (f := 1) (i := 1) (j := 4) hE cdm77_31 (by decide +kernel) (by decide) rfl (by decide +kernel) (by omega) (fun p _ => z _ _ _ p (by omega) (by omega)) ?_
  refine sPr (by decide) cdm77_33 rfl rfl (by decide +kernel) (by decide +kernel) (by decide +kernel) rfl ?_
  refine sAn cdm77_36 rfl ?_
  refine sIc (x := N 0) cdm77_37 (by decide) ?_
  refine sPz (by decide) cdm77_38 rfl rfl (by decide +kernel) (by decide +kernel) (z _ _ _ _ (by omega) (by omega)) ?_
  exact sRet cdm77_41 rfl hq
set_option maxRecDepth 100000 in
theorem ccK49_19 {D : Nat} {E : oEnv} {mi : mMi} {Q : mOut → mH → Prop} (hE : oOk E) (z : ccZr mi) (hq : Q (.inl none) (hc E 24 20 mi 1868)) : WP (D + 0) 49 0 (mEntry 49 [mR 0 2 1]) [] (hc E 19 15 mi 1388) Q := by
  refine sAn cdm49_0 rfl ?_
  refine sObj cdm49_1 rfl rfl ?_
  refine sAn cdm49_4 rfl ?_
  refine sBp (x := N 96) cdm49_5 (by decide) ?_
  refine sArr (f := 0) (i := 2) (j := 2) hE cdm49_7 (by decide +kernel) (by decide) rfl (by decide +kernel) (by omega) (fun p _ => z _ _ _ p (by omega) (by omega)) ?_
  refine sPr (by decide) cdm49_9 rfl rfl (by decide +kernel) (by decide +kernel) (by decide +kernel) rfl ?_
  refine sAn cdm49_12 rfl ?_
  refine sBp (x := N 96) cdm49_13 (by decide) ?_
  refine sArr (f := 0) (i := 2) (j := 3) hE cdm49_15 (by decide +kernel) (by decide) rfl (by decide +kernel) (by omega) (fun p _ => z _ _ _ p (by omega) (by omega)) ?_
  refine sPr (by decide) cdm49_17 rfl rfl (by decide +kernel) (by decide +kernel) (by decide +kernel) rfl ?_
  refine sAn cdm49_20 rfl ?_
  refine sBp (x := N 96) cdm49_21 (by decide) ?_
  refine sArr (f := 0) (i := 2) (j := 4) hE cdm49_23 (by decide +kernel) (by decide) rfl (by decide +kernel) (by omega) (fun p _ => z _ _ _ p (by omega) (by omega)) ?_
  refine sPr (by decide) cdm49_25 rfl rfl (by decide +kernel) (by decide +kernel) (by decide +kernel) rfl ?_
  refine sAn cdm49_28 rfl ?_
  refine sBp (x := N 96) cdm49_29 (by decide) ?_
  refine sArr (f := 0) (i := 2) (j := 5) hE cdm49_31 (by decide +kernel) (by decide) rfl (by decide +kernel) (by omega) (fun p _ => z _ _ _ p (by omega) (by omega)) ?_
  refine sPr (by decide) cdm49_33 rfl rfl (by decide +kernel) (by decide +kernel) (by decide +kernel) rfl ?_
  refine sAn cdm49_36 rfl ?_
  refine sBp (x := N 96) cdm49_37 (by decide) ?_
  refine sArr (f := 0) (i := 2) (j := 6) hE cdm49_39 (by decide +kernel) (by decide) rfl (by decide +kernel) (by omega) (fun p _ => z _ _ _ p (by omega) (by omega)) ?_
  refine sPr (by decide) cdm49_41 rfl rfl (by decide +kernel) (by decide +kernel) (by decide +kernel) rfl ?_
  exact sRet cdm49_44 rfl hq
set_option maxRecDepth 100000 in
theorem ccK42_25 {D : Nat} {E : oEnv} {mi : mMi} {Q : mOut → mH → Prop} (hE : oOk E) (z : ccZr mi) (hq : Q (.inl none) (hc E 27 23 mi 2025)) : WP (D + 0) 42 0 (mEntry 42 [mR 0 2 7]) [] (hc E 25 21 mi 1871) Q := by
  refine sAn cdm42_0 rfl ?_
  refine sObj cdm42_1 rfl rfl ?_
  refine sAn cdm42_4 rfl ?_
  refine sSp (x := N 150) cdm42_5 (by decide) ?_
  refine sArr (f := 0) (i := 2) (j := 8) hE cdm42_8 (by decide +kernel) (by decide) rfl (by decide +kernel) (by omega) (fun p _ => z _ _ _ p (by omega) (by omega)) ?_
  refine sPr (by decide) cdm42_10 rfl rfl (by decide +kernel) (by decide +kernel) (by decide +kernel) rfl ?_
  refine sAn cdm42_13 rfl ?_
  refine sIc (x := N 4) cdm42_14 (by decide) ?_
  refine sArr (f := 0) (i := 2) (j := 9) hE cdm42_15 (by decide +kernel) (by decide) rfl (by decide +kernel) (by omega) (fun p _ => z _ _ _ p (by omega) (by omega)) ?_
  refine sPr (by decide) cdm42_17 rfl rfl (by decide +kernel) (by decide +kernel) (by decide +kernel) rfl ?_
  refine sAn cdm42_20 rfl ?_
  refine sIc (x := N 0) cdm42_21 (by decide) ?_
  refine sPz (by decide) cdm42_22 rfl rfl (by decide +kernel) (by decide +kernel) (z _ _ _ _ (by omega) (by omega)) ?_
  exact sRet cdm42_25 rfl hq
set_option maxRecDepth 100000 in
theorem ccK0_28 {D : Nat} {E : oEnv} {mi : mMi} {Q : mOut → mH → Prop} (hE : oOk E) (z : ccZr mi) (hq : Q (.inl none) (hc E 32 31 mi 2191)) : WP (D + 0) 0 0 (mEntry 0 [mR 0 2 10, mR 1 1 0]) [] (hc E 28 26 mi 2031) Q := by
  refine sAn cdm0_0 rfl ?_
  refine sObj cdm0_1 rfl rfl ?_
  refine sAn cdm0_4 rfl ?_
  refine sBp (x := N 40) cdm0_5 (by decide) ?_
  refine sArr (f := 0) (i := 2) (j := 11) hE cdm0_7 (by decide +kernel) (by decide) rfl (by decide +kernel) (by omega) (fun p _ => z _ _ _ p (by omega) (by omega)) ?_
  refine sPr (by decide) cdm0_9 rfl rfl (by decide +kernel) (by decide +kernel) (by decide +kernel) rfl ?_
  refine sAn cdm0_12 rfl ?_
  refine sBp (x := N 40) cdm0_13 (by decide) ?_
  refine sArr (f := 0) (i := 2) (j := 12) hE cdm0_15 (by decide +kernel) (by decide) rfl (by decide +kernel) (by omega) (fun p _ => z _ _ _ p (by omega) (by omega)) ?_
  refine sPr (by decide) cdm0_17 rfl rfl (by decide +kernel) (by decide +kernel) (by decide +kernel) rfl ?_
  refine sAn cdm0_20 rfl ?_
  refine sBp (x := N 40) cdm0_21 (by decide) ?_
  refine sArr (f := 0) (i := 2) (j := 13) hE cdm0_23 (by decide +kernel) (by decide) rfl (by decide +kernel) (by omega) (fun p _ => z _ _ _ p (by omega) (by omega)) ?_
  refine sPr (by decide) cdm0_25 rfl rfl (by decide +kernel) (by decide +kernel) (by decide +kernel) rfl ?_
  refine sAn cdm0_28 rfl ?_
  refine sBp (x := N 40) cdm0_29 (by decide) ?_
  refine sArr (f := 0) (i := 2) (j := 14) hE cdm0_31 (by decide +kernel) (by decide) rfl (by decide +kernel) (by omega) (fun p _ => z _ _ _ p (by omega) (by omega)) ?_
  refine sPr (by decide) cdm0_33 rfl rfl (by decide +kernel) (by decide +kernel) (by decide +kernel) rfl ?_
  refine sAn cdm0_36 rfl ?_
  refine sIc (x := N 0) cdm0_37 (by decide) ?_
  refine sPz (by decide) cdm0_38 rfl rfl (by decide +kernel) (by decide +kernel) (z _ _ _ _ (by omega) (by omega)) ?_
  refine sAn cdm0_41 rfl ?_
  refine sAn cdm0_42 rfl ?_
  refine sPr (by decide) cdm0_43 rfl rfl (by decide +kernel) (by decide +kernel) (by decide +kernel) rfl ?_
  exact sRet cdm0_46 rfl hq
set_option maxRecDepth 100000 in
theorem ccK10_18 {D : Nat} {E : oEnv} {mi : mMi} {Q : mOut → mH → Prop} (hE : oOk E) (z : ccZr mi) (hq : Q (.inl none) (hc E 32 32 mi 2191)) : WP (D + 1) 10 0 (mEntry 10 [mR 0 2 0, mR 1 1 0, mR 2 2 0]) [] (hc E 18 15 mi 1383) Q := by
  refine sAn cdm10_0 rfl ?_
  refine sObj cdm10_1 rfl rfl ?_
  refine sAn cdm10_4 rfl ?_
  refine sNew (f := 0) (i := 2) (j := 1) hE cdm10_5 rfl rfl rfl (by decide +kernel) (by decide) rfl (by decide +kernel) (fun p _ => z _ _ _ p (by omega) (by omega)) ?_
  refine sDup cdm10_8 ?_
  refine sCall0 cdm10_9 rfl rfl rfl rfl rfl (fun Q₂ h₂ => ccK49_19 hE z h₂) ?_
  refine sPr (by decide) cdm10_12 rfl rfl (by decide +kernel) (by decide +kernel) (by decide +kernel) rfl ?_
  refine sAn cdm10_15 rfl ?_
  refine sNew (f := 0) (i := 2) (j := 7) hE cdm10_16 rfl rfl rfl (by decide +kernel) (by decide) rfl (by decide +kernel) (fun p _ => z _ _ _ p (by omega) (by omega)) ?_
  refine sDup cdm10_19 ?_
  refine sCall0 cdm10_20 rfl rfl rfl rfl rfl (fun Q₂ h₂ => ccK42_25 hE z h₂) ?_
  refine sPr (by decide) cdm10_23 rfl rfl (by decide +kernel) (by decide +kernel) (by decide +kernel) rfl ?_
  refine sAn cdm10_26 rfl ?_
  refine sIc (x := N 0) cdm10_27 (by decide) ?_
  refine sPz (by decide) cdm10_28 rfl rfl (by decide +kernel) (by decide +kernel) (z _ _ _ _ (by omega) (by omega)) ?_
  refine sAn cdm10_31 rfl ?_
  refine sIc (x := N 0) cdm10_32 (by decide) ?_
  refine sPz (by decide) cdm10_33 rfl rfl (by decide +kernel) (by decide +kernel) (z _ _ _ _ (by omega) (by omega)) ?_
  refine sAn cdm10_36 rfl ?_
  refine sAn cdm10_37 rfl ?_
  refine sPr (by decide) cdm10_38 rfl rfl (by decide +kernel) (by decide +kernel) (by decide +kernel) rfl ?_
  refine sAn cdm10_41 rfl ?_
  refine sAn cdm10_42 rfl ?_
  refine sPr (by decide) cdm10_43 rfl rfl (by decide +kernel) (by decide +kernel) (by decide +kernel) rfl ?_
  refine sAn cdm10_46 rfl ?_
  refine sNew (f := 0) (i := 2) (j := 10) hE cdm10_47 rfl rfl rfl (by decide +kernel) (by decide) rfl (by decide +kernel) (fun p _ => z _ _ _ p (by omega) (by omega)) ?_
  refine sDup cdm10_50 ?_
  refine sAn cdm10_51 rfl ?_
  refine sCall1 cdm10_52 rfl rfl rfl rfl rfl (fun Q₂ h₂ => ccK0_28 hE z h₂) ?_
  refine sPr (by decide) cdm10_55 rfl rfl (by decide +kernel) (by decide +kernel) (by decide +kernel) rfl ?_
  exact sRet cdm10_58 rfl hq
set_option maxRecDepth 100000 in
theorem ccK92_33 {D : Nat} {E : oEnv} {mi : mMi} {Q : mOut → mH → Prop} (hE : oOk E) (z : ccZr mi) (hq : Q (.inl none) (hc E 33 34 mi 2197)) : WP (D + 0) 92 0 (mEntry 92 [mR 2 4 0, mR 2 1 0]) [] (hc E 33 33 mi 2197) Q := by
  refine sAn cdm92_0 rfl ?_
  refine sObj cdm92_1 rfl rfl ?_
  refine sAn cdm92_4 rfl ?_
  refine sIc (x := N 0) cdm92_5 (by decide) ?_
  refine sPz (by decide) cdm92_6 rfl rfl (by decide +kernel) (by decide +kernel) (z _ _ _ _ (by omega) (by omega)) ?_
  refine sAn cdm92_9 rfl ?_
  refine sIc (x := N 0) cdm92_10 (by decide) ?_
  refine sPz (by decide) cdm92_11 rfl rfl (by decide +kernel) (by decide +kernel) (z _ _ _ _ (by omega) (by omega)) ?_
  refine sAn cdm92_14 rfl ?_
  refine sIc (x := N 0) cdm92_15 (by decide) ?_
  refine sPz (by decide) cdm92_16 rfl rfl (by decide +kernel) (by decide +kernel) (z _ _ _ _ (by omega) (by omega)) ?_
  refine sAn cdm92_19 rfl ?_
  refine sIc (x := N 0) cdm92_20 (by decide) ?_
  refine sPz (by decide) cdm92_21 rfl rfl (by decide +kernel) (by decide +kernel) (z _ _ _ _ (by omega) (by omega)) ?_
  refine sAn cdm92_24 rfl ?_
  refine sIc (x := N 0) cdm92_25 (by decide) ?_
  refine sPz (by decide) cdm92_26 rfl rfl (by decide +kernel) (by decide +kernel) (z _ _ _ _ (by omega) (by omega)) ?_
  refine sAn cdm92_29 rfl ?_
  refine sAn cdm92_30 rfl ?_
  refine sPr (by decide) cdm92_31 rfl rfl (by decide +kernel) (by decide +kernel) (by decide +kernel) rfl ?_
  exact sRet cdm92_34 rfl hq
set_option maxRecDepth 100000 in
theorem ccK66_12 {D : Nat} {E : oEnv} {mi : mMi} {Q : mOut → mH → Prop} (hE : oOk E) (z : ccZr mi) (hq : Q (.inl none) (hc E 33 35 (mset mi 2 3 0 4 (I (-1))) 2197)) : WP (D + 2) 66 0 (mEntry 66 [mR 2 3 0, mR 2 1 0, mR 2 2 0]) [] (hc E 12 10 mi 1245) Q := by
  refine sAn cdm66_0 rfl ?_
  refine sObj cdm66_1 rfl rfl ?_
  refine sAn cdm66_4 rfl ?_
  refine sNew (f := 1) (i := 1) (j := 0) hE cdm66_5 rfl rfl rfl (by decide +kernel) (by decide) rfl (by decide +kernel) (fun p _ => z _ _ _ p (by omega) (by omega)) ?_
  refine sDup cdm66_8 ?_
  refine sCall0 cdm66_9 rfl rfl rfl rfl rfl (fun Q₂ h₂ => ccK77_13 hE z h₂) ?_
  refine sPr (by decide) cdm66_12 rfl rfl (by decide +kernel) (by decide +kernel) (by decide +kernel) rfl ?_
  refine sAn cdm66_15 rfl ?_
  refine sIc (x := N 0) cdm66_16 (by decide) ?_
  refine sPz (by decide) cdm66_17 rfl rfl (by decide +kernel) (by decide +kernel) (z _ _ _ _ (by omega) (by omega)) ?_
  refine sAn cdm66_20 rfl ?_
  refine sIc (x := I (-1)) cdm66_21 (by decide) ?_
  refine sPn (by decide) cdm66_22 rfl rfl (by decide +kernel) (by decide +kernel) ?_
  have z := ccZr_n0 (v := I (-1)) z
  refine sAn cdm66_25 rfl ?_
  refine sIc (x := N 0) cdm66_26 (by decide) ?_
  refine sPz (by decide) cdm66_27 rfl rfl (by decide +kernel) (by decide +kernel) (z _ _ _ _ (by omega) (by omega)) ?_
  refine sAn cdm66_30 rfl ?_
  refine sIc (x := N 0) cdm66_31 (by decide) ?_
  refine sPz (by decide) cdm66_32 rfl rfl (by decide +kernel) (by decide +kernel) (z _ _ _ _ (by omega) (by omega)) ?_
  refine sAn cdm66_35 rfl ?_
  refine sNew (f := 0) (i := 2) (j := 0) hE cdm66_36 rfl rfl rfl (by decide +kernel) (by decide) rfl (by decide +kernel) (fun p _ => z _ _ _ p (by omega) (by omega)) ?_
  refine sDup cdm66_39 ?_
  refine sAn cdm66_40 rfl ?_
  refine sGf (f₂ := 1) (i₂ := 1) (j₂ := 0) (by decide) cdm66_41 rfl rfl (by decide +kernel) (by decide +kernel) rfl ?_
  refine sAn cdm66_44 rfl ?_
  refine sCall2 cdm66_45 rfl rfl rfl rfl rfl (fun Q₂ h₂ => ccK10_18 hE z h₂) ?_
  refine sPr (by decide) cdm66_48 rfl rfl (by decide +kernel) (by decide +kernel) (by decide +kernel) rfl ?_
  refine sAn cdm66_51 rfl ?_
  refine sNew (f := 2) (i := 4) (j := 0) hE cdm66_52 rfl rfl rfl (by decide +kernel) (by decide) rfl (by decide +kernel) (fun p _ => z _ _ _ p (by omega) (by omega)) ?_
  refine sDup cdm66_55 ?_
  refine sAn cdm66_56 rfl ?_
  refine sCall1 cdm66_57 rfl rfl rfl rfl rfl (fun Q₂ h₂ => ccK92_33 hE z h₂) ?_
  refine sPr (by decide) cdm66_60 rfl rfl (by decide +kernel) (by decide +kernel) (by decide +kernel) rfl ?_
  exact sRet cdm66_63 rfl hq
set_option maxRecDepth 100000 in
theorem ccK49_35 {D : Nat} {E : oEnv} {mi : mMi} {Q : mOut → mH → Prop} (hE : oOk E) (z : ccZr mi) (hq : Q (.inl none) (hc E 40 41 mi 2689)) : WP (D + 0) 49 0 (mEntry 49 [mR 0 0 1]) [] (hc E 35 36 mi 2209) Q := by
  refine sAn cdm49_0 rfl ?_
  refine sObj cdm49_1 rfl rfl ?_
  refine sAn cdm49_4 rfl ?_
  refine sBp (x := N 96) cdm49_5 (by decide) ?_
  refine sArr (f := 0) (i := 0) (j := 2) hE cdm49_7 (by decide +kernel) (by decide) rfl (by decide +kernel) (by omega) (fun p _ => z _ _ _ p (by omega) (by omega)) ?_
  refine sPr (by decide) cdm49_9 rfl rfl (by decide +kernel) (by decide +kernel) (by decide +kernel) rfl ?_
  refine sAn cdm49_12 rfl ?_
  refine sBp (x := N 96) cdm49_13 (by decide) ?_
  refine sArr (f := 0) (i := 0) (j := 3) hE cdm49_15 (by decide +kernel) (by decide) rfl (by decide +kernel) (by omega) (fun p _ => z _ _ _ p (by omega) (by omega)) ?_
  refine sPr (by decide) cdm49_17 rfl rfl (by decide +kernel) (by decide +kernel) (by decide +kernel) rfl ?_
  refine sAn cdm49_20 rfl ?_
  refine sBp (x := N 96) cdm49_21 (by decide) ?_
  refine sArr (f := 0) (i := 0) (j := 4) hE cdm49_23 (by decide +kernel) (by decide) rfl (by decide +kernel) (by omega) (fun p _ => z _ _ _ p (by omega) (by omega)) ?_
  refine sPr (by decide) cdm49_25 rfl rfl (by decide +kernel) (by decide +kernel) (by decide +kernel) rfl ?_
  refine sAn cdm49_28 rfl ?_
  refine sBp (x := N 96) cdm49_29 (by decide) ?_
  refine sArr (f := 0) (i := 0) (j := 5) hE cdm49_31 (by decide +kernel) (by decide) rfl (by decide +kernel) (by omega) (fun p _ => z _ _ _ p (by omega) (by omega)) ?_
  refine sPr (by decide) cdm49_33 rfl rfl (by decide +kernel) (by decide +kernel) (by decide +kernel) rfl ?_
  refine sAn cdm49_36 rfl ?_
  refine sBp (x := N 96) cdm49_37 (by decide) ?_
  refine sArr (f := 0) (i := 0) (j := 6) hE cdm49_39 (by decide +kernel) (by decide) rfl (by decide +kernel) (by omega) (fun p _ => z _ _ _ p (by omega) (by omega)) ?_
  refine sPr (by decide) cdm49_41 rfl rfl (by decide +kernel) (by decide +kernel) (by decide +kernel) rfl ?_
  exact sRet cdm49_44 rfl hq
set_option maxRecDepth 100000 in
theorem ccK42_41 {D : Nat} {E : oEnv} {mi : mMi} {Q : mOut → mH → Prop} (hE : oOk E) (z : ccZr mi) (hq : Q (.inl none) (hc E 43 44 mi 2846)) : WP (D + 0) 42 0 (mEntry 42 [mR 0 0 7]) [] (hc E 41 42 mi 2692) Q := by
  refine sAn cdm42_0 rfl ?_
  refine sObj cdm42_1 rfl rfl ?_
  refine sAn cdm42_4 rfl ?_
  refine sSp (x := N 150) cdm42_5 (by decide) ?_
  refine sArr (f := 0) (i := 0) (j := 8) hE cdm42_8 (by decide +kernel) (by decide) rfl (by decide +kernel) (by omega) (fun p _ => z _ _ _ p (by omega) (by omega)) ?_
  refine sPr (by decide) cdm42_10 rfl rfl (by decide +kernel) (by decide +kernel) (by decide +kernel) rfl ?_
  refine sAn cdm42_13 rfl ?_
  refine sIc (x := N 4) cdm42_14 (by decide) ?_
  refine sArr (f := 0) (i := 0) (j := 9) hE cdm42_15 (by decide +kernel) (by decide) rfl (by decide +kernel) (by omega) (fun p _ => z _ _ _ p (by omega) (by omega)) ?_
  refine sPr (by decide) cdm42_17 rfl rfl (by decide +kernel) (by decide +kernel) (by decide +kernel) rfl ?_
  refine sAn cdm42_20 rfl ?_
  refine sIc (x := N 0) cdm42_21 (by decide) ?_
  refine sPz (by decide) cdm42_22 rfl rfl (by decide +kernel) (by decide +kernel) (z _ _ _ _ (by omega) (by omega)) ?_
  exact sRet cdm42_25 rfl hq
set_option maxRecDepth 100000 in
theorem ccK0_44 {D : Nat} {E : oEnv} {mi : mMi} {Q : mOut → mH → Prop} (hE : oOk E) (z : ccZr mi) (hq : Q (.inl none) (hc E 48 52 mi 3012)) : WP (D + 0) 0 0 (mEntry 0 [mR 0 0 10, mR 1 0 0]) [] (hc E 44 47 mi 2852) Q := by
  refine sAn cdm0_0 rfl ?_
  refine sObj cdm0_1 rfl rfl ?_
  refine sAn cdm0_4 rfl ?_
  refine sBp (x := N 40) cdm0_5 (by decide) ?_
  refine sArr (f := 0) (i := 0) (j := 11) hE cdm0_7 (by decide +kernel) (by decide) rfl (by decide +kernel) (by omega) (fun p _ => z _ _ _ p (by omega) (by omega)) ?_
  refine sPr (by decide) cdm0_9 rfl rfl (by decide +kernel) (by decide +kernel) (by decide +kernel) rfl ?_
  refine sAn cdm0_12 rfl ?_
  refine sBp (x := N 40) cdm0_13 (by decide) ?_
  refine sArr (f := 0) (i := 0) (j := 12) hE cdm0_15 (by decide +kernel) (by decide) rfl (by decide +kernel) (by omega) (fun p _ => z _ _ _ p (by omega) (by omega)) ?_
  refine sPr (by decide) cdm0_17 rfl rfl (by decide +kernel) (by decide +kernel) (by decide +kernel) rfl ?_
  refine sAn cdm0_20 rfl ?_
  refine sBp (x := N 40) cdm0_21 (by decide) ?_
  refine sArr (f := 0) (i := 0) (j := 13) hE cdm0_23 (by decide +kernel) (by decide) rfl (by decide +kernel) (by omega) (fun p _ => z _ _ _ p (by omega) (by omega)) ?_
  refine sPr (by decide) cdm0_25 rfl rfl (by decide +kernel) (by decide +kernel) (by decide +kernel) rfl ?_
  refine sAn cdm0_28 rfl ?_
  refine sBp (x := N 40) cdm0_29 (by decide) ?_
  refine sArr (f := 0) (i := 0) (j := 14) hE cdm0_31 (by decide +kernel) (by decide) rfl (by decide +kernel) (by omega) (fun p _ => z _ _ _ p (by omega) (by omega)) ?_
  refine sPr (by decide) cdm0_33 rfl rfl (by decide +kernel) (by decide +kernel) (by decide +kernel) rfl ?_
  refine sAn cdm0_36 rfl ?_
  refine sIc (x := N 0) cdm0_37 (by decide) ?_
  refine sPz (by decide) cdm0_38 rfl rfl (by decide +kernel) (by decide +kernel) (z _ _ _ _ (by omega) (by omega)) ?_
  refine sAn cdm0_41 rfl ?_
  refine sAn cdm0_42 rfl ?_
  refine sPr (by decide) cdm0_43 rfl rfl (by decide +kernel) (by decide +kernel) (by decide +kernel) rfl ?_
  exact sRet cdm0_46 rfl hq
set_option maxRecDepth 100000 in
theorem ccK10_34 {D : Nat} {E : oEnv} {mi : mMi} {Q : mOut → mH → Prop} (hE : oOk E) (z : ccZr mi) (hq : Q (.inl none) (hc E 48 53 mi 3012)) : WP (D + 1) 10 0 (mEntry 10 [mR 0 0 0, mR 1 0 0, mR 2 2 0]) [] (hc E 34 36 mi 2204) Q := by
  refine sAn cdm10_0 rfl ?_
  refine sObj cdm10_1 rfl rfl ?_
  refine sAn cdm10_4 rfl ?_
  refine sNew (f := 0) (i := 0) (j := 1) hE cdm10_5 rfl rfl rfl (by decide +kernel) (by decide) rfl (by decide +kernel) (fun p _ => z _ _ _ p (by omega) (by omega)) ?_
  refine sDup cdm10_8 ?_
  refine sCall0 cdm10_9 rfl rfl rfl rfl rfl (fun Q₂ h₂ => ccK49_35 hE z h₂) ?_
  refine sPr (by decide) cdm10_12 rfl rfl (by decide +kernel) (by decide +kernel) (by decide +kernel) rfl ?_
  refine sAn cdm10_15 rfl ?_
  refine sNew (f := 0) (i := 0) (j := 7) hE cdm10_16 rfl rfl rfl (by decide +kernel) (by decide) rfl (by decide +kernel) (fun p _ => z _ _ _ p (by omega) (by omega)) ?_
  refine sDup cdm10_19 ?_
  refine sCall0 cdm10_20 rfl rfl rfl rfl rfl (fun Q₂ h₂ => ccK42_41 hE z h₂) ?_
  refine sPr (by decide) cdm10_23 rfl rfl (by decide +kernel) (by decide +kernel) (by decide +kernel) rfl ?_
  refine sAn cdm10_26 rfl ?_
  refine sIc (x := N 0) cdm10_27 (by decide) ?_
  refine sPz (by decide) cdm10_28 rfl rfl (by decide +kernel) (by decide +kernel) (z _ _ _ _ (by omega) (by omega)) ?_
  refine sAn cdm10_31 rfl ?_
  refine sIc (x := N 0) cdm10_32 (by decide) ?_
  refine sPz (by decide) cdm10_33 rfl rfl (by decide +kernel) (by decide +kernel) (z _ _ _ _ (by omega) (by omega)) ?_
  refine sAn cdm10_36 rfl ?_
  refine sAn cdm10_37 rfl ?_
  refine sPr (by decide) cdm10_38 rfl rfl (by decide +kernel) (by decide +kernel) (by decide +kernel) rfl ?_
  refine sAn cdm10_41 rfl ?_
  refine sAn cdm10_42 rfl ?_
  refine sPr (by decide) cdm10_43 rfl rfl (by decide +kernel) (by decide +kernel) (by decide +kernel) rfl ?_
  refine sAn cdm10_46 rfl ?_
  refine sNew (f := 0) (i := 0) (j := 10) hE cdm10_47 rfl rfl rfl (by decide +kernel) (by decide) rfl (by decide +kernel) (fun p _ => z _ _ _ p (by omega) (by omega)) ?_
  refine sDup cdm10_50 ?_
  refine sAn cdm10_51 rfl ?_
  refine sCall1 cdm10_52 rfl rfl rfl rfl rfl (fun Q₂ h₂ => ccK0_44 hE z h₂) ?_
  refine sPr (by decide) cdm10_55 rfl rfl (by decide +kernel) (by decide +kernel) (by decide +kernel) rfl ?_
  exact sRet cdm10_58 rfl hq
set_option maxRecDepth 100000 in
theorem ccK49_50 {D : Nat} {E : oEnv} {mi : mMi} {Q : mOut → mH → Prop} (hE : oOk E) (z : ccZr mi) (hq : Q (.inl none) (hc E 55 59 mi 3504)) : WP (D + 0) 49 0 (mEntry 49 [mR 0 1 1]) [] (hc E 50 54 mi 3024) Q := by
  refine sAn cdm49_0 rfl ?_
  refine sObj cdm49_1 rfl rfl ?_
  refine sAn cdm49_4 rfl ?_
  refine sBp (x := N 96) cdm49_5 (by decide) ?_
  refine sArr (f := 0) (i := 1) (j := 2) hE cdm49_7 (by decide +kernel) (by decide) rfl (by decide +kernel) (by omega) (fun p _ => z _ _ _ p (by omega) (by omega)) ?_
  refine sPr (by decide) cdm49_9 rfl rfl (by decide +kernel) (by decide +kernel) (by decide +kernel) rfl ?_
  refine sAn cdm49_12 rfl ?_
  refine sBp (x := N 96) cdm49_13 (by decide) ?_
  refine sArr (f := 0) (i := 1) (j := 3) hE cdm49_15 (by decide +kernel) (by decide) rfl (by decide +kernel) (by omega) (fun p _ => z _ _ _ p (by omega) (by omega)) ?_
  refine sPr (by decide) cdm49_17 rfl rfl (by decide +kernel) (by decide +kernel) (by decide +kernel) rfl ?_
  refine sAn cdm49_20 rfl ?_
  refine sBp (x := N 96) cdm49_21 (by decide) ?_
  refine sArr (f := 0) (i := 1) (j := 4) hE cdm49_23 (by decide +kernel) (by decide) rfl (by decide +kernel) (by omega) (fun p _ => z _ _ _ p (by omega) (by omega)) ?_
  refine sPr (by decide) cdm49_25 rfl rfl (by decide +kernel) (by decide +kernel) (by decide +kernel) rfl ?_
  refine sAn cdm49_28 rfl ?_
  refine sBp (x := N 96) cdm49_29 (by decide) ?_
  refine sArr (f := 0) (i := 1) (j := 5) hE cdm49_31 (by decide +kernel) (by decide) rfl (by decide +kernel) (by omega) (fun p _ => z _ _ _ p (by omega) (by omega)) ?_
  refine sPr (by decide) cdm49_33 rfl rfl (by decide +kernel) (by decide +kernel) (by decide +kernel) rfl ?_
  refine sAn cdm49_36 rfl ?_
  refine sBp (x := N 96) cdm49_37 (by decide) ?_
  refine sArr (f := 0) (i := 1) (j := 6) hE cdm49_39 (by decide +kernel) (by decide) rfl (by decide +kernel) (by omega) (fun p _ => z _ _ _ p (by omega) (by omega)) ?_
  refine sPr (by decide) cdm49_41 rfl rfl (by decide +kernel) (by decide +kernel) (by decide +kernel) rfl ?_
  exact sRet cdm49_44 rfl hq
set_option maxRecDepth 100000 in
theorem ccK42_56 {D : Nat} {E : oEnv} {mi : mMi} {Q : mOut → mH → Prop} (hE : oOk E) (z : ccZr mi) (hq : Q (.inl none) (hc E 58 62 mi 3661)) : WP (D + 0) 42 0 (mEntry 42 [mR 0 1 7]) [] (hc E 56 60 mi 3507) Q := by
  refine sAn cdm42_0 rfl ?_
  refine sObj cdm42_1 rfl rfl ?_
  refine sAn cdm42_4 rfl ?_
  refine sSp (x := N 150) cdm42_5 (by decide) ?_
  refine sArr (f := 0) (i := 1) (j := 8) hE cdm42_8 (by decide +kernel) (by decide) rfl (by decide +kernel) (by omega) (fun p _ => z _ _ _ p (by omega) (by omega)) ?_
  refine sPr (by decide) cdm42_10 rfl rfl (by decide +kernel) (by decide +kernel) (by decide +kernel) rfl ?_
  refine sAn cdm42_13 rfl ?_
  refine sIc (x := N 4) cdm42_14 (by decide) ?_
  refine sArr (f := 0) (i := 1) (j := 9) hE cdm42_15 (by decide +kernel) (by decide) rfl (by decide +kernel) (by omega) (fun p _ => z _ _ _ p (by omega) (by omega)) ?_
  refine sPr (by decide) cdm42_17 rfl rfl (by decide +kernel) (by decide +kernel) (by decide +kernel) rfl ?_
  refine sAn cdm42_20 rfl ?_
  refine sIc (x := N 0) cdm42_21 (by decide) ?_
  refine sPz (by decide) cdm42_22 rfl rfl (by decide +kernel) (by decide +kernel) (z _ _ _ _ (by omega) (by omega)) ?_
  exact sRet cdm42_25 rfl hq
set_option maxRecDepth 100000 in
theorem ccK0_59 {D : Nat} {E : oEnv} {mi : mMi} {Q : mOut → mH → Prop} (hE : oOk E) (z : ccZr mi) (hq : Q (.inl none) (hc E 63 70 mi 3827)) : WP (D + 0) 0 0 (mEntry 0 [mR 0 1 10, mR 1 0 0]) [] (hc E 59 65 mi 3667) Q := by
  refine sAn cdm0_0 rfl ?_
  refine sObj cdm0_1 rfl rfl ?_
  refine sAn cdm0_4 rfl ?_
  refine sBp (x := N 40) cdm0_5 (by decide) ?_
  refine sArr (f := 0) (i := 1) (j := 11) hE cdm0_7 (by decide +kernel) (by decide) rfl (by decide +kernel) (by omega) (fun p _ => z _ _ _ p (by omega) (by omega)) ?_
  refine sPr (by decide) cdm0_9 rfl rfl (by decide +kernel) (by decide +kernel) (by decide +kernel) rfl ?_
  refine sAn cdm0_12 rfl ?_
  refine sBp (x := N 40) cdm0_13 (by decide) ?_
  refine sArr (f := 0) (i := 1) (j := 12) hE cdm0_15 (by decide +kernel) (by decide) rfl (by decide +kernel) (by omega) (fun p _ => z _ _ _ p (by omega) (by omega)) ?_
  refine sPr (by decide) cdm0_17 rfl rfl (by decide +kernel) (by decide +kernel) (by decide +kernel) rfl ?_
  refine sAn cdm0_20 rfl ?_
  refine sBp (x := N 40) cdm0_21 (by decide) ?_
  refine sArr (f := 0) (i := 1) (j := 13) hE cdm0_23 (by decide +kernel) (by decide) rfl (by decide +kernel) (by omega) (fun p _ => z _ _ _ p (by omega) (by omega)) ?_
  refine sPr (by decide) cdm0_25 rfl rfl (by decide +kernel) (by decide +kernel) (by decide +kernel) rfl ?_
  refine sAn cdm0_28 rfl ?_
  refine sBp (x := N 40) cdm0_29 (by decide) ?_
  refine sArr (f := 0) (i := 1) (j := 14) hE cdm0_31 (by decide +kernel) (by decide) rfl (by decide +kernel) (by omega) (fun p _ => z _ _ _ p (by omega) (by omega)) ?_
  refine sPr (by decide) cdm0_33 rfl rfl (by decide +kernel) (by decide +kernel) (by decide +kernel) rfl ?_
  refine sAn cdm0_36 rfl ?_
  refine sIc (x := N 0) cdm0_37 (by decide) ?_
  refine sPz (by decide) cdm0_38 rfl rfl (by decide +kernel) (by decide +kernel) (z _ _ _ _ (by omega) (by omega)) ?_
  refine sAn cdm0_41 rfl ?_
  refine sAn cdm0_42 rfl ?_
  refine sPr (by decide) cdm0_43 rfl rfl (by decide +kernel) (by decide +kernel) (by decide +kernel) rfl ?_
  exact sRet cdm0_46 rfl hq
set_option maxRecDepth 100000 in
theorem ccK10_49 {D : Nat} {E : oEnv} {mi : mMi} {Q : mOut → mH → Prop} (hE : oOk E) (z : ccZr mi) (hq : Q (.inl none) (hc E 63 71 mi 3827)) : WP (D + 1) 10 0 (mEntry 10 [mR 0 1 0, mR 1 0 0, mR 2 2 0]) [] (hc E 49 54 mi 3019) Q := by
  refine sAn cdm10_0 rfl ?_
  refine sObj cdm10_1 rfl rfl ?_
  refine sAn cdm10_4 rfl ?_
  refine sNew (f := 0) (i := 1) (j := 1) hE cdm10_5 rfl rfl rfl (by decide +kernel) (by decide) rfl (by decide +kernel) (fun p _ => z _ _ _ p (by omega) (by omega)) ?_
  refine sDup cdm10_8 ?_
  refine sCall0 cdm10_9 rfl rfl rfl rfl rfl (fun Q₂ h₂ => ccK49_50 hE z h₂) ?_
  refine sPr (by decide) cdm10_12 rfl rfl (by decide +kernel) (by decide +kernel) (by decide +kernel) rfl ?_
  refine sAn cdm10_15 rfl ?_
  refine sNew (f := 0) (i := 1) (j := 7) hE cdm10_16 rfl rfl rfl (by decide +kernel) (by decide) rfl (by decide +kernel) (fun p _ => z _ _ _ p (by omega) (by omega)) ?_
  refine sDup cdm10_19 ?_
  refine sCall0 cdm10_20 rfl rfl rfl rfl rfl (fun Q₂ h₂ => ccK42_56 hE z h₂) ?_
  refine sPr (by decide) cdm10_23 rfl rfl (by decide +kernel) (by decide +kernel) (by decide +kernel) rfl ?_
  refine sAn cdm10_26 rfl ?_
  refine sIc (x := N 0) cdm10_27 (by decide) ?_
  refine sPz (by decide) cdm10_28 rfl rfl (by decide +kernel) (by decide +kernel) (z _ _ _ _ (by omega) (by omega)) ?_
  refine sAn cdm10_31 rfl ?_
  refine sIc (x := N 0) cdm10_32 (by decide) ?_
  refine sPz (by decide) cdm10_33 rfl rfl (by decide +kernel) (by decide +kernel) (z _ _ _ _ (by omega) (by omega)) ?_
  refine sAn cdm10_36 rfl ?_
  refine sAn cdm10_37 rfl ?_
  refine sPr (by decide) cdm10_38 rfl rfl (by decide +kernel) (by decide +kernel) (by decide +kernel) rfl ?_
  refine sAn cdm10_41 rfl ?_
  refine sAn cdm10_42 rfl ?_
  refine sPr (by decide) cdm10_43 rfl rfl (by decide +kernel) (by decide +kernel) (by decide +kernel) rfl ?_
  refine sAn cdm10_46 rfl ?_
  refine sNew (f := 0) (i := 1) (j := 10) hE cdm10_47 rfl rfl rfl (by decide +kernel) (by decide) rfl (by decide +kernel) (fun p _ => z _ _ _ p (by omega) (by omega)) ?_
  refine sDup cdm10_50 ?_
  refine sAn cdm10_51 rfl ?_
  refine sCall1 cdm10_52 rfl rfl rfl rfl rfl (fun Q₂ h₂ => ccK0_59 hE z h₂) ?_
  refine sPr (by decide) cdm10_55 rfl rfl (by decide +kernel) (by decide +kernel) (by decide +kernel) rfl ?_
  exact sRet cdm10_58 rfl hq
set_option maxRecDepth 100000 in
theorem ccK49_67 {D : Nat} {E : oEnv} {mi : mMi} {Q : mOut → mH → Prop} (hE : oOk E) (z : ccZr mi) (hq : Q (.inl none) (hc E 72 78 mi 4330)) : WP (D + 0) 49 0 (mEntry 49 [mR 0 3 1]) [] (hc E 67 73 mi 3850) Q := by
  refine sAn cdm49_0 rfl ?_
  refine sObj cdm49_1 rfl rfl ?_
  refine sAn cdm49_4 rfl ?_
  refine sBp (x := N 96) cdm49_5 (by decide) ?_
  refine sArr (f := 0) (i := 3) (j := 2) hE cdm49_7 (by decide +kernel) (by decide) rfl (by decide +kernel) (by omega) (fun p _ => z _ _ _ p (by omega) (by omega)) ?_
  refine sPr (by decide) cdm49_9 rfl rfl (by decide +kernel) (by decide +kernel) (by decide +kernel) rfl ?_
  refine sAn cdm49_12 rfl ?_
  refine sBp (x := N 96) cdm49_13 (by decide) ?_
  refine sArr (f := 0) (i := 3) (j := 3) hE cdm49_15 (by decide +kernel) (by decide) rfl (by decide +kernel) (by omega) (fun p _ => z _ _ _ p (by omega) (by omega)) ?_
  refine sPr (by decide) cdm49_17 rfl rfl (by decide +kernel) (by decide +kernel) (by decide +kernel) rfl ?_
  refine sAn cdm49_20 rfl ?_
  refine sBp (x := N 96) cdm49_21 (by decide) ?_
  refine sArr (f := 0) (i := 3) (j := 4) hE cdm49_23 (by decide +kernel) (by decide) rfl (by decide +kernel) (by omega) (fun p _ => z _ _ _ p (by omega) (by omega)) ?_
  refine sPr (by decide) cdm49_25 rfl rfl (by decide +kernel) (by decide +kernel) (by decide +kernel) rfl ?_
  refine sAn cdm49_28 rfl ?_
  refine sBp (x := N 96) cdm49_29 (by decide) ?_
  refine sArr (f := 0) (i := 3) (j := 5) hE cdm49_31 (by decide +kernel) (by decide) rfl (by decide +kernel) (by omega) (fun p _ => z _ _ _ p (by omega) (by omega)) ?_
  refine sPr (by decide) cdm49_33 rfl rfl (by decide +kernel) (by decide +kernel) (by decide +kernel) rfl ?_
  refine sAn cdm49_36 rfl ?_
  refine sBp (x := N 96) cdm49_37 (by decide) ?_
  refine sArr (f := 0) (i := 3) (j := 6) hE cdm49_39 (by decide +kernel) (by decide) rfl (by decide +kernel) (by omega) (fun p _ => z _ _ _ p (by omega) (by omega)) ?_
  refine sPr (by decide) cdm49_41 rfl rfl (by decide +kernel) (by decide +kernel) (by decide +kernel) rfl ?_
  exact sRet cdm49_44 rfl hq
set_option maxRecDepth 100000 in
theorem ccK42_73 {D : Nat} {E : oEnv} {mi : mMi} {Q : mOut → mH → Prop} (hE : oOk E) (z : ccZr mi) (hq : Q (.inl none) (hc E 75 81 mi 4487)) : WP (D + 0) 42 0 (mEntry 42 [mR 0 3 7]) [] (hc E 73 79 mi 4333) Q := by
  refine sAn cdm42_0 rfl ?_
  refine sObj cdm42_1 rfl rfl ?_
  refine sAn cdm42_4 rfl ?_
  refine sSp (x := N 150) cdm42_5 (by decide) ?_
  refine sArr (f := 0) (i := 3) (j := 8) hE cdm42_8 (by decide +kernel) (by decide) rfl (by decide +kernel) (by omega) (fun p _ => z _ _ _ p (by omega) (by omega)) ?_
  refine sPr (by decide) cdm42_10 rfl rfl (by decide +kernel) (by decide +kernel) (by decide +kernel) rfl ?_
  refine sAn cdm42_13 rfl ?_
  refine sIc (x := N 4) cdm42_14 (by decide) ?_
  refine sArr (f := 0) (i := 3) (j := 9) hE cdm42_15 (by decide +kernel) (by decide) rfl (by decide +kernel) (by omega) (fun p _ => z _ _ _ p (by omega) (by omega)) ?_
  refine sPr (by decide) cdm42_17 rfl rfl (by decide +kernel) (by decide +kernel) (by decide +kernel) rfl ?_
  refine sAn cdm42_20 rfl ?_
  refine sIc (x := N 0) cdm42_21 (by decide) ?_
  refine sPz (by decide) cdm42_22 rfl rfl (by decide +kernel) (by decide +kernel) (z _ _ _ _ (by omega) (by omega)) ?_
  exact sRet cdm42_25 rfl hq
set_option maxRecDepth 100000 in
theorem ccK0_76 {D : Nat} {E : oEnv} {mi : mMi} {Q : mOut → mH → Prop} (hE : oOk E) (z : ccZr mi) (hq : Q (.inl none) (hc E 80 89 mi 4653)) : WP (D + 0) 0 0 (mEntry 0 [mR 0 3 10, mR 1 0 0]) [] (hc E 76 84 mi 4493) Q := by
  refine sAn cdm0_0 rfl ?_
  refine sObj cdm0_1 rfl rfl ?_
  refine sAn cdm0_4 rfl ?_
  refine sBp (x := N 40) cdm0_5 (by decide) ?_
  refine sArr (f := 0) (i := 3) (j := 11) hE cdm0_7 (by decide +kernel) (by decide) rfl (by decide +kernel) (by omega) (fun p _ => z _ _ _ p (by omega) (by omega)) ?_
  refine sPr (by decide) cdm0_9 rfl rfl (by decide +kernel) (by decide +kernel) (by decide +kernel) rfl ?_
  refine sAn cdm0_12 rfl ?_
  refine sBp (x := N 40) cdm0_13 (by decide) ?_
  refine sArr (f := 0) (i := 3) (j := 12) hE cdm0_15 (by decide +kernel) (by decide) rfl (by decide +kernel) (by omega) (fun p _ => z _ _ _ p (by omega) (by omega)) ?_
  refine sPr (by decide) cdm0_17 rfl rfl (by decide +kernel) (by decide +kernel) (by decide +kernel) rfl ?_
  refine sAn cdm0_20 rfl ?_
  refine sBp (x := N 40) cdm0_21 (by decide) ?_
  refine sArr (f := 0) (i := 3) (j := 13) hE cdm0_23 (by decide +kernel) (by decide) rfl (by decide +kernel) (by omega) (fun p _ => z _ _ _ p (by omega) (by omega)) ?_
  refine sPr (by decide) cdm0_25 rfl rfl (by decide +kernel) (by decide +kernel) (by decide +kernel) rfl ?_
  refine sAn cdm0_28 rfl ?_
  refine sBp (x := N 40) cdm0_29 (by decide) ?_
  refine sArr (f := 0) (i := 3) (j := 14) hE cdm0_31 (by decide +kernel) (by decide) rfl (by decide +kernel) (by omega) (fun p _ => z _ _ _ p (by omega) (by omega)) ?_
  refine sPr (by decide) cdm0_33 rfl rfl (by decide +kernel) (by decide +kernel) (by decide +kernel) rfl ?_
  refine sAn cdm0_36 rfl ?_
  refine sIc (x := N 0) cdm0_37 (by decide) ?_
  refine sPz (by decide) cdm0_38 rfl rfl (by decide +kernel) (by decide +kernel) (z _ _ _ _ (by omega) (by omega)) ?_
  refine sAn cdm0_41 rfl ?_
  refine sAn cdm0_42 rfl ?_
  refine sPr (by decide) cdm0_43 rfl rfl (by decide +kernel) (by decide +kernel) (by decide +kernel) rfl ?_
  exact sRet cdm0_46 rfl hq
set_option maxRecDepth 100000 in
theorem ccK10_66 {D : Nat} {E : oEnv} {mi : mMi} {Q : mOut → mH → Prop} (hE : oOk E) (z : ccZr mi) (hq : Q (.inl none) (hc E 80 90 mi 4653)) : WP (D + 1) 10 0 (mEntry 10 [mR 0 3 0, mR 1 0 0, mR 2 2 0]) [] (hc E 66 73 mi 3845) Q := by
  refine sAn cdm10_0 rfl ?_
  refine sObj cdm10_1 rfl rfl ?_
  refine sAn cdm10_4 rfl ?_
  refine sNew (f := 0) (i := 3) (j := 1) hE cdm10_5 rfl rfl rfl (by decide +kernel) (by decide) rfl (by decide +kernel) (fun p _ => z _ _ _ p (by omega) (by omega)) ?_
  refine sDup cdm10_8 ?_
  refine sCall0 cdm10_9 rfl rfl rfl rfl rfl (fun Q₂ h₂ => ccK49_67 hE z h₂) ?_
  refine sPr (by decide) cdm10_12 rfl rfl (by decide +kernel) (by decide +kernel) (by decide +kernel) rfl ?_
  refine sAn cdm10_15 rfl ?_
  refine sNew (f := 0) (i := 3) (j := 7) hE cdm10_16 rfl rfl rfl (by decide +kernel) (by decide) rfl (by decide +kernel) (fun p _ => z _ _ _ p (by omega) (by omega)) ?_
  refine sDup cdm10_19 ?_
  refine sCall0 cdm10_20 rfl rfl rfl rfl rfl (fun Q₂ h₂ => ccK42_73 hE z h₂) ?_
  refine sPr (by decide) cdm10_23 rfl rfl (by decide +kernel) (by decide +kernel) (by decide +kernel) rfl ?_
  refine sAn cdm10_26 rfl ?_
  refine sIc (x := N 0) cdm10_27 (by decide) ?_
  refine sPz (by decide) cdm10_28 rfl rfl (by decide +kernel) (by decide +kernel) (z _ _ _ _ (by omega) (by omega)) ?_
  refine sAn cdm10_31 rfl ?_
  refine sIc (x := N 0) cdm10_32 (by decide) ?_
  refine sPz (by decide) cdm10_33 rfl rfl (by decide +kernel) (by decide +kernel) (z _ _ _ _ (by omega) (by omega)) ?_
  refine sAn cdm10_36 rfl ?_
  refine sAn cdm10_37 rfl ?_
  refine sPr (by decide) cdm10_38 rfl rfl (by decide +kernel) (by decide +kernel) (by decide +kernel) rfl ?_
  refine sAn cdm10_41 rfl ?_
  refine sAn cdm10_42 rfl ?_
  refine sPr (by decide) cdm10_43 rfl rfl (by decide +kernel) (by decide +kernel) (by decide +kernel) rfl ?_
  refine sAn cdm10_46 rfl ?_
  refine sNew (f := 0) (i := 3) (j := 10) hE cdm10_47 rfl rfl rfl (by decide +kernel) (by decide) rfl (by decide +kernel) (fun p _ => z _ _ _ p (by omega) (by omega)) ?_
  refine sDup cdm10_50 ?_
  refine sAn cdm10_51 rfl ?_
  refine sCall1 cdm10_52 rfl rfl rfl rfl rfl (fun Q₂ h₂ => ccK0_76 hE z h₂) ?_
  refine sPr (by decide) cdm10_55 rfl rfl (by decide +kernel) (by decide +kernel) (by decide +kernel) rfl ?_
  exact sRet cdm10_58 rfl hq
set_option maxRecDepth 100000 in
theorem ccK49_82 {D : Nat} {E : oEnv} {mi : mMi} {Q : mOut → mH → Prop} (hE : oOk E) (z : ccZr mi) (hq : Q (.inl none) (hc E 87 96 mi 5145)) : WP (D + 0) 49 0 (mEntry 49 [mR 0 4 1]) [] (hc E 82 91 mi 4665) Q := by
  refine sAn cdm49_0 rfl ?_
  refine sObj cdm49_1 rfl rfl ?_
  refine sAn cdm49_4 rfl ?_
  refine sBp (x := N 96) cdm49_5 (by decide) ?_
  refine sArr (f := 0) (i := 4) (j := 2) hE cdm49_7 (by decide +kernel) (by decide) rfl (by decide +kernel) (by omega) (fun p _ => z _ _ _ p (by omega) (by omega)) ?_
  refine sPr (by decide) cdm49_9 rfl rfl (by decide +kernel) (by decide +kernel) (by decide +kernel) rfl ?_
  refine sAn cdm49_12 rfl ?_
  refine sBp (x := N 96) cdm49_13 (by decide) ?_
  refine sArr (f := 0) (i := 4) (j := 3) hE cdm49_15 (by decide +kernel) (by decide) rfl (by decide +kernel) (by omega) (fun p _ => z _ _ _ p (by omega) (by omega)) ?_
  refine sPr (by decide) cdm49_17 rfl rfl (by decide +kernel) (by decide +kernel) (by decide +kernel) rfl ?_
  refine sAn cdm49_20 rfl ?_
  refine sBp (x := N 96) cdm49_21 (by decide) ?_
  refine sArr (f := 0) (i := 4) (j := 4) hE cdm49_23 (by decide +kernel) (by decide) rfl (by decide +kernel) (by omega) (fun p _ => z _ _ _ p (by omega) (by omega)) ?_
  refine sPr (by decide) cdm49_25 rfl rfl (by decide +kernel) (by decide +kernel) (by decide +kernel) rfl ?_
  refine sAn cdm49_28 rfl ?_
  refine sBp (x := N 96) cdm49_29 (by decide) ?_
  refine sArr (f := 0) (i := 4) (j := 5) hE cdm49_31 (by decide +kernel) (by decide) rfl (by decide +kernel) (by omega) (fun p _ => z _ _ _ p (by omega) (by omega)) ?_
  refine sPr (by decide) cdm49_33 rfl rfl (by decide +kernel) (by decide +kernel) (by decide +kernel) rfl ?_
  refine sAn cdm49_36 rfl ?_
  refine sBp (x := N 96) cdm49_37 (by decide) ?_
  refine sArr (f := 0) (i := 4) (j := 6) hE cdm49_39 (by decide +kernel) (by decide) rfl (by decide +kernel) (by omega) (fun p _ => z _ _ _ p (by omega) (by omega)) ?_
  refine sPr (by decide) cdm49_41 rfl rfl (by decide +kernel) (by decide +kernel) (by decide +kernel) rfl ?_
  exact sRet cdm49_44 rfl hq
set_option maxRecDepth 100000 in
theorem ccK42_88 {D : Nat} {E : oEnv} {mi : mMi} {Q : mOut → mH → Prop} (hE : oOk E) (z : ccZr mi) (hq : Q (.inl none) (hc E 90 99 mi 5302)) : WP (D + 0) 42 0 (mEntry 42 [mR 0 4 7]) [] (hc E 88 97 mi 5148) Q := by
  refine sAn cdm42_0 rfl ?_
  refine sObj cdm42_1 rfl rfl ?_
  refine sAn cdm42_4 rfl ?_
  refine sSp (x := N 150) cdm42_5 (by decide) ?_
  refine sArr (f := 0) (i := 4) (j := 8) hE cdm42_8 (by decide +kernel) (by decide) rfl (by decide +kernel) (by omega) (fun p _ => z _ _ _ p (by omega) (by omega)) ?_
  refine sPr (by decide) cdm42_10 rfl rfl (by decide +kernel) (by decide +kernel) (by decide +kernel) rfl ?_
  refine sAn cdm42_13 rfl ?_
  refine sIc (x := N 4) cdm42_14 (by decide) ?_
  refine sArr (f := 0) (i := 4) (j := 9) hE cdm42_15 (by decide +kernel) (by decide) rfl (by decide +kernel) (by omega) (fun p _ => z _ _ _ p (by omega) (by omega)) ?_
  refine sPr (by decide) cdm42_17 rfl rfl (by decide +kernel) (by decide +kernel) (by decide +kernel) rfl ?_
  refine sAn cdm42_20 rfl ?_
  refine sIc (x := N 0) cdm42_21 (by decide) ?_
  refine sPz (by decide) cdm42_22 rfl rfl (by decide +kernel) (by decide +kernel) (z _ _ _ _ (by omega) (by omega)) ?_
  exact sRet cdm42_25 rfl hq
set_option maxRecDepth 100000 in
theorem ccK0_91 {D : Nat} {E : oEnv} {mi : mMi} {Q : mOut → mH → Prop} (hE : oOk E) (z : ccZr mi) (hq : Q (.inl none) (hc E 95 107 mi 5468)) : WP (D + 0) 0 0 (mEntry 0 [mR 0 4 10, mR 1 0 0]) [] (hc E 91 102 mi 5308) Q := by
  refine sAn cdm0_0 rfl ?_
  refine sObj cdm0_1 rfl rfl ?_
  refine sAn cdm0_4 rfl ?_
  refine sBp (x := N 40) cdm0_5 (by decide) ?_
  refine sArr (f := 0) (i := 4) (j := 11) hE cdm0_7 (by decide +kernel) (by decide) rfl (by decide +kernel) (by omega) (fun p _ => z _ _ _ p (by omega) (by omega)) ?_
  refine sPr (by decide) cdm0_9 rfl rfl (by decide +kernel) (by decide +kernel) (by decide +kernel) rfl ?_
  refine sAn cdm0_12 rfl ?_
  refine sBp (x := N 40) cdm0_13 (by decide) ?_
  refine sArr (f := 0) (i := 4) (j := 12) hE cdm0_15 (by decide +kernel) (by decide) rfl (by decide +kernel) (by omega) (fun p _ => z _ _ _ p (by omega) (by omega)) ?_
  refine sPr (by decide) cdm0_17 rfl rfl (by decide +kernel) (by decide +kernel) (by decide +kernel) rfl ?_
  refine sAn cdm0_20 rfl ?_
  refine sBp (x := N 40) cdm0_21 (by decide) ?_
  refine sArr (f := 0) (i := 4) (j := 13) hE cdm0_23 (by decide +kernel) (by decide) rfl (by decide +kernel) (by omega) (fun p _ => z _ _ _ p (by omega) (by omega)) ?_
  refine sPr (by decide) cdm0_25 rfl rfl (by decide +kernel) (by decide +kernel) (by decide +kernel) rfl ?_
  refine sAn cdm0_28 rfl ?_
  refine sBp (x := N 40) cdm0_29 (by decide) ?_
  refine sArr (f := 0) (i := 4) (j := 14) hE cdm0_31 (by decide +kernel) (by decide) rfl (by decide +kernel) (by omega) (fun p _ => z _ _ _ p (by omega) (by omega)) ?_
  refine sPr (by decide) cdm0_33 rfl rfl (by decide +kernel) (by decide +kernel) (by decide +kernel) rfl ?_
  refine sAn cdm0_36 rfl ?_
  refine sIc (x := N 0) cdm0_37 (by decide) ?_
  refine sPz (by decide) cdm0_38 rfl rfl (by decide +kernel) (by decide +kernel) (z _ _ _ _ (by omega) (by omega)) ?_
  refine sAn cdm0_41 rfl ?_
  refine sAn cdm0_42 rfl ?_
  refine sPr (by decide) cdm0_43 rfl rfl (by decide +kernel) (by decide +kernel) (by decide +kernel) rfl ?_
  exact sRet cdm0_46 rfl hq
set_option maxRecDepth 100000 in
theorem ccK10_81 {D : Nat} {E : oEnv} {mi : mMi} {Q : mOut → mH → Prop} (hE : oOk E) (z : ccZr mi) (hq : Q (.inl none) (hc E 95 108 mi 5468)) : WP (D + 1) 10 0 (mEntry 10 [mR 0 4 0, mR 1 0 0, mR 2 2 0]) [] (hc E 81 91 mi 4660) Q := by
  refine sAn cdm10_0 rfl ?_
  refine sObj cdm10_1 rfl rfl ?_
  refine sAn cdm10_4 rfl ?_
  refine sNew (f := 0) (i := 4) (j := 1) hE cdm10_5 rfl rfl rfl (by decide +kernel) (by decide) rfl (by decide +kernel) (fun p _ => z _ _ _ p (by omega) (by omega)) ?_
  refine sDup cdm10_8 ?_
  refine sCall0 cdm10_9 rfl rfl rfl rfl rfl (fun Q₂ h₂ => ccK49_82 hE z h₂) ?_
  refine sPr (by decide) cdm10_12 rfl rfl (by decide +kernel) (by decide +kernel) (by decide +kernel) rfl ?_
  refine sAn cdm10_15 rfl ?_
  refine sNew (f := 0) (i := 4) (j := 7) hE cdm10_16 rfl rfl rfl (by decide +kernel) (by decide) rfl (by decide +kernel) (fun p _ => z _ _ _ p (by omega) (by omega)) ?_
  refine sDup cdm10_19 ?_
  refine sCall0 cdm10_20 rfl rfl rfl rfl rfl (fun Q₂ h₂ => ccK42_88 hE z h₂) ?_
  refine sPr (by decide) cdm10_23 rfl rfl (by decide +kernel) (by decide +kernel) (by decide +kernel) rfl ?_
  refine sAn cdm10_26 rfl ?_
  refine sIc (x := N 0) cdm10_27 (by decide) ?_
  refine sPz (by decide) cdm10_28 rfl rfl (by decide +kernel) (by decide +kernel) (z _ _ _ _ (by omega) (by omega)) ?_
  refine sAn cdm10_31 rfl ?_
  refine sIc (x := N 0) cdm10_32 (by decide) ?_
  refine sPz (by decide) cdm10_33 rfl rfl (by decide +kernel) (by decide +kernel) (z _ _ _ _ (by omega) (by omega)) ?_
  refine sAn cdm10_36 rfl ?_
  refine sAn cdm10_37 rfl ?_
  refine sPr (by decide) cdm10_38 rfl rfl (by decide +kernel) (by decide +kernel) (by decide +kernel) rfl ?_
  refine sAn cdm10_41 rfl ?_
  refine sAn cdm10_42 rfl ?_
  refine sPr (by decide) cdm10_43 rfl rfl (by decide +kernel) (by decide +kernel) (by decide +kernel) rfl ?_
  refine sAn cdm10_46 rfl ?_
  refine sNew (f := 0) (i := 4) (j := 10) hE cdm10_47 rfl rfl rfl (by decide +kernel) (by decide) rfl (by decide +kernel) (fun p _ => z _ _ _ p (by omega) (by omega)) ?_
  refine sDup cdm10_50 ?_
  refine sAn cdm10_51 rfl ?_
  refine sCall1 cdm10_52 rfl rfl rfl rfl rfl (fun Q₂ h₂ => ccK0_91 hE z h₂) ?_
  refine sPr (by decide) cdm10_55 rfl rfl (by decide +kernel) (by decide +kernel) (by decide +kernel) rfl ?_
  exact sRet cdm10_58 rfl hq
set_option maxRecDepth 100000 in
theorem ccK49_97 {D : Nat} {E : oEnv} {mi : mMi} {Q : mOut → mH → Prop} (hE : oOk E) (z : ccZr mi) (hq : Q (.inl none) (hc E 102 114 mi 5960)) : WP (D + 0) 49 0 (mEntry 49 [mR 0 5 1]) [] (hc E 97 109 mi 5480) Q := by
  refine sAn cdm49_0 rfl ?_
  refine sObj cdm49_1 rfl rfl ?_
  refine sAn cdm49_4 rfl ?_
  refine sBp (x := N 96) cdm49_5 (by decide) ?_
  refine sArr (f := 0) (i := 5) (j := 2) hE cdm49_7 (by decide +kernel) (by decide) rfl (by decide +kernel) (by omega) (fun p _ => z _ _ _ p (by omega) (by omega)) ?_
  refine sPr (by decide) cdm49_9 rfl rfl (by decide +kernel) (by decide +kernel) (by decide +kernel) rfl ?_
  refine sAn cdm49_12 rfl ?_
  refine sBp (x := N 96) cdm49_13 (by decide) ?_
  refine sArr (f := 0) (i := 5) (j := 3) hE cdm49_15 (by decide +kernel) (by decide) rfl (by decide +kernel) (by omega) (fun p _ => z _ _ _ p (by omega) (by omega)) ?_
  refine sPr (by decide) cdm49_17 rfl rfl (by decide +kernel) (by decide +kernel) (by decide +kernel) rfl ?_
  refine sAn cdm49_20 rfl ?_
  refine sBp (x := N 96) cdm49_21 (by decide) ?_
  refine sArr (f := 0) (i := 5) (j := 4) hE cdm49_23 (by decide +kernel) (by decide) rfl (by decide +kernel) (by omega) (fun p _ => z _ _ _ p (by omega) (by omega)) ?_
  refine sPr (by decide) cdm49_25 rfl rfl (by decide +kernel) (by decide +kernel) (by decide +kernel) rfl ?_
  refine sAn cdm49_28 rfl ?_
  refine sBp (x := N 96) cdm49_29 (by decide) ?_
  refine sArr (f := 0) (i := 5) (j := 5) hE cdm49_31 (by decide +kernel) (by decide) rfl (by decide +kernel) (by omega) (fun p _ => z _ _ _ p (by omega) (by omega)) ?_
  refine sPr (by decide) cdm49_33 rfl rfl (by decide +kernel) (by decide +kernel) (by decide +kernel) rfl ?_
  refine sAn cdm49_36 rfl ?_
  refine sBp (x := N 96) cdm49_37 (by decide) ?_
  refine sArr (f := 0) (i := 5) (j := 6) hE cdm49_39 (by decide +kernel) (by decide) rfl (by decide +kernel) (by omega) (fun p _ => z _ _ _ p (by omega) (by omega)) ?_
  refine sPr (by decide) cdm49_41 rfl rfl (by decide +kernel) (by decide +kernel) (by decide +kernel) rfl ?_
  exact sRet cdm49_44 rfl hq
set_option maxRecDepth 100000 in
theorem ccK42_103 {D : Nat} {E : oEnv} {mi : mMi} {Q : mOut → mH → Prop} (hE : oOk E) (z : ccZr mi) (hq : Q (.inl none) (hc E 105 117 mi 6117)) : WP (D + 0) 42 0 (mEntry 42 [mR 0 5 7]) [] (hc E 103 115 mi 5963) Q := by
  refine sAn cdm42_0 rfl ?_
  refine sObj cdm42_1 rfl rfl ?_
  refine sAn cdm42_4 rfl ?_
  refine sSp (x := N 150) cdm42_5 (by decide) ?_
  refine sArr (f := 0) (i := 5) (j := 8) hE cdm42_8 (by decide +kernel) (by decide) rfl (by decide +kernel) (by omega) (fun p _ => z _ _ _ p (by omega) (by omega)) ?_
  refine sPr (by decide) cdm42_10 rfl rfl (by decide +kernel) (by decide +kernel) (by decide +kernel) rfl ?_
  refine sAn cdm42_13 rfl ?_
  refine sIc (x := N 4) cdm42_14 (by decide) ?_
  refine sArr (f := 0) (i := 5) (j := 9) hE cdm42_15 (by decide +kernel) (by decide) rfl (by decide +kernel) (by omega) (fun p _ => z _ _ _ p (by omega) (by omega)) ?_
  refine sPr (by decide) cdm42_17 rfl rfl (by decide +kernel) (by decide +kernel) (by decide +kernel) rfl ?_
  refine sAn cdm42_20 rfl ?_
  refine sIc (x := N 0) cdm42_21 (by decide) ?_
  refine sPz (by decide) cdm42_22 rfl rfl (by decide +kernel) (by decide +kernel) (z _ _ _ _ (by omega) (by omega)) ?_
  exact sRet cdm42_25 rfl hq
set_option maxRecDepth 100000 in
theorem ccK0_106 {D : Nat} {E : oEnv} {mi : mMi} {Q : mOut → mH → Prop} (hE : oOk E) (z : ccZr mi) (hq : Q (.inl none) (hc E 110 125 mi 6283)) : WP (D + 0) 0 0 (mEntry 0 [mR 0 5 10, mR 1 0 0]) [] (hc E 106 120 mi 6123) Q := by
  refine sAn cdm0_0 rfl ?_
  refine sObj cdm0_1 rfl rfl ?_
  refine sAn cdm0_4 rfl ?_
  refine sBp (x := N 40) cdm0_5 (by decide) ?_
  refine sArr (f := 0) (i := 5) (j := 11) hE cdm0_7 (by decide +kernel) (by decide) rfl (by decide +kernel) (by omega) (fun p _ => z _ _ _ p (by omega) (by omega)) ?_
  refine sPr (by decide) cdm0_9 rfl rfl (by decide +kernel) (by decide +kernel) (by decide +kernel) rfl ?_
  refine sAn cdm0_12 rfl ?_
  refine sBp (x := N 40) cdm0_13 (by decide) ?_
  refine sArr (f := 0) (i := 5) (j := 12) hE cdm0_15 (by decide +kernel) (by decide) rfl (by decide +kernel) (by omega) (fun p _ => z _ _ _ p (by omega) (by omega)) ?_
  refine sPr (by decide) cdm0_17 rfl rfl (by decide +kernel) (by decide +kernel) (by decide +kernel) rfl ?_
  refine sAn cdm0_20 rfl ?_
  refine sBp (x := N 40) cdm0_21 (by decide) ?_
  refine sArr (f := 0) (i := 5) (j := 13) hE cdm0_23 (by decide +kernel) (by decide) rfl (by decide +kernel) (by omega) (fun p _ => z _ _ _ p (by omega) (by omega)) ?_
  refine sPr (by decide) cdm0_25 rfl rfl (by decide +kernel) (by decide +kernel) (by decide +kernel) rfl ?_
  refine sAn cdm0_28 rfl ?_
  refine sBp (x := N 40) cdm0_29 (by decide) ?_
  refine sArr (f := 0) (i := 5) (j := 14) hE cdm0_31 (by decide +kernel) (by decide) rfl (by decide +kernel) (by omega) (fun p _ => z _ _ _ p (by omega) (by omega)) ?_
  refine sPr (by decide) cdm0_33 rfl rfl (by decide +kernel) (by decide +kernel) (by decide +kernel) rfl ?_
  refine sAn cdm0_36 rfl ?_
  refine sIc (x := N 0) cdm0_37 (by decide) ?_
  refine sPz (by decide) cdm0_38 rfl rfl (by decide +kernel) (by decide +kernel) (z _ _ _ _ (by omega) (by omega)) ?_
  refine sAn cdm0_41 rfl ?_
  refine sAn cdm0_42 rfl ?_
  refine sPr (by decide) cdm0_43 rfl rfl (by decide +kernel) (by decide +kernel) (by decide +kernel) rfl ?_
  exact sRet cdm0_46 rfl hq
set_option maxRecDepth 100000 in
theorem ccK10_96 {D : Nat} {E : oEnv} {mi : mMi} {Q : mOut → mH → Prop} (hE : oOk E) (z : ccZr mi) (hq : Q (.inl none) (hc E 110 126 mi 6283)) : WP (D + 1) 10 0 (mEntry 10 [mR 0 5 0, mR 1 0 0, mR 2 2 0]) [] (hc E 96 109 mi 5475) Q := by
  refine sAn cdm10_0 rfl ?_
  refine sObj cdm10_1 rfl rfl ?_
  refine sAn cdm10_4 rfl ?_
  refine sNew (f := 0) (i := 5) (j := 1) hE cdm10_5 rfl rfl rfl (by decide +kernel) (by decide) rfl (by decide +kernel) (fun p _ => z _ _ _ p (by omega) (by omega)) ?_
  refine sDup cdm10_8 ?_
  refine sCall0 cdm10_9 rfl rfl rfl rfl rfl (fun Q₂ h₂ => ccK49_97 hE z h₂) ?_
  refine sPr (by decide) cdm10_12 rfl rfl (by decide +kernel) (by decide +kernel) (by decide +kernel) rfl ?_
  refine sAn cdm10_15 rfl ?_
  refine sNew (f := 0) (i := 5) (j := 7) hE cdm10_16 rfl rfl rfl (by decide +kernel) (by decide) rfl (by decide +kernel) (fun p _ => z _ _ _ p (by omega) (by omega)) ?_
  refine sDup cdm10_19 ?_
  refine sCall0 cdm10_20 rfl rfl rfl rfl rfl (fun Q₂ h₂ => ccK42_103 hE z h₂) ?_
  refine sPr (by decide) cdm10_23 rfl rfl (by decide +kernel) (by decide +kernel) (by decide +kernel) rfl ?_
  refine sAn cdm10_26 rfl ?_
  refine sIc (x := N 0) cdm10_27 (by decide) ?_
  refine sPz (by decide) cdm10_28 rfl rfl (by decide +kernel) (by decide +kernel) (z _ _ _ _ (by omega) (by omega)) ?_
  refine sAn cdm10_31 rfl ?_
  refine sIc (x := N 0) cdm10_32 (by decide) ?_
  refine sPz (by decide) cdm10_33 rfl rfl (by decide +kernel) (by decide +kernel) (z _ _ _ _ (by omega) (by omega)) ?_
  refine sAn cdm10_36 rfl ?_
  refine sAn cdm10_37 rfl ?_
  refine sPr (by decide) cdm10_38 rfl rfl (by decide +kernel) (by decide +kernel) (by decide +kernel) rfl ?_
  refine sAn cdm10_41 rfl ?_
  refine sAn cdm10_42 rfl ?_
  refine sPr (by decide) cdm10_43 rfl rfl (by decide +kernel) (by decide +kernel) (by decide +kernel) rfl ?_
  refine sAn cdm10_46 rfl ?_
  refine sNew (f := 0) (i := 5) (j := 10) hE cdm10_47 rfl rfl rfl (by decide +kernel) (by decide) rfl (by decide +kernel) (fun p _ => z _ _ _ p (by omega) (by omega)) ?_
  refine sDup cdm10_50 ?_
  refine sAn cdm10_51 rfl ?_
  refine sCall1 cdm10_52 rfl rfl rfl rfl rfl (fun Q₂ h₂ => ccK0_106 hE z h₂) ?_
  refine sPr (by decide) cdm10_55 rfl rfl (by decide +kernel) (by decide +kernel) (by decide +kernel) rfl ?_
  exact sRet cdm10_58 rfl hq
set_option maxRecDepth 100000 in
theorem ccK49_112 {D : Nat} {E : oEnv} {mi : mMi} {Q : mOut → mH → Prop} (hE : oOk E) (z : ccZr mi) (hq : Q (.inl none) (hc E 117 132 mi 6775)) : WP (D + 0) 49 0 (mEntry 49 [mR 0 6 1]) [] (hc E 112 127 mi 6295) Q := by
  refine sAn cdm49_0 rfl ?_
  refine sObj cdm49_1 rfl rfl ?_
  refine sAn cdm49_4 rfl ?_
  refine sBp (x := N 96) cdm49_5 (by decide) ?_
  refine sArr (f := 0) (i := 6) (j := 2) hE cdm49_7 (by decide +kernel) (by decide) rfl (by decide +kernel) (by omega) (fun p _ => z _ _ _ p (by omega) (by omega)) ?_
  refine sPr (by decide) cdm49_9 rfl rfl (by decide +kernel) (by decide +kernel) (by decide +kernel) rfl ?_
  refine sAn cdm49_12 rfl ?_
  refine sBp (x := N 96) cdm49_13 (by decide) ?_
  refine sArr (f := 0) (i := 6) (j := 3) hE cdm49_15 (by decide +kernel) (by decide) rfl (by decide +kernel) (by omega) (fun p _ => z _ _ _ p (by omega) (by omega)) ?_
  refine sPr (by decide) cdm49_17 rfl rfl (by decide +kernel) (by decide +kernel) (by decide +kernel) rfl ?_
  refine sAn cdm49_20 rfl ?_
  refine sBp (x := N 96) cdm49_21 (by decide) ?_
  refine sArr (f := 0) (i := 6) (j := 4) hE cdm49_23 (by decide +kernel) (by decide) rfl (by decide +kernel) (by omega) (fun p _ => z _ _ _ p (by omega) (by omega)) ?_
  refine sPr (by decide) cdm49_25 rfl rfl (by decide +kernel) (by decide +kernel) (by decide +kernel) rfl ?_
  refine sAn cdm49_28 rfl ?_
  refine sBp (x := N 96) cdm49_29 (by decide) ?_
  refine sArr (f := 0) (i := 6) (j := 5) hE cdm49_31 (by decide +kernel) (by decide) rfl (by decide +kernel) (by omega) (fun p _ => z _ _ _ p (by omega) (by omega)) ?_
  refine sPr (by decide) cdm49_33 rfl rfl (by decide +kernel) (by decide +kernel) (by decide +kernel) rfl ?_
  refine sAn cdm49_36 rfl ?_
  refine sBp (x := N 96) cdm49_37 (by decide) ?_
  refine sArr (f := 0) (i := 6) (j := 6) hE cdm49_39 (by decide +kernel) (by decide) rfl (by decide +kernel) (by omega) (fun p _ => z _ _ _ p (by omega) (by omega)) ?_
  refine sPr (by decide) cdm49_41 rfl rfl (by decide +kernel) (by decide +kernel) (by decide +kernel) rfl ?_
  exact sRet cdm49_44 rfl hq
set_option maxRecDepth 100000 in
theorem ccK42_118 {D : Nat} {E : oEnv} {mi : mMi} {Q : mOut → mH → Prop} (hE : oOk E) (z : ccZr mi) (hq : Q (.inl none) (hc E 120 135 mi 6932)) : WP (D + 0) 42 0 (mEntry 42 [mR 0 6 7]) [] (hc E 118 133 mi 6778) Q := by
  refine sAn cdm42_0 rfl ?_
  refine sObj cdm42_1 rfl rfl ?_
  refine sAn cdm42_4 rfl ?_
  refine sSp (x := N 150) cdm42_5 (by decide) ?_
  refine sArr (f := 0) (i := 6) (j := 8) hE cdm42_8 (by decide +kernel) (by decide) rfl (by decide +kernel) (by omega) (fun p _ => z _ _ _ p (by omega) (by omega)) ?_
  refine sPr (by decide) cdm42_10 rfl rfl (by decide +kernel) (by decide +kernel) (by decide +kernel) rfl ?_
  refine sAn cdm42_13 rfl ?_
  refine sIc (x := N 4) cdm42_14 (by decide) ?_
  refine sArr (f := 0) (i := 6) (j := 9) hE cdm42_15 (by decide +kernel) (by decide) rfl (by decide +kernel) (by omega) (fun p _ => z _ _ _ p (by omega) (by omega)) ?_
  refine sPr (by decide) cdm42_17 rfl rfl (by decide +kernel) (by decide +kernel) (by decide +kernel) rfl ?_
  refine sAn cdm42_20 rfl ?_
  refine sIc (x := N 0) cdm42_21 (by decide) ?_
  refine sPz (by decide) cdm42_22 rfl rfl (by decide +kernel) (by decide +kernel) (z _ _ _ _ (by omega) (by omega)) ?_
  exact sRet cdm42_25 rfl hq
set_option maxRecDepth 100000 in
theorem ccK0_121 {D : Nat} {E : oEnv} {mi : mMi} {Q : mOut → mH → Prop} (hE : oOk E) (z : ccZr mi) (hq : Q (.inl none) (hc E 125 143 mi 7098)) : WP (D + 0) 0 0 (mEntry 0 [mR 0 6 10, mR 1 0 0]) [] (hc E 121 138 mi 6938) Q := by
  refine sAn cdm0_0 rfl ?_
  refine sObj cdm0_1 rfl rfl ?_
  refine sAn cdm0_4 rfl ?_
  refine sBp (x := N 40) cdm0_5 (by decide) ?_
  refine sArr (f := 0) (i := 6) (j := 11) hE cdm0_7 (by decide +kernel) (by decide) rfl (by decide +kernel) (by omega) (fun p _ => z _ _ _ p (by omega) (by omega)) ?_
  refine sPr (by decide) cdm0_9 rfl rfl (by decide +kernel) (by decide +kernel) (by decide +kernel) rfl ?_
  refine sAn cdm0_12 rfl ?_
  refine sBp (x := N 40) cdm0_13 (by decide) ?_
  refine sArr (f := 0) (i := 6) (j := 12) hE cdm0_15 (by decide +kernel) (by decide) rfl (by decide +kernel) (by omega) (fun p _ => z _ _ _ p (by omega) (by omega)) ?_
  refine sPr (by decide) cdm0_17 rfl rfl (by decide +kernel) (by decide +kernel) (by decide +kernel) rfl ?_
  refine sAn cdm0_20 rfl ?_
  refine sBp (x := N 40) cdm0_21 (by decide) ?_
  refine sArr (f := 0) (i := 6) (j := 13) hE cdm0_23 (by decide +kernel) (by decide) rfl (by decide +kernel) (by omega) (fun p _ => z _ _ _ p (by omega) (by omega)) ?_
  refine sPr (by decide) cdm0_25 rfl rfl (by decide +kernel) (by decide +kernel) (by decide +kernel) rfl ?_
  refine sAn cdm0_28 rfl ?_
  refine sBp (x := N 40) cdm0_29 (by decide) ?_
  refine sArr (f := 0) (i := 6) (j := 14) hE cdm0_31 (by decide +kernel) (by decide) rfl (by decide +kernel) (by omega) (fun p _ => z _ _ _ p (by omega) (by omega)) ?_
  refine sPr (by decide) cdm0_33 rfl rfl (by decide +kernel) (by decide +kernel) (by decide +kernel) rfl ?_
  refine sAn cdm0_36 rfl ?_
  refine sIc (x := N 0) cdm0_37 (by decide) ?_
  refine sPz (by decide) cdm0_38 rfl rfl (by decide +kernel) (by decide +kernel) (z _ _ _ _ (by omega) (by omega)) ?_
  refine sAn cdm0_41 rfl ?_
  refine sAn cdm0_42 rfl ?_
  refine sPr (by decide) cdm0_43 rfl rfl (by decide +kernel) (by decide +kernel) (by decide +kernel) rfl ?_
  exact sRet cdm0_46 rfl hq
set_option maxRecDepth 100000 in
theorem ccK10_111 {D : Nat} {E : oEnv} {mi : mMi} {Q : mOut → mH → Prop} (hE : oOk E) (z : ccZr mi) (hq : Q (.inl none) (hc E 125 144 mi 7098)) : WP (D + 1) 10 0 (mEntry 10 [mR 0 6 0, mR 1 0 0, mR 2 2 0]) [] (hc E 111 127 mi 6290) Q := by
  refine sAn cdm10_0 rfl ?_
  refine sObj cdm10_1 rfl rfl ?_
  refine sAn cdm10_4 rfl ?_
  refine sNew (f := 0) (i := 6) (j := 1) hE cdm10_5 rfl rfl rfl (by decide +kernel) (by decide) rfl (by decide +kernel) (fun p _ => z _ _ _ p (by omega) (by omega)) ?_
  refine sDup cdm10_8 ?_
  refine sCall0 cdm10_9 rfl rfl rfl rfl rfl (fun Q₂ h₂ => ccK49_112 hE z h₂) ?_
  refine sPr (by decide) cdm10_12 rfl rfl (by decide +kernel) (by decide +kernel) (by decide +kernel) rfl ?_
  refine sAn cdm10_15 rfl ?_
  refine sNew (f := 0) (i := 6) (j := 7) hE cdm10_16 rfl rfl rfl (by decide +kernel) (by decide) rfl (by decide +kernel) (fun p _ => z _ _ _ p (by omega) (by omega)) ?_
  refine sDup cdm10_19 ?_
  refine sCall0 cdm10_20 rfl rfl rfl rfl rfl (fun Q₂ h₂ => ccK42_118 hE z h₂) ?_
  refine sPr (by decide) cdm10_23 rfl rfl (by decide +kernel) (by decide +kernel) (by decide +kernel) rfl ?_
  refine sAn cdm10_26 rfl ?_
  refine sIc (x := N 0) cdm10_27 (by decide) ?_
  refine sPz (by decide) cdm10_28 rfl rfl (by decide +kernel) (by decide +kernel) (z _ _ _ _ (by omega) (by omega)) ?_
  refine sAn cdm10_31 rfl ?_
  refine sIc (x := N 0) cdm10_32 (by decide) ?_
  refine sPz (by decide) cdm10_33 rfl rfl (by decide +kernel) (by decide +kernel) (z _ _ _ _ (by omega) (by omega)) ?_
  refine sAn cdm10_36 rfl ?_
  refine sAn cdm10_37 rfl ?_
  refine sPr (by decide) cdm10_38 rfl rfl (by decide +kernel) (by decide +kernel) (by decide +kernel) rfl ?_
  refine sAn cdm10_41 rfl ?_
  refine sAn cdm10_42 rfl ?_
  refine sPr (by decide) cdm10_43 rfl rfl (by decide +kernel) (by decide +kernel) (by decide +kernel) rfl ?_
  refine sAn cdm10_46 rfl ?_
  refine sNew (f := 0) (i := 6) (j := 10) hE cdm10_47 rfl rfl rfl (by decide +kernel) (by decide) rfl (by decide +kernel) (fun p _ => z _ _ _ p (by omega) (by omega)) ?_
  refine sDup cdm10_50 ?_
  refine sAn cdm10_51 rfl ?_
  refine sCall1 cdm10_52 rfl rfl rfl rfl rfl (fun Q₂ h₂ => ccK0_121 hE z h₂) ?_
  refine sPr (by decide) cdm10_55 rfl rfl (by decide +kernel) (by decide +kernel) (by decide +kernel) rfl ?_
  exact sRet cdm10_58 rfl hq
set_option maxRecDepth 100000 in
theorem ccK49_127 {D : Nat} {E : oEnv} {mi : mMi} {Q : mOut → mH → Prop} (hE : oOk E) (z : ccZr mi) (hq : Q (.inl none) (hc E 132 150 mi 7590)) : WP (D + 0) 49 0 (mEntry 49 [mR 0 7 1]) [] (hc E 127 145 mi 7110) Q := by
  refine sAn cdm49_0 rfl ?_
  refine sObj cdm49_1 rfl rfl ?_
  refine sAn cdm49_4 rfl ?_
  refine sBp (x := N 96) cdm49_5 (by decide) ?_
  refine sArr (f := 0) (i := 7) (j := 2) hE cdm49_7 (by decide +kernel) (by decide) rfl (by decide +kernel) (by omega) (fun p _ => z _ _ _ p (by omega) (by omega)) ?_
  refine sPr (by decide) cdm49_9 rfl rfl (by decide +kernel) (by decide +kernel) (by decide +kernel) rfl ?_
  refine sAn cdm49_12 rfl ?_
  refine sBp (x := N 96) cdm49_13 (by decide) ?_
  refine sArr (f := 0) (i := 7) (j := 3) hE cdm49_15 (by decide +kernel) (by decide) rfl (by decide +kernel) (by omega) (fun p _ => z _ _ _ p (by omega) (by omega)) ?_
  refine sPr (by decide) cdm49_17 rfl rfl (by decide +kernel) (by decide +kernel) (by decide +kernel) rfl ?_
  refine sAn cdm49_20 rfl ?_
  refine sBp (x := N 96) cdm49_21 (by decide) ?_
  refine sArr (f := 0) (i := 7) (j := 4) hE cdm49_23 (by decide +kernel) (by decide) rfl (by decide +kernel) (by omega) (fun p _ => z _ _ _ p (by omega) (by omega)) ?_
  refine sPr (by decide) cdm49_25 rfl rfl (by decide +kernel) (by decide +kernel) (by decide +kernel) rfl ?_
  refine sAn cdm49_28 rfl ?_
  refine sBp (x := N 96) cdm49_29 (by decide) ?_
  refine sArr (f := 0) (i := 7) (j := 5) hE cdm49_31 (by decide +kernel) (by decide) rfl (by decide +kernel) (by omega) (fun p _ => z _ _ _ p (by omega) (by omega)) ?_
  refine sPr (by decide) cdm49_33 rfl rfl (by decide +kernel) (by decide +kernel) (by decide +kernel) rfl ?_
  refine sAn cdm49_36 rfl ?_
  refine sBp (x := N 96) cdm49_37 (by decide) ?_
  refine sArr (f := 0) (i := 7) (j := 6) hE cdm49_39 (by decide +kernel) (by decide) rfl (by decide +kernel) (by omega) (fun p _ => z _ _ _ p (by omega) (by omega)) ?_
  refine sPr (by decide) cdm49_41 rfl rfl (by decide +kernel) (by decide +kernel) (by decide +kernel) rfl ?_
  exact sRet cdm49_44 rfl hq
set_option maxRecDepth 100000 in
theorem ccK42_133 {D : Nat} {E : oEnv} {mi : mMi} {Q : mOut → mH → Prop} (hE : oOk E) (z : ccZr mi) (hq : Q (.inl none) (hc E 135 153 mi 7747)) : WP (D + 0) 42 0 (mEntry 42 [mR 0 7 7]) [] (hc E 133 151 mi 7593) Q := by
  refine sAn cdm42_0 rfl ?_
  refine sObj cdm42_1 rfl rfl ?_
  refine sAn cdm42_4 rfl ?_
  refine sSp (x := N 150) cdm42_5 (by decide) ?_
  refine sArr (f := 0) (i := 7) (j := 8) hE cdm42_8 (by decide +kernel) (by decide) rfl (by decide +kernel) (by omega) (fun p _ => z _ _ _ p (by omega) (by omega)) ?_
  refine sPr (by decide) cdm42_10 rfl rfl (by decide +kernel) (by decide +kernel) (by decide +kernel) rfl ?_
  refine sAn cdm42_13 rfl ?_
  refine sIc (x := N 4) cdm42_14 (by decide) ?_
  refine sArr (f := 0) (i := 7) (j := 9) hE cdm42_15 (by decide +kernel) (by decide) rfl (by decide +kernel) (by omega) (fun p _ => z _ _ _ p (by omega) (by omega)) ?_
  refine sPr (by decide) cdm42_17 rfl rfl (by decide +kernel) (by decide +kernel) (by decide +kernel) rfl ?_
  refine sAn cdm42_20 rfl ?_
  refine sIc (x := N 0) cdm42_21 (by decide) ?_
  refine sPz (by decide) cdm42_22 rfl rfl (by decide +kernel) (by decide +kernel) (z _ _ _ _ (by omega) (by omega)) ?_
  exact sRet cdm42_25 rfl hq
set_option maxRecDepth 100000 in
theorem ccK0_136 {D : Nat} {E : oEnv} {mi : mMi} {Q : mOut → mH → Prop} (hE : oOk E) (z : ccZr mi) (hq : Q (.inl none) (hc E 140 161 mi 7913)) : WP (D + 0) 0 0 (mEntry 0 [mR 0 7 10, mR 1 0 0]) [] (hc E 136 156 mi 7753) Q := by
  refine sAn cdm0_0 rfl ?_
  refine sObj cdm0_1 rfl rfl ?_
  refine sAn cdm0_4 rfl ?_
  refine sBp (x := N 40) cdm0_5 (by decide) ?_
  refine sArr (f := 0) (i := 7) (j := 11) hE cdm0_7 (by decide +kernel) (by decide) rfl (by decide +kernel) (by omega) (fun p _ => z _ _ _ p (by omega) (by omega)) ?_
  refine sPr (by decide) cdm0_9 rfl rfl (by decide +kernel) (by decide +kernel) (by decide +kernel) rfl ?_
  refine sAn cdm0_12 rfl ?_
  refine sBp (x := N 40) cdm0_13 (by decide) ?_
  refine sArr (f := 0) (i := 7) (j := 12) hE cdm0_15 (by decide +kernel) (by decide) rfl (by decide +kernel) (by omega) (fun p _ => z _ _ _ p (by omega) (by omega)) ?_
  refine sPr (by decide) cdm0_17 rfl rfl (by decide +kernel) (by decide +kernel) (by decide +kernel) rfl ?_
  refine sAn cdm0_20 rfl ?_
  refine sBp (x := N 40) cdm0_21 (by decide) ?_
  refine sArr (f := 0) (i := 7) (j := 13) hE cdm0_23 (by decide +kernel) (by decide) rfl (by decide +kernel) (by omega) (fun p _ => z _ _ _ p (by omega) (by omega)) ?_
  refine sPr (by decide) cdm0_25 rfl rfl (by decide +kernel) (by decide +kernel) (by decide +kernel) rfl ?_
  refine sAn cdm0_28 rfl ?_
  refine sBp (x := N 40) cdm0_29 (by decide) ?_
  refine sArr (f := 0) (i := 7) (j := 14) hE cdm0_31 (by decide +kernel) (by decide) rfl (by decide +kernel) (by omega) (fun p _ => z _ _ _ p (by omega) (by omega)) ?_
  refine sPr (by decide) cdm0_33 rfl rfl (by decide +kernel) (by decide +kernel) (by decide +kernel) rfl ?_
  refine sAn cdm0_36 rfl ?_
  refine sIc (x := N 0) cdm0_37 (by decide) ?_
  refine sPz (by decide) cdm0_38 rfl rfl (by decide +kernel) (by decide +kernel) (z _ _ _ _ (by omega) (by omega)) ?_
  refine sAn cdm0_41 rfl ?_
  refine sAn cdm0_42 rfl ?_
  refine sPr (by decide) cdm0_43 rfl rfl (by decide +kernel) (by decide +kernel) (by decide +kernel) rfl ?_
  exact sRet cdm0_46 rfl hq
set_option maxRecDepth 100000 in
theorem ccK10_126 {D : Nat} {E : oEnv} {mi : mMi} {Q : mOut → mH → Prop} (hE : oOk E) (z : ccZr mi) (hq : Q (.inl none) (hc E 140 162 mi 7913)) : WP (D + 1) 10 0 (mEntry 10 [mR 0 7 0, mR 1 0 0, mR 2 2 0]) [] (hc E 126 145 mi 7105) Q := by
  refine sAn cdm10_0 rfl ?_
  refine sObj cdm10_1 rfl rfl ?_
  refine sAn cdm10_4 rfl ?_
  refine sNew (f := 0) (i := 7) (j := 1) hE cdm10_5 rfl rfl rfl (by decide +kernel) (by decide) rfl (by decide +kernel) (fun p _ => z _ _ _ p (by omega) (by omega)) ?_
  refine sDup cdm10_8 ?_
  refine sCall0 cdm10_9 rfl rfl rfl rfl rfl (fun Q₂ h₂ => ccK49_127 hE z h₂) ?_
  refine sPr (by decide) cdm10_12 rfl rfl (by decide +kernel) (by decide +kernel) (by decide +kernel) rfl ?_
  refine sAn cdm10_15 rfl ?_
  refine sNew (f := 0) (i := 7) (j := 7) hE cdm10_16 rfl rfl rfl (by decide +kernel) (by decide) rfl (by decide +kernel) (fun p _ => z _ _ _ p (by omega) (by omega)) ?_
  refine sDup cdm10_19 ?_
  refine sCall0 cdm10_20 rfl rfl rfl rfl rfl (fun Q₂ h₂ => ccK42_133 hE z h₂) ?_
  refine sPr (by decide) cdm10_23 rfl rfl (by decide +kernel) (by decide +kernel) (by decide +kernel) rfl ?_
  refine sAn cdm10_26 rfl ?_
  refine sIc (x := N 0) cdm10_27 (by decide) ?_
  refine sPz (by decide) cdm10_28 rfl rfl (by decide +kernel) (by decide +kernel) (z _ _ _ _ (by omega) (by omega)) ?_
  refine sAn cdm10_31 rfl ?_
  refine sIc (x := N 0) cdm10_32 (by decide) ?_
  refine sPz (by decide) cdm10_33 rfl rfl (by decide +kernel) (by decide +kernel) (z _ _ _ _ (by omega) (by omega)) ?_
  refine sAn cdm10_36 rfl ?_
  refine sAn cdm10_37 rfl ?_
  refine sPr (by decide) cdm10_38 rfl rfl (by decide +kernel) (by decide +kernel) (by decide +kernel) rfl ?_
  refine sAn cdm10_41 rfl ?_
  refine sAn cdm10_42 rfl ?_
  refine sPr (by decide) cdm10_43 rfl rfl (by decide +kernel) (by decide +kernel) (by decide +kernel) rfl ?_
  refine sAn cdm10_46 rfl ?_
  refine sNew (f := 0) (i := 7) (j := 10) hE cdm10_47 rfl rfl rfl (by decide +kernel) (by decide) rfl (by decide +kernel) (fun p _ => z _ _ _ p (by omega) (by omega)) ?_
  refine sDup cdm10_50 ?_
  refine sAn cdm10_51 rfl ?_
  refine sCall1 cdm10_52 rfl rfl rfl rfl rfl (fun Q₂ h₂ => ccK0_136 hE z h₂) ?_
  refine sPr (by decide) cdm10_55 rfl rfl (by decide +kernel) (by decide +kernel) (by decide +kernel) rfl ?_
  exact sRet cdm10_58 rfl hq
set_option maxRecDepth 100000 in
theorem ccK49_142 {D : Nat} {E : oEnv} {mi : mMi} {Q : mOut → mH → Prop} (hE : oOk E) (z : ccZr mi) (hq : Q (.inl none) (hc E 147 168 mi 8405)) : WP (D + 0) 49 0 (mEntry 49 [mR 0 8 1]) [] (hc E 142 163 mi 7925) Q := by
  refine sAn cdm49_0 rfl ?_
  refine sObj cdm49_1 rfl rfl ?_
  refine sAn cdm49_4 rfl ?_
  refine sBp (x := N 96) cdm49_5 (by decide) ?_
  refine sArr (f := 0) (i := 8) (j := 2) hE cdm49_7 (by decide +kernel) (by decide) rfl (by decide +kernel) (by omega) (fun p _ => z _ _ _ p (by omega) (by omega)) ?_
  refine sPr (by decide) cdm49_9 rfl rfl (by decide +kernel) (by decide +kernel) (by decide +kernel) rfl ?_
  refine sAn cdm49_12 rfl ?_
  refine sBp (x := N 96) cdm49_13 (by decide) ?_
  refine sArr (f := 0) (i := 8) (j := 3) hE cdm49_15 (by decide +kernel) (by decide) rfl (by decide +kernel) (by omega) (fun p _ => z _ _ _ p (by omega) (by omega)) ?_
  refine sPr (by decide) cdm49_17 rfl rfl (by decide +kernel) (by decide +kernel) (by decide +kernel) rfl ?_
  refine sAn cdm49_20 rfl ?_
  refine sBp (x := N 96) cdm49_21 (by decide) ?_
  refine sArr (f := 0) (i := 8) (j := 4) hE cdm49_23 (by decide +kernel) (by decide) rfl (by decide +kernel) (by omega) (fun p _ => z _ _ _ p (by omega) (by omega)) ?_
  refine sPr (by decide) cdm49_25 rfl rfl (by decide +kernel) (by decide +kernel) (by decide +kernel) rfl ?_
  refine sAn cdm49_28 rfl ?_
  refine sBp (x := N 96) cdm49_29 (by decide) ?_
  refine sArr (f := 0) (i := 8) (j := 5) hE cdm49_31 (by decide +kernel) (by decide) rfl (by decide +kernel) (by omega) (fun p _ => z _ _ _ p (by omega) (by omega)) ?_
  refine sPr (by decide) cdm49_33 rfl rfl (by decide +kernel) (by decide +kernel) (by decide +kernel) rfl ?_
  refine sAn cdm49_36 rfl ?_
  refine sBp (x := N 96) cdm49_37 (by decide) ?_
  refine sArr (f := 0) (i := 8) (j := 6) hE cdm49_39 (by decide +kernel) (by decide) rfl (by decide +kernel) (by omega) (fun p _ => z _ _ _ p (by omega) (by omega)) ?_
  refine sPr (by decide) cdm49_41 rfl rfl (by decide +kernel) (by decide +kernel) (by decide +kernel) rfl ?_
  exact sRet cdm49_44 rfl hq
set_option maxRecDepth 100000 in
theorem ccK42_148 {D : Nat} {E : oEnv} {mi : mMi} {Q : mOut → mH → Prop} (hE : oOk E) (z : ccZr mi) (hq : Q (.inl none) (hc E 150 171 mi 8562)) : WP (D + 0) 42 0 (mEntry 42 [mR 0 8 7]) [] (hc E 148 169 mi 8408) Q := by
  refine sAn cdm42_0 rfl ?_
  refine sObj cdm42_1 rfl rfl ?_
  refine sAn cdm42_4 rfl ?_
  refine sSp (x := N 150) cdm42_5 (by decide) ?_
  refine sArr (f := 0) (i := 8) (j := 8) hE cdm42_8 (by decide +kernel) (by decide) rfl (by decide +kernel) (by omega) (fun p _ => z _ _ _ p (by omega) (by omega)) ?_
  refine sPr (by decide) cdm42_10 rfl rfl (by decide +kernel) (by decide +kernel) (by decide +kernel) rfl ?_
  refine sAn cdm42_13 rfl ?_
  refine sIc (x := N 4) cdm42_14 (by decide) ?_
  refine sArr (f := 0) (i := 8) (j := 9) hE cdm42_15 (by decide +kernel) (by decide) rfl (by decide +kernel) (by omega) (fun p _ => z _ _ _ p (by omega) (by omega)) ?_
  refine sPr (by decide) cdm42_17 rfl rfl (by decide +kernel) (by decide +kernel) (by decide +kernel) rfl ?_
  refine sAn cdm42_20 rfl ?_
  refine sIc (x := N 0) cdm42_21 (by decide) ?_
  refine sPz (by decide) cdm42_22 rfl rfl (by decide +kernel) (by decide +kernel) (z _ _ _ _ (by omega) (by omega)) ?_
  exact sRet cdm42_25 rfl hq
set_option maxRecDepth 100000 in
theorem ccK0_151 {D : Nat} {E : oEnv} {mi : mMi} {Q : mOut → mH → Prop} (hE : oOk E) (z : ccZr mi) (hq : Q (.inl none) (hc E 155 179 mi 8728)) : WP (D + 0) 0 0 (mEntry 0 [mR 0 8 10, mR 1 0 0]) [] (hc E 151 174 mi 8568) Q := by
  refine sAn cdm0_0 rfl ?_
  refine sObj cdm0_1 rfl rfl ?_
  refine sAn cdm0_4 rfl ?_
  refine sBp (x := N 40) cdm0_5 (by decide) ?_
  refine sArr (f := 0) (i := 8) (j := 11) hE cdm0_7 (by decide +kernel) (by decide) rfl (by decide +kernel) (by omega) (fun p _ => z _ _ _ p (by omega) (by omega)) ?_
  refine sPr (by decide) cdm0_9 rfl rfl (by decide +kernel) (by decide +kernel) (by decide +kernel) rfl ?_
  refine sAn cdm0_12 rfl ?_
  refine sBp (x := N 40) cdm0_13 (by decide) ?_
  refine sArr (f := 0) (i := 8) (j := 12) hE cdm0_15 (by decide +kernel) (by decide) rfl (by decide +kernel) (by omega) (fun p _ => z _ _ _ p (by omega) (by omega)) ?_
  refine sPr (by decide) cdm0_17 rfl rfl (by decide +kernel) (by decide +kernel) (by decide +kernel) rfl ?_
  refine sAn cdm0_20 rfl ?_
  refine sBp (x := N 40) cdm0_21 (by decide) ?_
  refine sArr (f := 0) (i := 8) (j := 13) hE cdm0_23 (by decide +kernel) (by decide) rfl (by decide +kernel) (by omega) (fun p _ => z _ _ _ p (by omega) (by omega)) ?_
  refine sPr (by decide) cdm0_25 rfl rfl (by decide +kernel) (by decide +kernel) (by decide +kernel) rfl ?_
  refine sAn cdm0_28 rfl ?_
  refine sBp (x := N 40) cdm0_29 (by decide) ?_
  refine sArr (f := 0) (i := 8) (j := 14) hE cdm0_31 (by decide +kernel) (by decide) rfl (by decide +kernel) (by omega) (fun p _ => z _ _ _ p (by omega) (by omega)) ?_
  refine sPr (by decide) cdm0_33 rfl rfl (by decide +kernel) (by decide +kernel) (by decide +kernel) rfl ?_
  refine sAn cdm0_36 rfl ?_
  refine sIc (x := N 0) cdm0_37 (by decide) ?_
  refine sPz (by decide) cdm0_38 rfl rfl (by decide +kernel) (by decide +kernel) (z _ _ _ _ (by omega) (by omega)) ?_
  refine sAn cdm0_41 rfl ?_
  refine sAn cdm0_42 rfl ?_
  refine sPr (by decide) cdm0_43 rfl rfl (by decide +kernel) (by decide +kernel) (by decide +kernel) rfl ?_
  exact sRet cdm0_46 rfl hq
set_option maxRecDepth 100000 in
theorem ccK10_141 {D : Nat} {E : oEnv} {mi : mMi} {Q : mOut → mH → Prop} (hE : oOk E) (z : ccZr mi) (hq : Q (.inl none) (hc E 155 180 mi 8728)) : WP (D + 1) 10 0 (mEntry 10 [mR 0 8 0, mR 1 0 0, mR 2 2 0]) [] (hc E 141 163 mi 7920) Q := by
  refine sAn cdm10_0 rfl ?_
  refine sObj cdm10_1 rfl rfl ?_
  refine sAn cdm10_4 rfl ?_
  refine sNew (f := 0) (i := 8) (j := 1) hE cdm10_5 rfl rfl rfl (by decide +kernel) (by decide) rfl (by decide +kernel) (fun p _ => z _ _ _ p (by omega) (by omega)) ?_
  refine sDup cdm10_8 ?_
  refine sCall0 cdm10_9 rfl rfl rfl rfl rfl (fun Q₂ h₂ => ccK49_142 hE z h₂) ?_
  refine sPr (by decide) cdm10_12 rfl rfl (by decide +kernel) (by decide +kernel) (by decide +kernel) rfl ?_
  refine sAn cdm10_15 rfl ?_
  refine sNew (f := 0) (i := 8) (j := 7) hE cdm10_16 rfl rfl rfl (by decide +kernel) (by decide) rfl (by decide +kernel) (fun p _ => z _ _ _ p (by omega) (by omega)) ?_
  refine sDup cdm10_19 ?_
  refine sCall0 cdm10_20 rfl rfl rfl rfl rfl (fun Q₂ h₂ => ccK42_148 hE z h₂) ?_
  refine sPr (by decide) cdm10_23 rfl rfl (by decide +kernel) (by decide +kernel) (by decide +kernel) rfl ?_
  refine sAn cdm10_26 rfl ?_
  refine sIc (x := N 0) cdm10_27 (by decide) ?_
  refine sPz (by decide) cdm10_28 rfl rfl (by decide +kernel) (by decide +kernel) (z _ _ _ _ (by omega) (by omega)) ?_
  refine sAn cdm10_31 rfl ?_
  refine sIc (x := N 0) cdm10_32 (by decide) ?_
  refine sPz (by decide) cdm10_33 rfl rfl (by decide +kernel) (by decide +kernel) (z _ _ _ _ (by omega) (by omega)) ?_
  refine sAn cdm10_36 rfl ?_
  refine sAn cdm10_37 rfl ?_
  refine sPr (by decide) cdm10_38 rfl rfl (by decide +kernel) (by decide +kernel) (by decide +kernel) rfl ?_
  refine sAn cdm10_41 rfl ?_
  refine sAn cdm10_42 rfl ?_
  refine sPr (by decide) cdm10_43 rfl rfl (by decide +kernel) (by decide +kernel) (by decide +kernel) rfl ?_
  refine sAn cdm10_46 rfl ?_
  refine sNew (f := 0) (i := 8) (j := 10) hE cdm10_47 rfl rfl rfl (by decide +kernel) (by decide) rfl (by decide +kernel) (fun p _ => z _ _ _ p (by omega) (by omega)) ?_
  refine sDup cdm10_50 ?_
  refine sAn cdm10_51 rfl ?_
  refine sCall1 cdm10_52 rfl rfl rfl rfl rfl (fun Q₂ h₂ => ccK0_151 hE z h₂) ?_
  refine sPr (by decide) cdm10_55 rfl rfl (by decide +kernel) (by decide +kernel) (by decide +kernel) rfl ?_
  exact sRet cdm10_58 rfl hq
set_option maxRecDepth 100000 in
theorem ccK49_157 {D : Nat} {E : oEnv} {mi : mMi} {Q : mOut → mH → Prop} (hE : oOk E) (z : ccZr mi) (hq : Q (.inl none) (hc E 162 186 mi 9220)) : WP (D + 0) 49 0 (mEntry 49 [mR 0 9 1]) [] (hc E 157 181 mi 8740) Q := by
  refine sAn cdm49_0 rfl ?_
  refine sObj cdm49_1 rfl rfl ?_
  refine sAn cdm49_4 rfl ?_
  refine sBp (x := N 96) cdm49_5 (by decide) ?_
  refine sArr (f := 0) (i := 9) (j := 2) hE cdm49_7 (by decide +kernel) (by decide) rfl (by decide +kernel) (by omega) (fun p _ => z _ _ _ p (by omega) (by omega)) ?_
  refine sPr (by decide) cdm49_9 rfl rfl (by decide +kernel) (by decide +kernel) (by decide +kernel) rfl ?_
  refine sAn cdm49_12 rfl ?_
  refine sBp (x := N 96) cdm49_13 (by decide) ?_
  refine sArr (f := 0) (i := 9) (j := 3) hE cdm49_15 (by decide +kernel) (by decide) rfl (by decide +kernel) (by omega) (fun p _ => z _ _ _ p (by omega) (by omega)) ?_
  refine sPr (by decide) cdm49_17 rfl rfl (by decide +kernel) (by decide +kernel) (by decide +kernel) rfl ?_
  refine sAn cdm49_20 rfl ?_
  refine sBp (x := N 96) cdm49_21 (by decide) ?_
  refine sArr (f := 0) (i := 9) (j := 4) hE cdm49_23 (by decide +kernel) (by decide) rfl (by decide +kernel) (by omega) (fun p _ => z _ _ _ p (by omega) (by omega)) ?_
  refine sPr (by decide) cdm49_25 rfl rfl (by decide +kernel) (by decide +kernel) (by decide +kernel) rfl ?_
  refine sAn cdm49_28 rfl ?_
  refine sBp (x := N 96) cdm49_29 (by decide) ?_
  refine sArr (f := 0) (i := 9) (j := 5) hE cdm49_31 (by decide +kernel) (by decide) rfl (by decide +kernel) (by omega) (fun p _ => z _ _ _ p (by omega) (by omega)) ?_
  refine sPr (by decide) cdm49_33 rfl rfl (by decide +kernel) (by decide +kernel) (by decide +kernel) rfl ?_
  refine sAn cdm49_36 rfl ?_
  refine sBp (x := N 96) cdm49_37 (by decide) ?_
  refine sArr (f := 0) (i := 9) (j := 6) hE cdm49_39 (by decide +kernel) (by decide) rfl (by decide +kernel) (by omega) (fun p _ => z _ _ _ p (by omega) (by omega)) ?_
  refine sPr (by decide) cdm49_41 rfl rfl (by decide +kernel) (by decide +kernel) (by decide +kernel) rfl ?_
  exact sRet cdm49_44 rfl hq
set_option maxRecDepth 100000 in
theorem ccK42_163 {D : Nat} {E : oEnv} {mi : mMi} {Q : mOut → mH → Prop} (hE : oOk E) (z : ccZr mi) (hq : Q (.inl none) (hc E 165 189 mi 9377)) : WP (D + 0) 42 0 (mEntry 42 [mR 0 9 7]) [] (hc E 163 187 mi 9223) Q := by
  refine sAn cdm42_0 rfl ?_
  refine sObj cdm42_1 rfl rfl ?_
  refine sAn cdm42_4 rfl ?_
  refine sSp (x := N 150) cdm42_5 (by decide) ?_
  refine sArr (f := 0) (i := 9) (j := 8) hE cdm42_8 (by decide +kernel) (by decide) rfl (by decide +kernel) (by omega) (fun p _ => z _ _ _ p (by omega) (by omega)) ?_
  refine sPr (by decide) cdm42_10 rfl rfl (by decide +kernel) (by decide +kernel) (by decide +kernel) rfl ?_
  refine sAn cdm42_13 rfl ?_
  refine sIc (x := N 4) cdm42_14 (by decide) ?_
  refine sArr (f := 0) (i := 9) (j := 9) hE cdm42_15 (by decide +kernel) (by decide) rfl (by decide +kernel) (by omega) (fun p _ => z _ _ _ p (by omega) (by omega)) ?_
  refine sPr (by decide) cdm42_17 rfl rfl (by decide +kernel) (by decide +kernel) (by decide +kernel) rfl ?_
  refine sAn cdm42_20 rfl ?_
  refine sIc (x := N 0) cdm42_21 (by decide) ?_
  refine sPz (by decide) cdm42_22 rfl rfl (by decide +kernel) (by decide +kernel) (z _ _ _ _ (by omega) (by omega)) ?_
  exact sRet cdm42_25 rfl hq
set_option maxRecDepth 100000 in
theorem ccK0_166 {D : Nat} {E : oEnv} {mi : mMi} {Q : mOut → mH → Prop} (hE : oOk E) (z : ccZr mi) (hq : Q (.inl none) (hc E 170 197 mi 9543)) : WP (D + 0) 0 0 (mEntry 0 [mR 0 9 10, mR 1 0 0]) [] (hc E 166 192 mi 9383) Q := by
  refine sAn cdm0_0 rfl ?_
  refine sObj cdm0_1 rfl rfl ?_
  refine sAn cdm0_4 rfl ?_
  refine sBp (x := N 40) cdm0_5 (by decide) ?_
  refine sArr (f := 0) (i := 9) (j := 11) hE cdm0_7 (by decide +kernel) (by decide) rfl (by decide +kernel) (by omega) (fun p _ => z _ _ _ p (by omega) (by omega)) ?_
  refine sPr (by decide) cdm0_9 rfl rfl (by decide +kernel) (by decide +kernel) (by decide +kernel) rfl ?_
  refine sAn cdm0_12 rfl ?_
  refine sBp (x := N 40) cdm0_13 (by decide) ?_
  refine sArr (f := 0) (i := 9) (j := 12) hE cdm0_15 (by decide +kernel) (by decide) rfl (by decide +kernel) (by omega) (fun p _ => z _ _ _ p (by omega) (by omega)) ?_
  refine sPr (by decide) cdm0_17 rfl rfl (by decide +kernel) (by decide +kernel) (by decide +kernel) rfl ?_
  refine sAn cdm0_20 rfl ?_
  refine sBp (x := N 40) cdm0_21 (by decide) ?_
  refine sArr (f := 0) (i := 9) (j := 13) hE cdm0_23 (by decide +kernel) (by decide) rfl (by decide +kernel) (by omega) (fun p _ => z _ _ _ p (by omega) (by omega)) ?_
  refine sPr (by decide) cdm0_25 rfl rfl (by decide +kernel) (by decide +kernel) (by decide +kernel) rfl ?_
  refine sAn cdm0_28 rfl ?_
  refine sBp (x := N 40) cdm0_29 (by decide) ?_
  refine sArr (f := 0) (i := 9) (j := 14) hE cdm0_31 (by decide +kernel) (by decide) rfl (by decide +kernel) (by omega) (fun p _ => z _ _ _ p (by omega) (by omega)) ?_
  refine sPr (by decide) cdm0_33 rfl rfl (by decide +kernel) (by decide +kernel) (by decide +kernel) rfl ?_
  refine sAn cdm0_36 rfl ?_
  refine sIc (x := N 0) cdm0_37 (by decide) ?_
  refine sPz (by decide) cdm0_38 rfl rfl (by decide +kernel) (by decide +kernel) (z _ _ _ _ (by omega) (by omega)) ?_
  refine sAn cdm0_41 rfl ?_
  refine sAn cdm0_42 rfl ?_
  refine sPr (by decide) cdm0_43 rfl rfl (by decide +kernel) (by decide +kernel) (by decide +kernel) rfl ?_
  exact sRet cdm0_46 rfl hq
set_option maxRecDepth 100000 in
theorem ccK10_156 {D : Nat} {E : oEnv} {mi : mMi} {Q : mOut → mH → Prop} (hE : oOk E) (z : ccZr mi) (hq : Q (.inl none) (hc E 170 198 mi 9543)) : WP (D + 1) 10 0 (mEntry 10 [mR 0 9 0, mR 1 0 0, mR 2 2 0]) [] (hc E 156 181 mi 8735) Q := by
  refine sAn cdm10_0 rfl ?_
  refine sObj cdm10_1 rfl rfl ?_
  refine sAn cdm10_4 rfl ?_
  refine sNew (f := 0) (i := 9) (j := 1) hE cdm10_5 rfl rfl rfl (by decide +kernel) (by decide) rfl (by decide +kernel) (fun p _ => z _ _ _ p (by omega) (by omega)) ?_
  refine sDup cdm10_8 ?_
  refine sCall0 cdm10_9 rfl rfl rfl rfl rfl (fun Q₂ h₂ => ccK49_157 hE z h₂) ?_
  refine sPr (by decide) cdm10_12 rfl rfl (by decide +kernel) (by decide +kernel) (by decide +kernel) rfl ?_
  refine sAn cdm10_15 rfl ?_
  refine sNew (f := 0) (i := 9) (j := 7) hE cdm10_16 rfl rfl rfl (by decide +kernel) (by decide) rfl (by decide +kernel) (fun p _ => z _ _ _ p (by omega) (by omega)) ?_
  refine sDup cdm10_19 ?_
  refine sCall0 cdm10_20 rfl rfl rfl rfl rfl (fun Q₂ h₂ => ccK42_163 hE z h₂) ?_
  refine sPr (by decide) cdm10_23 rfl rfl (by decide +kernel) (by decide +kernel) (by decide +kernel) rfl ?_
  refine sAn cdm10_26 rfl ?_
  refine sIc (x := N 0) cdm10_27 (by decide) ?_
  refine sPz (by decide) cdm10_28 rfl rfl (by decide +kernel) (by decide +kernel) (z _ _ _ _ (by omega) (by omega)) ?_
  refine sAn cdm10_31 rfl ?_
  refine sIc (x := N 0) cdm10_32 (by decide) ?_
  refine sPz (by decide) cdm10_33 rfl rfl (by decide +kernel) (by decide +kernel) (z _ _ _ _ (by omega) (by omega)) ?_
  refine sAn cdm10_36 rfl ?_
  refine sAn cdm10_37 rfl ?_
  refine sPr (by decide) cdm10_38 rfl rfl (by decide +kernel) (by decide +kernel) (by decide +kernel) rfl ?_
  refine sAn cdm10_41 rfl ?_
  refine sAn cdm10_42 rfl ?_
  refine sPr (by decide) cdm10_43 rfl rfl (by decide +kernel) (by decide +kernel) (by decide +kernel) rfl ?_
  refine sAn cdm10_46 rfl ?_
  refine sNew (f := 0) (i := 9) (j := 10) hE cdm10_47 rfl rfl rfl (by decide +kernel) (by decide) rfl (by decide +kernel) (fun p _ => z _ _ _ p (by omega) (by omega)) ?_
  refine sDup cdm10_50 ?_
  refine sAn cdm10_51 rfl ?_
  refine sCall1 cdm10_52 rfl rfl rfl rfl rfl (fun Q₂ h₂ => ccK0_166 hE z h₂) ?_
  refine sPr (by decide) cdm10_55 rfl rfl (by decide +kernel) (by decide +kernel) (by decide +kernel) rfl ?_
  exact sRet cdm10_58 rfl hq
set_option maxRecDepth 100000 in
theorem ccK49_172 {D : Nat} {E : oEnv} {mi : mMi} {Q : mOut → mH → Prop} (hE : oOk E) (z : ccZr mi) (hq : Q (.inl none) (hc E 177 204 mi 10035)) : WP (D + 0) 49 0 (mEntry 49 [mR 0 10 1]) [] (hc E 172 199 mi 9555) Q := by
  refine sAn cdm49_0 rfl ?_
  refine sObj cdm49_1 rfl rfl ?_
  refine sAn cdm49_4 rfl ?_
  refine sBp (x := N 96) cdm49_5 (by decide) ?_
  refine sArr (f := 0) (i := 10) (j := 2) hE cdm49_7 (by decide +kernel) (by decide) rfl (by decide +kernel) (by omega) (fun p _ => z _ _ _ p (by omega) (by omega)) ?_
  refine sPr (by decide) cdm49_9 rfl rfl (by decide +kernel) (by decide +kernel) (by decide +kernel) rfl ?_
  refine sAn cdm49_12 rfl ?_
  refine sBp (x := N 96) cdm49_13 (by decide) ?_
  refine sArr (f := 0) (i := 10) (j := 3) hE cdm49_15 (by decide +kernel) (by decide) rfl (by decide +kernel) (by omega) (fun p _ => z _ _ _ p (by omega) (by omega)) ?_
  refine sPr (by decide) cdm49_17 rfl rfl (by decide +kernel) (by decide +kernel) (by decide +kernel) rfl ?_
  refine sAn cdm49_20 rfl ?_
  refine sBp (x := N 96) cdm49_21 (by decide) ?_
  refine sArr (f := 0) (i := 10) (j := 4) hE cdm49_23 (by decide +kernel) (by decide) rfl (by decide +kernel) (by omega) (fun p _ => z _ _ _ p (by omega) (by omega)) ?_
  refine sPr (by decide) cdm49_25 rfl rfl (by decide +kernel) (by decide +kernel) (by decide +kernel) rfl ?_
  refine sAn cdm49_28 rfl ?_
  refine sBp (x := N 96) cdm49_29 (by decide) ?_
  refine sArr (f := 0) (i := 10) (j := 5) hE cdm49_31 (by decide +kernel) (by decide) rfl (by decide +kernel) (by omega) (fun p _ => z _ _ _ p (by omega) (by omega)) ?_
  refine sPr (by decide) cdm49_33 rfl rfl (by decide +kernel) (by decide +kernel) (by decide +kernel) rfl ?_
  refine sAn cdm49_36 rfl ?_
  refine sBp (x := N 96) cdm49_37 (by decide) ?_
  refine sArr (f := 0) (i := 10) (j := 6) hE cdm49_39 (by decide +kernel) (by decide) rfl (by decide +kernel) (by omega) (fun p _ => z _ _ _ p (by omega) (by omega)) ?_
  refine sPr (by decide) cdm49_41 rfl rfl (by decide +kernel) (by decide +kernel) (by decide +kernel) rfl ?_
  exact sRet cdm49_44 rfl hq
set_option maxRecDepth 100000 in
theorem ccK42_178 {D : Nat} {E : oEnv} {mi : mMi} {Q : mOut → mH → Prop} (hE : oOk E) (z : ccZr mi) (hq : Q (.inl none) (hc E 180 207 mi 10192)) : WP (D + 0) 42 0 (mEntry 42 [mR 0 10 7]) [] (hc E 178 205 mi 10038) Q := by
  refine sAn cdm42_0 rfl ?_
  refine sObj cdm42_1 rfl rfl ?_
  refine sAn cdm42_4 rfl ?_
  refine sSp (x := N 150) cdm42_5 (by decide) ?_
  refine sArr (f := 0) (i := 10) (j := 8) hE cdm42_8 (by decide +kernel) (by decide) rfl (by decide +kernel) (by omega) (fun p _ => z _ _ _ p (by omega) (by omega)) ?_
  refine sPr (by decide) cdm42_10 rfl rfl (by decide +kernel) (by decide +kernel) (by decide +kernel) rfl ?_
  refine sAn cdm42_13 rfl ?_
  refine sIc (x := N 4) cdm42_14 (by decide) ?_
  refine sArr (f := 0) (i := 10) (j := 9) hE cdm42_15 (by decide +kernel) (by decide) rfl (by decide +kernel) (by omega) (fun p _ => z _ _ _ p (by omega) (by omega)) ?_
  refine sPr (by decide) cdm42_17 rfl rfl (by decide +kernel) (by decide +kernel) (by decide +kernel) rfl ?_
  refine sAn cdm42_20 rfl ?_
  refine sIc (x := N 0) cdm42_21 (by decide) ?_
  refine sPz (by decide) cdm42_22 rfl rfl (by decide +kernel) (by decide +kernel) (z _ _ _ _ (by omega) (by omega)) ?_
  exact sRet cdm42_25 rfl hq
set_option maxRecDepth 100000 in
theorem ccK0_181 {D : Nat} {E : oEnv} {mi : mMi} {Q : mOut → mH → Prop} (hE : oOk E) (z : ccZr mi) (hq : Q (.inl none) (hc E 185 215 mi 10358)) : WP (D + 0) 0 0 (mEntry 0 [mR 0 10 10, mR 1 0 0]) [] (hc E 181 210 mi 10198) Q := by
  refine sAn cdm0_0 rfl ?_
  refine sObj cdm0_1 rfl rfl ?_
  refine sAn cdm0_4 rfl ?_
  refine sBp (x := N 40) cdm0_5 (by decide) ?_
  refine sArr (f := 0) (i := 10) (j := 11) hE cdm0_7 (by decide +kernel) (by decide) rfl (by decide +kernel) (by omega) (fun p _ => z _ _ _ p (by omega) (by omega)) ?_
  refine sPr (by decide) cdm0_9 rfl rfl (by decide +kernel) (by decide +kernel) (by decide +kernel) rfl ?_
  refine sAn cdm0_12 rfl ?_
  refine sBp (x := N 40) cdm0_13 (by decide) ?_
  refine sArr (f := 0) (i := 10) (j := 12) hE cdm0_15 (by decide +kernel) (by decide) rfl (by decide +kernel) (by omega) (fun p _ => z _ _ _ p (by omega) (by omega)) ?_
  refine sPr (by decide) cdm0_17 rfl rfl (by decide +kernel) (by decide +kernel) (by decide +kernel) rfl ?_
  refine sAn cdm0_20 rfl ?_
  refine sBp (x := N 40) cdm0_21 (by decide) ?_
  refine sArr (f := 0) (i := 10) (j := 13) hE cdm0_23 (by decide +kernel) (by decide) rfl (by decide +kernel) (by omega) (fun p _ => z _ _ _ p (by omega) (by omega)) ?_
  refine sPr (by decide) cdm0_25 rfl rfl (by decide +kernel) (by decide +kernel) (by decide +kernel) rfl ?_
  refine sAn cdm0_28 rfl ?_
  refine sBp (x := N 40) cdm0_29 (by decide) ?_
  refine sArr (f := 0) (i := 10) (j := 14) hE cdm0_31 (by decide +kernel) (by decide) rfl (by decide +kernel) (by omega) (fun p _ => z _ _ _ p (by omega) (by omega)) ?_
  refine sPr (by decide) cdm0_33 rfl rfl (by decide +kernel) (by decide +kernel) (by decide +kernel) rfl ?_
  refine sAn cdm0_36 rfl ?_
  refine sIc (x := N 0) cdm0_37 (by decide) ?_
  refine sPz (by decide) cdm0_38 rfl rfl (by decide +kernel) (by decide +kernel) (z _ _ _ _ (by omega) (by omega)) ?_
  refine sAn cdm0_41 rfl ?_
  refine sAn cdm0_42 rfl ?_
  refine sPr (by decide) cdm0_43 rfl rfl (by decide +kernel) (by decide +kernel) (by decide +kernel) rfl ?_
  exact sRet cdm0_46 rfl hq
set_option maxRecDepth 100000 in
theorem ccK10_171 {D : Nat} {E : oEnv} {mi : mMi} {Q : mOut → mH → Prop} (hE : oOk E) (z : ccZr mi) (hq : Q (.inl none) (hc E 185 216 mi 10358)) : WP (D + 1) 10 0 (mEntry 10 [mR 0 10 0, mR 1 0 0, mR 2 2 0]) [] (hc E 171 199 mi 9550) Q := by
  refine sAn cdm10_0 rfl ?_
  refine sObj cdm10_1 rfl rfl ?_
  refine sAn cdm10_4 rfl ?_
  refine sNew (f := 0) (i := 10) (j := 1) hE cdm10_5 rfl rfl rfl (by decide +kernel) (by decide) rfl (by decide +kernel) (fun p _ => z _ _ _ p (by omega) (by omega)) ?_
  refine sDup cdm10_8 ?_
  refine sCall0 cdm10_9 rfl rfl rfl rfl rfl (fun Q₂ h₂ => ccK49_172 hE z h₂) ?_
  refine sPr (by decide) cdm10_12 rfl rfl (by decide +kernel) (by decide +kernel) (by decide +kernel) rfl ?_
  refine sAn cdm10_15 rfl ?_
  refine sNew (f := 0) (i := 10) (j := 7) hE cdm10_16 rfl rfl rfl (by decide +kernel) (by decide) rfl (by decide +kernel) (fun p _ => z _ _ _ p (by omega) (by omega)) ?_
  refine sDup cdm10_19 ?_
  refine sCall0 cdm10_20 rfl rfl rfl rfl rfl (fun Q₂ h₂ => ccK42_178 hE z h₂) ?_
  refine sPr (by decide) cdm10_23 rfl rfl (by decide +kernel) (by decide +kernel) (by decide +kernel) rfl ?_
  refine sAn cdm10_26 rfl ?_
  refine sIc (x := N 0) cdm10_27 (by decide) ?_
  refine sPz (by decide) cdm10_28 rfl rfl (by decide +kernel) (by decide +kernel) (z _ _ _ _ (by omega) (by omega)) ?_
  refine sAn cdm10_31 rfl ?_
  refine sIc (x := N 0) cdm10_32 (by decide) ?_
  refine sPz (by decide) cdm10_33 rfl rfl (by decide +kernel) (by decide +kernel) (z _ _ _ _ (by omega) (by omega)) ?_
  refine sAn cdm10_36 rfl ?_
  refine sAn cdm10_37 rfl ?_
  refine sPr (by decide) cdm10_38 rfl rfl (by decide +kernel) (by decide +kernel) (by decide +kernel) rfl ?_
  refine sAn cdm10_41 rfl ?_
  refine sAn cdm10_42 rfl ?_
  refine sPr (by decide) cdm10_43 rfl rfl (by decide +kernel) (by decide +kernel) (by decide +kernel) rfl ?_
  refine sAn cdm10_46 rfl ?_
  refine sNew (f := 0) (i := 10) (j := 10) hE cdm10_47 rfl rfl rfl (by decide +kernel) (by decide) rfl (by decide +kernel) (fun p _ => z _ _ _ p (by omega) (by omega)) ?_
  refine sDup cdm10_50 ?_
  refine sAn cdm10_51 rfl ?_
  refine sCall1 cdm10_52 rfl rfl rfl rfl rfl (fun Q₂ h₂ => ccK0_181 hE z h₂) ?_
  refine sPr (by decide) cdm10_55 rfl rfl (by decide +kernel) (by decide +kernel) (by decide +kernel) rfl ?_
  exact sRet cdm10_58 rfl hq
set_option maxRecDepth 100000 in
theorem ccK59_64 {D : Nat} {E : oEnv} {mi : mMi} {Q : mOut → mH → Prop} (hE : oOk E) (z : ccZr mi) (hq : Q (.inl none) (hc E 185 217 mi 10358)) : WP (D + 2) 59 0 (mEntry 59 [mR 2 5 0, mR 1 0 0, mR 2 2 0]) [] (hc E 64 72 mi 3830) Q := by
  refine sAn cdm59_0 rfl ?_
  refine sObj cdm59_1 rfl rfl ?_
  refine sAn cdm59_4 rfl ?_
  refine sBp (x := N 8) cdm59_5 (by decide) ?_
  refine sAnw (f := 2) (i := 5) (j := 1) hE cdm59_7 rfl (by decide +kernel) (by decide) rfl (by decide +kernel) (by omega) (by decide +kernel) ?_
  refine sPr (by decide) cdm59_10 rfl rfl (by decide +kernel) (by decide +kernel) (by decide +kernel) rfl ?_
  refine sAn cdm59_13 rfl ?_
  refine sIc (x := N 0) cdm59_14 (by decide) ?_
  refine sPz (by decide) cdm59_15 rfl rfl (by decide +kernel) (by decide +kernel) (z _ _ _ _ (by omega) (by omega)) ?_
  refine sAn cdm59_18 rfl ?_
  refine sIc (x := N 0) cdm59_19 (by decide) ?_
  refine sPz (by decide) cdm59_20 rfl rfl (by decide +kernel) (by decide +kernel) (z _ _ _ _ (by omega) (by omega)) ?_
  refine sIc (x := N 0) cdm59_23 (by decide) ?_
  refine sSn cdm59_24 rfl ?_
  refine sIn cdm59_25 rfl ?_
  refine sBp (x := N 8) cdm59_26 (by decide) ?_
  refine sGeF cdm59_28 rfl (by decide) ?_
  refine sAn cdm59_31 rfl ?_
  refine sGf (f₂ := 2) (i₂ := 5) (j₂ := 1) (by decide) cdm59_32 rfl rfl (by decide +kernel) (by decide +kernel) rfl ?_
  refine sIn cdm59_35 rfl ?_
  refine sNew (f := 0) (i := 3) (j := 0) hE cdm59_36 rfl rfl rfl (by decide +kernel) (by decide) rfl (by decide +kernel) (fun p _ => z _ _ _ p (by omega) (by omega)) ?_
  refine sDup cdm59_39 ?_
  refine sAn cdm59_40 rfl ?_
  refine sAn cdm59_41 rfl ?_
  refine sCall2 cdm59_42 rfl rfl rfl rfl rfl (fun Q₂ h₂ => ccK10_66 hE z h₂) ?_
  refine sAst (by decide) cdm59_45 (n := 8) rfl (by decide +kernel) (by omega) rfl (by decide +kernel) (by decide +kernel) rfl ?_
  refine sInc (y := N 1) cdm59_46 rfl rfl (by decide) ?_
  refine sGo cdm59_49 rfl ?_
  refine sIn cdm59_25 rfl ?_
  refine sBp (x := N 8) cdm59_26 (by decide) ?_
  refine sGeF cdm59_28 rfl (by decide) ?_
  refine sAn cdm59_31 rfl ?_
  refine sGf (f₂ := 2) (i₂ := 5) (j₂ := 1) (by decide) cdm59_32 rfl rfl (by decide +kernel) (by decide +kernel) rfl ?_
  refine sIn cdm59_35 rfl ?_
  refine sNew (f := 0) (i := 4) (j := 0) hE cdm59_36 rfl rfl rfl (by decide +kernel) (by decide) rfl (by decide +kernel) (fun p _ => z _ _ _ p (by omega) (by omega)) ?_
  refine sDup cdm59_39 ?_
  refine sAn cdm59_40 rfl ?_
  refine sAn cdm59_41 rfl ?_
  refine sCall2 cdm59_42 rfl rfl rfl rfl rfl (fun Q₂ h₂ => ccK10_81 hE z h₂) ?_
  refine sAst (by decide) cdm59_45 (n := 8) rfl (by decide +kernel) (by omega) rfl (by decide +kernel) (by decide +kernel) rfl ?_
  refine sInc (y := N 2) cdm59_46 rfl rfl (by decide) ?_
  refine sGo cdm59_49 rfl ?_
  refine sIn cdm59_25 rfl ?_
  refine sBp (x := N 8) cdm59_26 (by decide) ?_
  refine sGeF cdm59_28 rfl (by decide) ?_
  refine sAn cdm59_31 rfl ?_
  refine sGf (f₂ := 2) (i₂ := 5) (j₂ := 1) (by decide) cdm59_32 rfl rfl (by decide +kernel) (by decide +kernel) rfl ?_
  refine sIn cdm59_35 rfl ?_
  refine sNew (f := 0) (i := 5) (j := 0) hE cdm59_36 rfl rfl rfl (by decide +kernel) (by decide) rfl (by decide +kernel) (fun p _ => z _ _ _ p (by omega) (by omega)) ?_
  refine sDup cdm59_39 ?_
  refine sAn cdm59_40 rfl ?_
  refine sAn cdm59_41 rfl ?_
  refine sCall2 cdm59_42 rfl rfl rfl rfl rfl (fun Q₂ h₂ => ccK10_96 hE z h₂) ?_
  refine sAst (by decide) cdm59_45 (n := 8) rfl (by decide +kernel) (by omega) rfl (by decide +kernel) (by decide +kernel) rfl ?_
  refine sInc (y := N 3) cdm59_46 rfl rfl (by decide) ?_
  refine sGo cdm59_49 rfl ?_
  refine sIn cdm59_25 rfl ?_
  refine sBp (x := N 8) cdm59_26 (by decide) ?_
  refine sGeF cdm59_28 rfl (by decide) ?_
  refine sAn cdm59_31 rfl ?_
  refine sGf (f₂ := 2) (i₂ := 5) (j₂ := 1) (by decide) cdm59_32 rfl rfl (by decide +kernel) (by decide +kernel) rfl ?_
  refine sIn cdm59_35 rfl ?_
  refine sNew (f := 0) (i := 6) (j := 0) hE cdm59_36 rfl rfl rfl (by decide +kernel) (by decide) rfl (by decide +kernel) (fun p _ => z _ _ _ p (by omega) (by omega)) ?_
  refine sDup cdm59_39 ?_
  refine sAn cdm59_40 rfl ?_
  refine sAn cdm59_41 rfl ?_
  refine sCall2 cdm59_42 rfl rfl rfl rfl rfl (fun Q₂ h₂ => ccK10_111 hE z h₂) ?_
  refine sAst (by decide) cdm59_45 (n := 8) rfl (by decide +kernel) (by omega) rfl (by decide +kernel) (by decide +kernel) rfl ?_
  refine sInc (y := N 4) cdm59_46 rfl rfl (by decide) ?_
  refine sGo cdm59_49 rfl ?_
  refine sIn cdm59_25 rfl ?_
  refine sBp (x := N 8) cdm59_26 (by decide) ?_
  refine sGeF cdm59_28 rfl (by decide) ?_
  refine sAn cdm59_31 rfl ?_
  refine sGf (f₂ := 2) (i₂ := 5) (j₂ := 1) (by decide) cdm59_32 rfl rfl (by decide +kernel) (by decide +kernel) rfl ?_
  refine sIn cdm59_35 rfl ?_
  refine sNew (f := 0) (i := 7) (j := 0) hE cdm59_36 rfl rfl rfl (by decide +kernel) (by decide) rfl (by decide +kernel) (fun p _ => z _ _ _ p (by omega) (by omega)) ?_
  refine sDup cdm59_39 ?_
  refine sAn cdm59_40 rfl ?_
  refine sAn cdm59_41 rfl ?_
  refine sCall2 cdm59_42 rfl rfl rfl rfl rfl (fun Q₂ h₂ => ccK10_126 hE z h₂) ?_
  refine sAst (by decide) cdm59_45 (n := 8) rfl (by decide +kernel) (by omega) rfl (by decide +kernel) (by decide +kernel) rfl ?_
  refine sInc (y := N 5) cdm59_46 rfl rfl (by decide) ?_
  refine sGo cdm59_49 rfl ?_
  refine sIn cdm59_25 rfl ?_
  refine sBp (x := N 8) cdm59_26 (by decide) ?_
  refine sGeF cdm59_28 rfl (by decide) ?_
  refine sAn cdm59_31 rfl ?_
  refine sGf (f₂ := 2) (i₂ := 5) (j₂ := 1) (by decide) cdm59_32 rfl rfl (by decide +kernel) (by decide +kernel) rfl ?_
  refine sIn cdm59_35 rfl ?_
  refine sNew (f := 0) (i := 8) (j := 0) hE cdm59_36 rfl rfl rfl (by decide +kernel) (by decide) rfl (by decide +kernel) (fun p _ => z _ _ _ p (by omega) (by omega)) ?_
  refine sDup cdm59_39 ?_
  refine sAn cdm59_40 rfl ?_
  refine sAn cdm59_41 rfl ?_
  refine sCall2 cdm59_42 rfl rfl rfl rfl rfl (fun Q₂ h₂ => ccK10_141 hE z h₂) ?_
  refine sAst (by decide) cdm59_45 (n := 8) rfl (by decide +kernel) (by omega) rfl (by decide +kernel) (by decide +kernel) rfl ?_
  refine sInc (y := N 6) cdm59_46 rfl rfl (by decide) ?_
  refine sGo cdm59_49 rfl ?_
  refine sIn cdm59_25 rfl ?_
  refine sBp (x := N 8) cdm59_26 (by decide) ?_
  refine sGeF cdm59_28 rfl (by decide) ?_
  refine sAn cdm59_31 rfl ?_
  refine sGf (f₂ := 2) (i₂ := 5) (j₂ := 1) (by decide) cdm59_32 rfl rfl (by decide +kernel) (by decide +kernel) rfl ?_
  refine sIn cdm59_35 rfl ?_
  refine sNew (f := 0) (i := 9) (j := 0) hE cdm59_36 rfl rfl rfl (by decide +kernel) (by decide) rfl (by decide +kernel) (fun p _ => z _ _ _ p (by omega) (by omega)) ?_
  refine sDup cdm59_39 ?_
  refine sAn cdm59_40 rfl ?_
  refine sAn cdm59_41 rfl ?_
  refine sCall2 cdm59_42 rfl rfl rfl rfl rfl (fun Q₂ h₂ => ccK10_156 hE z h₂) ?_
  refine sAst (by decide) cdm59_45 (n := 8) rfl (by decide +kernel) (by omega) rfl (by decide +kernel) (by decide +kernel) rfl ?_
  refine sInc (y := N 7) cdm59_46 rfl rfl (by decide) ?_
  refine sGo cdm59_49 rfl ?_
  refine sIn cdm59_25 rfl ?_
  refine sBp (x := N 8) cdm59_26 (by decide) ?_
  refine sGeF cdm59_28 rfl (by decide) ?_
  refine sAn cdm59_31 rfl ?_
  refine sGf (f₂ := 2) (i₂ := 5) (j₂ := 1) (by decide) cdm59_32 rfl rfl (by decide +kernel) (by decide +kernel) rfl ?_
  refine sIn cdm59_35 rfl ?_
  refine sNew (f := 0) (i := 10) (j := 0) hE cdm59_36 rfl rfl rfl (by decide +kernel) (by decide) rfl (by decide +kernel) (fun p _ => z _ _ _ p (by omega) (by omega)) ?_
  refine sDup cdm59_39 ?_
  refine sAn cdm59_40 rfl ?_
  refine sAn cdm59_41 rfl ?_
  refine sCall2 cdm59_42 rfl rfl rfl rfl rfl (fun Q₂ h₂ => ccK10_171 hE z h₂) ?_
  refine sAst (by decide) cdm59_45 (n := 8) rfl (by decide +kernel) (by omega) rfl (by decide +kernel) (by decide +kernel) rfl ?_
  refine sInc (y := N 8) cdm59_46 rfl rfl (by decide) ?_
  refine sGo cdm59_49 rfl ?_
  refine sIn cdm59_25 rfl ?_
  refine sBp (x := N 8) cdm59_26 (by decide) ?_
  refine sGeT cdm59_28 rfl (by decide) ?_
  exact sRet cdm59_52 rfl hq
set_option maxRecDepth 100000 in
theorem ccK87_188 {D : Nat} {E : oEnv} {mi : mMi} {Q : mOut → mH → Prop} (hE : oOk E) (z : ccZr mi) (hq : Q (.inl none) (hc E 189 221 mi 10604)) : WP (D + 0) 87 0 (mEntry 87 [mR 2 7 0]) [] (hc E 188 220 mi 10364) Q := by
  refine sAn cdm87_0 rfl ?_
  refine sObj cdm87_1 rfl rfl ?_
  refine sAn cdm87_4 rfl ?_
  refine sSp (x := N 240) cdm87_5 (by decide) ?_
  refine sArr (f := 2) (i := 7) (j := 1) hE cdm87_8 (by decide +kernel) (by decide) rfl (by decide +kernel) (by omega) (fun p _ => z _ _ _ p (by omega) (by omega)) ?_
  refine sPr (by decide) cdm87_10 rfl rfl (by decide +kernel) (by decide +kernel) (by decide +kernel) rfl ?_
  refine sAn cdm87_13 rfl ?_
  refine sIc (x := N 0) cdm87_14 (by decide) ?_
  refine sPz (by decide) cdm87_15 rfl rfl (by decide +kernel) (by decide +kernel) (z _ _ _ _ (by omega) (by omega)) ?_
  exact sRet cdm87_18 rfl hq
set_option maxRecDepth 100000 in
theorem ccK49_191 {D : Nat} {E : oEnv} {mi : mMi} {Q : mOut → mH → Prop} (hE : oOk E) (z : ccZr mi) (hq : Q (.inl none) (hc E 196 227 mi 11096)) : WP (D + 0) 49 0 (mEntry 49 [mR 0 11 1]) [] (hc E 191 222 mi 10616) Q := by
  refine sAn cdm49_0 rfl ?_
  refine sObj cdm49_1 rfl rfl ?_
  refine sAn cdm49_4 rfl ?_
  refine sBp (x := N 96) cdm49_5 (by decide) ?_
  refine sArr (f := 0) (i := 11) (j := 2) hE cdm49_7 (by decide +kernel) (by decide) rfl (by decide +kernel) (by omega) (fun p _ => z _ _ _ p (by omega) (by omega)) ?_
  refine sPr (by decide) cdm49_9 rfl rfl (by decide +kernel) (by decide +kernel) (by decide +kernel) rfl ?_
  refine sAn cdm49_12 rfl ?_
  refine sBp (x := N 96) cdm49_13 (by decide) ?_
  refine sArr (f := 0) (i := 11) (j := 3) hE cdm49_15 (by decide +kernel) (by decide) rfl (by decide +kernel) (by omega) (fun p _ => z _ _ _ p (by omega) (by omega)) ?_
  refine sPr (by decide) cdm49_17 rfl rfl (by decide +kernel) (by decide +kernel) (by decide +kernel) rfl ?_
  refine sAn cdm49_20 rfl ?_
  refine sBp (x := N 96) cdm49_21 (by decide) ?_
  refine sArr (f := 0) (i := 11) (j := 4) hE cdm49_23 (by decide +kernel) (by decide) rfl (by decide +kernel) (by omega) (fun p _ => z _ _ _ p (by omega) (by omega)) ?_
  refine sPr (by decide) cdm49_25 rfl rfl (by decide +kernel) (by decide +kernel) (by decide +kernel) rfl ?_
  refine sAn cdm49_28 rfl ?_
  refine sBp (x := N 96) cdm49_29 (by decide) ?_
  refine sArr (f := 0) (i := 11) (j := 5) hE cdm49_31 (by decide +kernel) (by decide) rfl (by decide +kernel) (by omega) (fun p _ => z _ _ _ p (by omega) (by omega)) ?_
  refine sPr (by decide) cdm49_33 rfl rfl (by decide +kernel) (by decide +kernel) (by decide +kernel) rfl ?_
  refine sAn cdm49_36 rfl ?_
  refine sBp (x := N 96) cdm49_37 (by decide) ?_
  refine sArr (f := 0) (i := 11) (j := 6) hE cdm49_39 (by decide +kernel) (by decide) rfl (by decide +kernel) (by omega) (fun p _ => z _ _ _ p (by omega) (by omega)) ?_
  refine sPr (by decide) cdm49_41 rfl rfl (by decide +kernel) (by decide +kernel) (by decide +kernel) rfl ?_
  exact sRet cdm49_44 rfl hq
set_option maxRecDepth 100000 in
theorem ccK42_197 {D : Nat} {E : oEnv} {mi : mMi} {Q : mOut → mH → Prop} (hE : oOk E) (z : ccZr mi) (hq : Q (.inl none) (hc E 199 230 mi 11253)) : WP (D + 0) 42 0 (mEntry 42 [mR 0 11 7]) [] (hc E 197 228 mi 11099) Q := by
  refine sAn cdm42_0 rfl ?_
  refine sObj cdm42_1 rfl rfl ?_
  refine sAn cdm42_4 rfl ?_
  refine sSp (x := N 150) cdm42_5 (by decide) ?_
  refine sArr (f := 0) (i := 11) (j := 8) hE cdm42_8 (by decide +kernel) (by decide) rfl (by decide +kernel) (by omega) (fun p _ => z _ _ _ p (by omega) (by omega)) ?_
  refine sPr (by decide) cdm42_10 rfl rfl (by decide +kernel) (by decide +kernel) (by decide +kernel) rfl ?_
  refine sAn cdm42_13 rfl ?_
  refine sIc (x := N 4) cdm42_14 (by decide) ?_
  refine sArr (f := 0) (i := 11) (j := 9) hE cdm42_15 (by decide +kernel) (by decide) rfl (by decide +kernel) (by omega) (fun p _ => z _ _ _ p (by omega) (by omega)) ?_
  refine sPr (by decide) cdm42_17 rfl rfl (by decide +kernel) (by decide +kernel) (by decide +kernel) rfl ?_
  refine sAn cdm42_20 rfl ?_
  refine sIc (x := N 0) cdm42_21 (by decide) ?_
  refine sPz (by decide) cdm42_22 rfl rfl (by decide +kernel) (by decide +kernel) (z _ _ _ _ (by omega) (by omega)) ?_
  exact sRet cdm42_25 rfl hq
set_option maxRecDepth 100000 in
theorem ccK0_200 {D : Nat} {E : oEnv} {mi : mMi} {Q : mOut → mH → Prop} (hE : oOk E) (z : ccZr mi) (hq : Q (.inl none) (hc E 204 238 mi 11419)) : WP (D + 0) 0 0 (mEntry 0 [mR 0 11 10, mR 1 0 0]) [] (hc E 200 233 mi 11259) Q := by
  refine sAn cdm0_0 rfl ?_
  refine sObj cdm0_1 rfl rfl ?_
  refine sAn cdm0_4 rfl ?_
  refine sBp (x := N 40) cdm0_5 (by decide) ?_
  refine sArr (f := 0) (i := 11) (j := 11) hE cdm0_7 (by decide +kernel) (by decide) rfl (by decide +kernel) (by omega) (fun p _ => z _ _ _ p (by omega) (by omega)) ?_
  refine sPr (by decide) cdm0_9 rfl rfl (by decide +kernel) (by decide +kernel) (by decide +kernel) rfl ?_
  refine sAn cdm0_12 rfl ?_
  refine sBp (x := N 40) cdm0_13 (by decide) ?_
  refine sArr (f := 0) (i := 11) (j := 12) hE cdm0_15 (by decide +kernel) (by decide) rfl (by decide +kernel) (by omega) (fun p _ => z _ _ _ p (by omega) (by omega)) ?_
  refine sPr (by decide) cdm0_17 rfl rfl (by decide +kernel) (by decide +kernel) (by decide +kernel) rfl ?_
  refine sAn cdm0_20 rfl ?_
  refine sBp (x := N 40) cdm0_21 (by decide) ?_
  refine sArr (f := 0) (i := 11) (j := 13) hE cdm0_23 (by decide +kernel) (by decide) rfl (by decide +kernel) (by omega) (fun p _ => z _ _ _ p (by omega) (by omega)) ?_
  refine sPr (by decide) cdm0_25 rfl rfl (by decide +kernel) (by decide +kernel) (by decide +kernel) rfl ?_
  refine sAn cdm0_28 rfl ?_
  refine sBp (x := N 40) cdm0_29 (by decide) ?_
  refine sArr (f := 0) (i := 11) (j := 14) hE cdm0_31 (by decide +kernel) (by decide) rfl (by decide +kernel) (by omega) (fun p _ => z _ _ _ p (by omega) (by omega)) ?_
  refine sPr (by decide) cdm0_33 rfl rfl (by decide +kernel) (by decide +kernel) (by decide +kernel) rfl ?_
  refine sAn cdm0_36 rfl ?_
  refine sIc (x := N 0) cdm0_37 (by decide) ?_
  refine sPz (by decide) cdm0_38 rfl rfl (by decide +kernel) (by decide +kernel) (z _ _ _ _ (by omega) (by omega)) ?_
  refine sAn cdm0_41 rfl ?_
  refine sAn cdm0_42 rfl ?_
  refine sPr (by decide) cdm0_43 rfl rfl (by decide +kernel) (by decide +kernel) (by decide +kernel) rfl ?_
  exact sRet cdm0_46 rfl hq
set_option maxRecDepth 100000 in
theorem ccK10_190 {D : Nat} {E : oEnv} {mi : mMi} {Q : mOut → mH → Prop} (hE : oOk E) (z : ccZr mi) (hq : Q (.inl none) (hc E 204 239 mi 11419)) : WP (D + 1) 10 0 (mEntry 10 [mR 0 11 0, mR 1 0 0, mR 2 2 0]) [] (hc E 190 222 mi 10611) Q := by
  refine sAn cdm10_0 rfl ?_
  refine sObj cdm10_1 rfl rfl ?_
  refine sAn cdm10_4 rfl ?_
  refine sNew (f := 0) (i := 11) (j := 1) hE cdm10_5 rfl rfl rfl (by decide +kernel) (by decide) rfl (by decide +kernel) (fun p _ => z _ _ _ p (by omega) (by omega)) ?_
  refine sDup cdm10_8 ?_
  refine sCall0 cdm10_9 rfl rfl rfl rfl rfl (fun Q₂ h₂ => ccK49_191 hE z h₂) ?_
  refine sPr (by decide) cdm10_12 rfl rfl (by decide +kernel) (by decide +kernel) (by decide +kernel) rfl ?_
  refine sAn cdm10_15 rfl ?_
  refine sNew (f := 0) (i := 11) (j := 7) hE cdm10_16 rfl rfl rfl (by decide +kernel) (by decide) rfl (by decide +kernel) (fun p _ => z _ _ _ p (by omega) (by omega)) ?_
  refine sDup cdm10_19 ?_
  refine sCall0 cdm10_20 rfl rfl rfl rfl rfl (fun Q₂ h₂ => ccK42_197 hE z h₂) ?_
  refine sPr (by decide) cdm10_23 rfl rfl (by decide +kernel) (by decide +kernel) (by decide +kernel) rfl ?_
  refine sAn cdm10_26 rfl ?_
  refine sIc (x := N 0) cdm10_27 (by decide) ?_
  refine sPz (by decide) cdm10_28 rfl rfl (by decide +kernel) (by decide +kernel) (z _ _ _ _ (by omega) (by omega)) ?_
  refine sAn cdm10_31 rfl ?_
  refine sIc (x := N 0) cdm10_32 (by decide) ?_
  refine sPz (by decide) cdm10_33 rfl rfl (by decide +kernel) (by decide +kernel) (z _ _ _ _ (by omega) (by omega)) ?_
  refine sAn cdm10_36 rfl ?_
  refine sAn cdm10_37 rfl ?_
  refine sPr (by decide) cdm10_38 rfl rfl (by decide +kernel) (by decide +kernel) (by decide +kernel) rfl ?_
  refine sAn cdm10_41 rfl ?_
  refine sAn cdm10_42 rfl ?_
  refine sPr (by decide) cdm10_43 rfl rfl (by decide +kernel) (by decide +kernel) (by decide +kernel) rfl ?_
  refine sAn cdm10_46 rfl ?_
  refine sNew (f := 0) (i := 11) (j := 10) hE cdm10_47 rfl rfl rfl (by decide +kernel) (by decide) rfl (by decide +kernel) (fun p _ => z _ _ _ p (by omega) (by omega)) ?_
  refine sDup cdm10_50 ?_
  refine sAn cdm10_51 rfl ?_
  refine sCall1 cdm10_52 rfl rfl rfl rfl rfl (fun Q₂ h₂ => ccK0_200 hE z h₂) ?_
  refine sPr (by decide) cdm10_55 rfl rfl (by decide +kernel) (by decide +kernel) (by decide +kernel) rfl ?_
  exact sRet cdm10_58 rfl hq
set_option maxRecDepth 100000 in
theorem ccK49_206 {D : Nat} {E : oEnv} {mi : mMi} {Q : mOut → mH → Prop} (hE : oOk E) (z : ccZr mi) (hq : Q (.inl none) (hc E 211 245 mi 11911)) : WP (D + 0) 49 0 (mEntry 49 [mR 0 12 1]) [] (hc E 206 240 mi 11431) Q := by
  refine sAn cdm49_0 rfl ?_
  refine sObj cdm49_1 rfl rfl ?_
  refine sAn cdm49_4 rfl ?_
  refine sBp (x := N 96) cdm49_5 (by decide) ?_
  refine sArr (f := 0) (i := 12) (j := 2) hE cdm49_7 (by decide +kernel) (by decide) rfl (by decide +kernel) (by omega) (fun p _ => z _ _ _ p (by omega) (by omega)) ?_
  refine sPr (by decide) cdm49_9 rfl rfl (by decide +kernel) (by decide +kernel) (by decide +kernel) rfl ?_
  refine sAn cdm49_12 rfl ?_
  refine sBp (x := N 96) cdm49_13 (by decide) ?_
  refine sArr (f := 0) (i := 12) (j := 3) hE cdm49_15 (by decide +kernel) (by decide) rfl (by decide +kernel) (by omega) (fun p _ => z _ _ _ p (by omega) (by omega)) ?_
  refine sPr (by decide) cdm49_17 rfl rfl (by decide +kernel) (by decide +kernel) (by decide +kernel) rfl ?_
  refine sAn cdm49_20 rfl ?_
  refine sBp (x := N 96) cdm49_21 (by decide) ?_
  refine sArr (f := 0) (i := 12) (j := 4) hE cdm49_23 (by decide +kernel) (by decide) rfl (by decide +kernel) (by omega) (fun p _ => z _ _ _ p (by omega) (by omega)) ?_
  refine sPr (by decide) cdm49_25 rfl rfl (by decide +kernel) (by decide +kernel) (by decide +kernel) rfl ?_
  refine sAn cdm49_28 rfl ?_
  refine sBp (x := N 96) cdm49_29 (by decide) ?_
  refine sArr (f := 0) (i := 12) (j := 5) hE cdm49_31 (by decide +kernel) (by decide) rfl (by decide +kernel) (by omega) (fun p _ => z _ _ _ p (by omega) (by omega)) ?_
  refine sPr (by decide) cdm49_33 rfl rfl (by decide +kernel) (by decide +kernel) (by decide +kernel) rfl ?_
  refine sAn cdm49_36 rfl ?_
  refine sBp (x := N 96) cdm49_37 (by decide) ?_
  refine sArr (f := 0) (i := 12) (j := 6) hE cdm49_39 (by decide +kernel) (by decide) rfl (by decide +kernel) (by omega) (fun p _ => z _ _ _ p (by omega) (by omega)) ?_
  refine sPr (by decide) cdm49_41 rfl rfl (by decide +kernel) (by decide +kernel) (by decide +kernel) rfl ?_
  exact sRet cdm49_44 rfl hq
set_option maxRecDepth 100000 in
theorem ccK42_212 {D : Nat} {E : oEnv} {mi : mMi} {Q : mOut → mH → Prop} (hE : oOk E) (z : ccZr mi) (hq : Q (.inl none) (hc E 214 248 mi 12068)) : WP (D + 0) 42 0 (mEntry 42 [mR 0 12 7]) [] (hc E 212 246 mi 11914) Q := by
  refine sAn cdm42_0 rfl ?_
  refine sObj cdm42_1 rfl rfl ?_
  refine sAn cdm42_4 rfl ?_
  refine sSp (x := N 150) cdm42_5 (by decide) ?_
  refine sArr (f := 0) (i := 12) (j := 8) hE cdm42_8 (by decide +kernel) (by decide) rfl (by decide +kernel) (by omega) (fun p _ => z _ _ _ p (by omega) (by omega)) ?_
  refine sPr (by decide) cdm42_10 rfl rfl (by decide +kernel) (by decide +kernel) (by decide +kernel) rfl ?_
  refine sAn cdm42_13 rfl ?_
  refine sIc (x := N 4) cdm42_14 (by decide) ?_
  refine sArr (f := 0) (i := 12) (j := 9) hE cdm42_15 (by decide +kernel) (by decide) rfl (by decide +kernel) (by omega) (fun p _ => z _ _ _ p (by omega) (by omega)) ?_
  refine sPr (by decide) cdm42_17 rfl rfl (by decide +kernel) (by decide +kernel) (by decide +kernel) rfl ?_
  refine sAn cdm42_20 rfl ?_
  refine sIc (x := N 0) cdm42_21 (by decide) ?_
  refine sPz (by decide) cdm42_22 rfl rfl (by decide +kernel) (by decide +kernel) (z _ _ _ _ (by omega) (by omega)) ?_
  exact sRet cdm42_25 rfl hq
set_option maxRecDepth 100000 in
theorem ccK0_215 {D : Nat} {E : oEnv} {mi : mMi} {Q : mOut → mH → Prop} (hE : oOk E) (z : ccZr mi) (hq : Q (.inl none) (hc E 219 256 mi 12234)) : WP (D + 0) 0 0 (mEntry 0 [mR 0 12 10, mR 1 0 0]) [] (hc E 215 251 mi 12074) Q := by
  refine sAn cdm0_0 rfl ?_
  refine sObj cdm0_1 rfl rfl ?_
  refine sAn cdm0_4 rfl ?_
  refine sBp (x := N 40) cdm0_5 (by decide) ?_
  refine sArr (f := 0) (i := 12) (j := 11) hE cdm0_7 (by decide +kernel) (by decide) rfl (by decide +kernel) (by omega) (fun p _ => z _ _ _ p (by omega) (by omega)) ?_
  refine sPr (by decide) cdm0_9 rfl rfl (by decide +kernel) (by decide +kernel) (by decide +kernel) rfl ?_
  refine sAn cdm0_12 rfl ?_
  refine sBp (x := N 40) cdm0_13 (by decide) ?_
  refine sArr (f := 0) (i := 12) (j := 12) hE cdm0_15 (by decide +kernel) (by decide) rfl (by decide +kernel) (by omega) (fun p _ => z _ _ _ p (by omega) (by omega)) ?_
  refine sPr (by decide) cdm0_17 rfl rfl (by decide +kernel) (by decide +kernel) (by decide +kernel) rfl ?_
  refine sAn cdm0_20 rfl ?_
  refine sBp (x := N 40) cdm0_21 (by decide) ?_
  refine sArr (f := 0) (i := 12) (j := 13) hE cdm0_23 (by decide +kernel) (by decide) rfl (by decide +kernel) (by omega) (fun p _ => z _ _ _ p (by omega) (by omega)) ?_
  refine sPr (by decide) cdm0_25 rfl rfl (by decide +kernel) (by decide +kernel) (by decide +kernel) rfl ?_
  refine sAn cdm0_28 rfl ?_
  refine sBp (x := N 40) cdm0_29 (by decide) ?_
  refine sArr (f := 0) (i := 12) (j := 14) hE cdm0_31 (by decide +kernel) (by decide) rfl (by decide +kernel) (by omega) (fun p _ => z _ _ _ p (by omega) (by omega)) ?_
  refine sPr (by decide) cdm0_33 rfl rfl (by decide +kernel) (by decide +kernel) (by decide +kernel) rfl ?_
  refine sAn cdm0_36 rfl ?_
  refine sIc (x := N 0) cdm0_37 (by decide) ?_
  refine sPz (by decide) cdm0_38 rfl rfl (by decide +kernel) (by decide +kernel) (z _ _ _ _ (by omega) (by omega)) ?_
  refine sAn cdm0_41 rfl ?_
  refine sAn cdm0_42 rfl ?_
  refine sPr (by decide) cdm0_43 rfl rfl (by decide +kernel) (by decide +kernel) (by decide +kernel) rfl ?_
  exact sRet cdm0_46 rfl hq
set_option maxRecDepth 100000 in
theorem ccK10_205 {D : Nat} {E : oEnv} {mi : mMi} {Q : mOut → mH → Prop} (hE : oOk E) (z : ccZr mi) (hq : Q (.inl none) (hc E 219 257 mi 12234)) : WP (D + 1) 10 0 (mEntry 10 [mR 0 12 0, mR 1 0 0, mR 2 2 0]) [] (hc E 205 240 mi 11426) Q := by
  refine sAn cdm10_0 rfl ?_
  refine sObj cdm10_1 rfl rfl ?_
  refine sAn cdm10_4 rfl ?_
  refine sNew (f := 0) (i := 12) (j := 1) hE cdm10_5 rfl rfl rfl (by decide +kernel) (by decide) rfl (by decide +kernel) (fun p _ => z _ _ _ p (by omega) (by omega)) ?_
  refine sDup cdm10_8 ?_
  refine sCall0 cdm10_9 rfl rfl rfl rfl rfl (fun Q₂ h₂ => ccK49_206 hE z h₂) ?_
  refine sPr (by decide) cdm10_12 rfl rfl (by decide +kernel) (by decide +kernel) (by decide +kernel) rfl ?_
  refine sAn cdm10_15 rfl ?_
  refine sNew (f := 0) (i := 12) (j := 7) hE cdm10_16 rfl rfl rfl (by decide +kernel) (by decide) rfl (by decide +kernel) (fun p _ => z _ _ _ p (by omega) (by omega)) ?_
  refine sDup cdm10_19 ?_
  refine sCall0 cdm10_20 rfl rfl rfl rfl rfl (fun Q₂ h₂ => ccK42_212 hE z h₂) ?_
  refine sPr (by decide) cdm10_23 rfl rfl (by decide +kernel) (by decide +kernel) (by decide +kernel) rfl ?_
  refine sAn cdm10_26 rfl ?_
  refine sIc (x := N 0) cdm10_27 (by decide) ?_
  refine sPz (by decide) cdm10_28 rfl rfl (by decide +kernel) (by decide +kernel) (z _ _ _ _ (by omega) (by omega)) ?_
  refine sAn cdm10_31 rfl ?_
  refine sIc (x := N 0) cdm10_32 (by decide) ?_
  refine sPz (by decide) cdm10_33 rfl rfl (by decide +kernel) (by decide +kernel) (z _ _ _ _ (by omega) (by omega)) ?_
  refine sAn cdm10_36 rfl ?_
  refine sAn cdm10_37 rfl ?_
  refine sPr (by decide) cdm10_38 rfl rfl (by decide +kernel) (by decide +kernel) (by decide +kernel) rfl ?_
  refine sAn cdm10_41 rfl ?_
  refine sAn cdm10_42 rfl ?_
  refine sPr (by decide) cdm10_43 rfl rfl (by decide +kernel) (by decide +kernel) (by decide +kernel) rfl ?_
  refine sAn cdm10_46 rfl ?_
  refine sNew (f := 0) (i := 12) (j := 10) hE cdm10_47 rfl rfl rfl (by decide +kernel) (by decide) rfl (by decide +kernel) (fun p _ => z _ _ _ p (by omega) (by omega)) ?_
  refine sDup cdm10_50 ?_
  refine sAn cdm10_51 rfl ?_
  refine sCall1 cdm10_52 rfl rfl rfl rfl rfl (fun Q₂ h₂ => ccK0_215 hE z h₂) ?_
  refine sPr (by decide) cdm10_55 rfl rfl (by decide +kernel) (by decide +kernel) (by decide +kernel) rfl ?_
  exact sRet cdm10_58 rfl hq
set_option maxRecDepth 100000 in
theorem ccK98_1 {D : Nat} {E : oEnv} {mi : mMi} {Q : mOut → mH → Prop} (hE : oOk E) (z : ccZr mi) (u₁ : mi 2 3 0 4 = 0) (hq : Q (.inl none) (hc E 219 258 (mset mi 2 3 0 4 (I (-1))) 12234)) : WP (D + 3) 98 0 (mEntry 98 [mR 2 0 0]) [] (hc E 1 0 mi 11) Q := by
  refine sAn cdm98_0 rfl ?_
  refine sObj cdm98_1 rfl rfl ?_
  refine sAn cdm98_4 rfl ?_
  refine sNew (f := 2) (i := 1) (j := 0) hE cdm98_5 rfl rfl rfl (by decide +kernel) (by decide) rfl (by decide +kernel) (fun p _ => z _ _ _ p (by omega) (by omega)) ?_
  refine sDup cdm98_8 ?_
  refine sCall0 cdm98_9 rfl rfl rfl rfl rfl (fun Q₂ h₂ => ccK62_2 hE z h₂) ?_
  refine sPr (by decide) cdm98_12 rfl rfl (by decide +kernel) (by decide +kernel) (by decide +kernel) rfl ?_
  refine sAn cdm98_15 rfl ?_
  refine sNew (f := 1) (i := 0) (j := 0) hE cdm98_16 rfl rfl rfl (by decide +kernel) (by decide) rfl (by decide +kernel) (fun p _ => z _ _ _ p (by omega) (by omega)) ?_
  refine sDup cdm98_19 ?_
  refine sCall0 cdm98_20 rfl rfl rfl rfl rfl (fun Q₂ h₂ => ccK77_4 hE z h₂) ?_
  refine sPr (by decide) cdm98_23 rfl rfl (by decide +kernel) (by decide +kernel) (by decide +kernel) rfl ?_
  refine sAn cdm98_26 rfl ?_
  refine sNew (f := 2) (i := 2) (j := 0) hE cdm98_27 rfl rfl rfl (by decide +kernel) (by decide) rfl (by decide +kernel) (fun p _ => z _ _ _ p (by omega) (by omega)) ?_
  refine sDup cdm98_30 ?_
  refine sCall0 cdm98_31 rfl rfl rfl rfl rfl (fun Q₂ h₂ => ccK84_9 hE z h₂) ?_
  refine sPr (by decide) cdm98_34 rfl rfl (by decide +kernel) (by decide +kernel) (by decide +kernel) rfl ?_
  refine sAn cdm98_37 rfl ?_
  refine sNew (f := 2) (i := 3) (j := 0) hE cdm98_38 rfl rfl rfl (by decide +kernel) (by decide) rfl (by decide +kernel) (fun p _ => by
    by_cases h₁ : p = 4
    · subst h₁
      exact u₁
    · exact z _ _ _ p (by omega) (by omega)) ?_
  refine sDup cdm98_41 ?_
  refine sAn cdm98_42 rfl ?_
  refine sGf (f₂ := 2) (i₂ := 1) (j₂ := 0) (by decide) cdm98_43 rfl rfl (by decide +kernel) (by decide +kernel) rfl ?_
  refine sAn cdm98_46 rfl ?_
  refine sGf (f₂ := 2) (i₂ := 2) (j₂ := 0) (by decide) cdm98_47 rfl rfl (by decide +kernel) (by decide +kernel) rfl ?_
  refine sCall2 cdm98_50 rfl rfl rfl rfl rfl (fun Q₂ h₂ => ccK66_12 hE z h₂) ?_
  have z := ccZr_n0 (v := I (-1)) z
  refine sPr (by decide) cdm98_53 rfl rfl (by decide +kernel) (by decide +kernel) (by decide +kernel) rfl ?_
  refine sAn cdm98_56 rfl ?_
  refine sNew (f := 0) (i := 0) (j := 0) hE cdm98_57 rfl rfl rfl (by decide +kernel) (by decide) rfl (by decide +kernel) (fun p _ => z _ _ _ p (by omega) (by omega)) ?_
  refine sDup cdm98_60 ?_
  refine sAn cdm98_61 rfl ?_
  refine sGf (f₂ := 1) (i₂ := 0) (j₂ := 0) (by decide) cdm98_62 rfl rfl (by decide +kernel) (by decide +kernel) rfl ?_
  refine sAn cdm98_65 rfl ?_
  refine sGf (f₂ := 2) (i₂ := 2) (j₂ := 0) (by decide) cdm98_66 rfl rfl (by decide +kernel) (by decide +kernel) rfl ?_
  refine sCall2 cdm98_69 rfl rfl rfl rfl rfl (fun Q₂ h₂ => ccK10_34 hE z h₂) ?_
  refine sPr (by decide) cdm98_72 rfl rfl (by decide +kernel) (by decide +kernel) (by decide +kernel) rfl ?_
  refine sAn cdm98_75 rfl ?_
  refine sNew (f := 0) (i := 1) (j := 0) hE cdm98_76 rfl rfl rfl (by decide +kernel) (by decide) rfl (by decide +kernel) (fun p _ => z _ _ _ p (by omega) (by omega)) ?_
  refine sDup cdm98_79 ?_
  refine sAn cdm98_80 rfl ?_
  refine sGf (f₂ := 1) (i₂ := 0) (j₂ := 0) (by decide) cdm98_81 rfl rfl (by decide +kernel) (by decide +kernel) rfl ?_
  refine sAn cdm98_84 rfl ?_
  refine sGf (f₂ := 2) (i₂ := 2) (j₂ := 0) (by decide) cdm98_85 rfl rfl (by decide +kernel) (by decide +kernel) rfl ?_
  refine sCall2 cdm98_88 rfl rfl rfl rfl rfl (fun Q₂ h₂ => ccK10_49 hE z h₂) ?_
  refine sPr (by decide) cdm98_91 rfl rfl (by decide +kernel) (by decide +kernel) (by decide +kernel) rfl ?_
  refine sAn cdm98_94 rfl ?_
  refine sNew (f := 2) (i := 5) (j := 0) hE cdm98_95 rfl rfl rfl (by decide +kernel) (by decide) rfl (by decide +kernel) (fun p _ => z _ _ _ p (by omega) (by omega)) ?_
  refine sDup cdm98_98 ?_
  refine sAn cdm98_99 rfl ?_
  refine sGf (f₂ := 1) (i₂ := 0) (j₂ := 0) (by decide) cdm98_100 rfl rfl (by decide +kernel) (by decide +kernel) rfl ?_
  refine sAn cdm98_103 rfl ?_
  refine sGf (f₂ := 2) (i₂ := 2) (j₂ := 0) (by decide) cdm98_104 rfl rfl (by decide +kernel) (by decide +kernel) rfl ?_
  refine sCall2 cdm98_107 rfl rfl rfl rfl rfl (fun Q₂ h₂ => ccK59_64 hE z h₂) ?_
  refine sPr (by decide) cdm98_110 rfl rfl (by decide +kernel) (by decide +kernel) (by decide +kernel) rfl ?_
  refine sAn cdm98_113 rfl ?_
  refine sIc (x := N 2) cdm98_114 (by decide) ?_
  refine sAnw (f := 2) (i := 6) (j := 0) hE cdm98_115 rfl (by decide +kernel) (by decide) rfl (by decide +kernel) (by omega) (by decide +kernel) ?_
  refine sPr (by decide) cdm98_118 rfl rfl (by decide +kernel) (by decide +kernel) (by decide +kernel) rfl ?_
  refine sAn cdm98_121 rfl ?_
  refine sIc (x := N 2) cdm98_122 (by decide) ?_
  refine sArr (f := 2) (i := 6) (j := 1) hE cdm98_123 (by decide +kernel) (by decide) rfl (by decide +kernel) (by omega) (fun p _ => z _ _ _ p (by omega) (by omega)) ?_
  refine sPr (by decide) cdm98_125 rfl rfl (by decide +kernel) (by decide +kernel) (by decide +kernel) rfl ?_
  refine sAn cdm98_128 rfl ?_
  refine sNew (f := 2) (i := 7) (j := 0) hE cdm98_129 rfl rfl rfl (by decide +kernel) (by decide) rfl (by decide +kernel) (fun p _ => z _ _ _ p (by omega) (by omega)) ?_
  refine sDup cdm98_132 ?_
  refine sCall0 cdm98_133 rfl rfl rfl rfl rfl (fun Q₂ h₂ => ccK87_188 hE z h₂) ?_
  refine sPr (by decide) cdm98_136 rfl rfl (by decide +kernel) (by decide +kernel) (by decide +kernel) rfl ?_
  refine sAn cdm98_139 rfl ?_
  refine sIc (x := N 0) cdm98_140 (by decide) ?_
  refine sPz (by decide) cdm98_141 rfl rfl (by decide +kernel) (by decide +kernel) (z _ _ _ _ (by omega) (by omega)) ?_
  refine sIc (x := N 0) cdm98_144 (by decide) ?_
  refine sSn cdm98_145 rfl ?_
  refine sIn cdm98_146 rfl ?_
  refine sIc (x := N 2) cdm98_147 (by decide) ?_
  refine sGeF cdm98_148 rfl (by decide) ?_
  refine sAn cdm98_151 rfl ?_
  refine sGf (f₂ := 2) (i₂ := 6) (j₂ := 0) (by decide) cdm98_152 rfl rfl (by decide +kernel) (by decide +kernel) rfl ?_
  refine sIn cdm98_155 rfl ?_
  refine sNew (f := 0) (i := 11) (j := 0) hE cdm98_156 rfl rfl rfl (by decide +kernel) (by decide) rfl (by decide +kernel) (fun p _ => z _ _ _ p (by omega) (by omega)) ?_
  refine sDup cdm98_159 ?_
  refine sAn cdm98_160 rfl ?_
  refine sGf (f₂ := 1) (i₂ := 0) (j₂ := 0) (by decide) cdm98_161 rfl rfl (by decide +kernel) (by decide +kernel) rfl ?_
  refine sAn cdm98_164 rfl ?_
  refine sGf (f₂ := 2) (i₂ := 2) (j₂ := 0) (by decide) cdm98_165 rfl rfl (by decide +kernel) (by decide +kernel) rfl ?_
  refine sCall2 cdm98_168 rfl rfl rfl rfl rfl (fun Q₂ h₂ => ccK10_190 hE z h₂) ?_
  refine sAst (by decide) cdm98_171 (n := 2) rfl (by decide +kernel) (by omega) rfl (by decide +kernel) (by decide +kernel) rfl ?_
  refine sInc (y := N 1) cdm98_172 rfl rfl (by decide) ?_
  refine sGo cdm98_175 rfl ?_
  refine sIn cdm98_146 rfl ?_
  refine sIc (x := N 2) cdm98_147 (by decide) ?_
  refine sGeF cdm98_148 rfl (by decide) ?_
  refine sAn cdm98_151 rfl ?_
  refine sGf (f₂ := 2) (i₂ := 6) (j₂ := 0) (by decide) cdm98_152 rfl rfl (by decide +kernel) (by decide +kernel) rfl ?_
  refine sIn cdm98_155 rfl ?_
  refine sNew (f := 0) (i := 12) (j := 0) hE cdm98_156 rfl rfl rfl (by decide +kernel) (by decide) rfl (by decide +kernel) (fun p _ => z _ _ _ p (by omega) (by omega)) ?_
  refine sDup cdm98_159 ?_
  refine sAn cdm98_160 rfl ?_
  refine sGf (f₂ := 1) (i₂ := 0) (j₂ := 0) (by decide) cdm98_161 rfl rfl (by decide +kernel) (by decide +kernel) rfl ?_
  refine sAn cdm98_164 rfl ?_
  refine sGf (f₂ := 2) (i₂ := 2) (j₂ := 0) (by decide) cdm98_165 rfl rfl (by decide +kernel) (by decide +kernel) rfl ?_
  refine sCall2 cdm98_168 rfl rfl rfl rfl rfl (fun Q₂ h₂ => ccK10_205 hE z h₂) ?_
  refine sAst (by decide) cdm98_171 (n := 2) rfl (by decide +kernel) (by omega) rfl (by decide +kernel) (by decide +kernel) rfl ?_
  refine sInc (y := N 2) cdm98_172 rfl rfl (by decide) ?_
  refine sGo cdm98_175 rfl ?_
  refine sIn cdm98_146 rfl ?_
  refine sIc (x := N 2) cdm98_147 (by decide) ?_
  refine sGeT cdm98_148 rfl (by decide) ?_
  exact sRet cdm98_178 rfl hq
