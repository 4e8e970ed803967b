theorem dX8_init_0 : uD 1 cX8_init 0 (.aload_n 0) 1 := ⟨by decide +kernel, rfl⟩
theorem dX8_init_1 : uD 3 cX8_init 1 (.invokespecial 1) 4 := ⟨by decide +kernel, rfl⟩
theorem dX8_init_4 : uD 1 cX8_init 4 (.aload_n 0) 5 := ⟨by decide +kernel, rfl⟩
theorem dX8_init_5 : uD 2 cX8_init 5 (.bipush 109) 7 := ⟨by decide +kernel, rfl⟩
theorem dX8_init_7 : uD 2 cX8_init 7 (.newarray .int) 9 := ⟨by decide +kernel, rfl⟩
theorem dX8_init_9 : uD 3 cX8_init 9 (.putfield 7) 12 := ⟨by decide +kernel, rfl⟩
theorem dX8_init_12 : uD 1 cX8_init 12 (.aload_n 0) 13 := ⟨by decide +kernel, rfl⟩
theorem dX8_init_13 : uD 2 cX8_init 13 (.bipush 109) 15 := ⟨by decide +kernel, rfl⟩
theorem dX8_init_15 : uD 2 cX8_init 15 (.newarray .int) 17 := ⟨by decide +kernel, rfl⟩
theorem dX8_init_17 : uD 3 cX8_init 17 (.putfield 13) 20 := ⟨by decide +kernel, rfl⟩
theorem dX8_init_20 : uD 1 cX8_init 20 (.aload_n 0) 21 := ⟨by decide +kernel, rfl⟩
theorem dX8_init_21 : uD 3 cX8_init 21 (.sipush 218) 24 := ⟨by decide +kernel, rfl⟩
theorem dX8_init_24 : uD 2 cX8_init 24 (.newarray .int) 26 := ⟨by decide +kernel, rfl⟩
theorem dX8_init_26 : uD 3 cX8_init 26 (.putfield 16) 29 := ⟨by decide +kernel, rfl⟩
theorem dX8_init_29 : uD 1 cX8_init 29 (.aload_n 0) 30 := ⟨by decide +kernel, rfl⟩
theorem dX8_init_30 : uD 2 cX8_init 30 (.bipush 109) 32 := ⟨by decide +kernel, rfl⟩
theorem dX8_init_32 : uD 2 cX8_init 32 (.newarray .int) 34 := ⟨by decide +kernel, rfl⟩
theorem dX8_init_34 : uD 3 cX8_init 34 (.putfield 19) 37 := ⟨by decide +kernel, rfl⟩
theorem dX8_init_37 : uD 1 cX8_init 37 (.aload_n 0) 38 := ⟨by decide +kernel, rfl⟩
theorem dX8_init_38 : uD 1 cX8_init 38 (.iconst 2) 39 := ⟨by decide +kernel, rfl⟩
theorem dX8_init_39 : uD 2 cX8_init 39 (.newarray .boolean) 41 := ⟨by decide +kernel, rfl⟩
theorem dX8_init_41 : uD 3 cX8_init 41 (.putfield 22) 44 := ⟨by decide +kernel, rfl⟩
theorem dX8_init_44 : uD 1 cX8_init 44 (.aload_n 0) 45 := ⟨by decide +kernel, rfl⟩
theorem dX8_init_45 : uD 3 cX8_init 45 (.sipush 400) 48 := ⟨by decide +kernel, rfl⟩
theorem dX8_init_48 : uD 2 cX8_init 48 (.newarray .int) 50 := ⟨by decide +kernel, rfl⟩
theorem dX8_init_50 : uD 3 cX8_init 50 (.putfield 26) 53 := ⟨by decide +kernel, rfl⟩
theorem dX8_init_53 : uD 1 cX8_init 53 (.aload_n 0) 54 := ⟨by decide +kernel, rfl⟩
theorem dX8_init_54 : uD 1 cX8_init 54 (.iconst (-1)) 55 := ⟨by decide +kernel, rfl⟩
theorem dX8_init_55 : uD 3 cX8_init 55 (.putfield 29) 58 := ⟨by decide +kernel, rfl⟩
theorem dX8_init_58 : uD 1 cX8_init 58 (.aload_n 0) 59 := ⟨by decide +kernel, rfl⟩
theorem dX8_init_59 : uD 3 cX8_init 59 (.sipush 1503) 62 := ⟨by decide +kernel, rfl⟩
theorem dX8_init_62 : uD 2 cX8_init 62 (.newarray .long) 64 := ⟨by decide +kernel, rfl⟩
theorem dX8_init_64 : uD 3 cX8_init 64 (.putfield 33) 67 := ⟨by decide +kernel, rfl⟩
theorem dX8_init_67 : uD 1 cX8_init 67 (.aload_n 0) 68 := ⟨by decide +kernel, rfl⟩
theorem dX8_init_68 : uD 3 cX8_init 68 (.sipush 1503) 71 := ⟨by decide +kernel, rfl⟩
theorem dX8_init_71 : uD 2 cX8_init 71 (.newarray .long) 73 := ⟨by decide +kernel, rfl⟩
theorem dX8_init_73 : uD 3 cX8_init 73 (.putfield 37) 76 := ⟨by decide +kernel, rfl⟩
theorem dX8_init_76 : uD 1 cX8_init 76 (.aload_n 0) 77 := ⟨by decide +kernel, rfl⟩
theorem dX8_init_77 : uD 3 cX8_init 77 (.sipush 501) 80 := ⟨by decide +kernel, rfl⟩
theorem dX8_init_80 : uD 2 cX8_init 80 (.newarray .long) 82 := ⟨by decide +kernel, rfl⟩
theorem dX8_init_82 : uD 3 cX8_init 82 (.putfield 40) 85 := ⟨by decide +kernel, rfl⟩
theorem dX8_init_85 : uD 1 cX8_init 85 (.aload_n 0) 86 := ⟨by decide +kernel, rfl⟩
theorem dX8_init_86 : uD 3 cX8_init 86 (.invokevirtual 43) 89 := ⟨by decide +kernel, rfl⟩
theorem dX8_init_89 : uD 1 cX8_init 89 (.aload_n 0) 90 := ⟨by decide +kernel, rfl⟩
theorem dX8_init_90 : uD 3 cX8_init 90 (.getfield 13) 93 := ⟨by decide +kernel, rfl⟩
theorem dX8_init_93 : uD 1 cX8_init 93 (.iconst 0) 94 := ⟨by decide +kernel, rfl⟩
theorem dX8_init_94 : uD 2 cX8_init 94 (.bipush 100) 96 := ⟨by decide +kernel, rfl⟩
theorem dX8_init_96 : uD 1 cX8_init 96 (.iastore) 97 := ⟨by decide +kernel, rfl⟩
theorem dX8_init_97 : uD 1 cX8_init 97 (.aload_n 0) 98 := ⟨by decide +kernel, rfl⟩
theorem dX8_init_98 : uD 3 cX8_init 98 (.getfield 13) 101 := ⟨by decide +kernel, rfl⟩
theorem dX8_init_101 : uD 1 cX8_init 101 (.iconst 1) 102 := ⟨by decide +kernel, rfl⟩
theorem dX8_init_102 : uD 2 cX8_init 102 (.bipush 100) 104 := ⟨by decide +kernel, rfl⟩
theorem dX8_init_104 : uD 1 cX8_init 104 (.iastore) 105 := ⟨by decide +kernel, rfl⟩
theorem dX8_init_105 : uD 1 cX8_init 105 (.aload_n 0) 106 := ⟨by decide +kernel, rfl⟩
theorem dX8_init_106 : uD 3 cX8_init 106 (.getfield 13) 109 := ⟨by decide +kernel, rfl⟩
theorem dX8_init_109 : uD 1 cX8_init 109 (.iconst 2) 110 := ⟨by decide +kernel, rfl⟩
theorem dX8_init_110 : uD 2 cX8_init 110 (.bipush 10) 112 := ⟨by decide +kernel, rfl⟩
theorem dX8_init_112 : uD 1 cX8_init 112 (.iastore) 113 := ⟨by decide +kernel, rfl⟩
theorem dX8_init_113 : uD 1 cX8_init 113 (.aload_n 0) 114 := ⟨by decide +kernel, rfl⟩
theorem dX8_init_114 : uD 3 cX8_init 114 (.getfield 13) 117 := ⟨by decide +kernel, rfl⟩
theorem dX8_init_117 : uD 1 cX8_init 117 (.iconst 3) 118 := ⟨by decide +kernel, rfl⟩
theorem dX8_init_118 : uD 1 cX8_init 118 (.iconst 1) 119 := ⟨by decide +kernel, rfl⟩
theorem dX8_init_119 : uD 1 cX8_init 119 (.iastore) 120 := ⟨by decide +kernel, rfl⟩
theorem dX8_init_120 : uD 1 cX8_init 120 (.aload_n 0) 121 := ⟨by decide +kernel, rfl⟩
theorem dX8_init_121 : uD 3 cX8_init 121 (.getfield 13) 124 := ⟨by decide +kernel, rfl⟩
theorem dX8_init_124 : uD 1 cX8_init 124 (.iconst 4) 125 := ⟨by decide +kernel, rfl⟩
theorem dX8_init_125 : uD 2 cX8_init 125 (.bipush 100) 127 := ⟨by decide +kernel, rfl⟩
theorem dX8_init_127 : uD 1 cX8_init 127 (.iastore) 128 := ⟨by decide +kernel, rfl⟩
theorem dX8_init_128 : uD 1 cX8_init 128 (.aload_n 0) 129 := ⟨by decide +kernel, rfl⟩
theorem dX8_init_129 : uD 3 cX8_init 129 (.invokevirtual 46) 132 := ⟨by decide +kernel, rfl⟩
theorem dX8_init_132 : uD 1 cX8_init 132 (.return_) 133 := ⟨by decide +kernel, rfl⟩
theorem dX8_thrown_0 : uD 1 cX8_thrown 0 (.aload_n 0) 1 := ⟨by decide +kernel, rfl⟩
theorem dX8_thrown_1 : uD 3 cX8_thrown 1 (.getfield 49) 4 := ⟨by decide +kernel, rfl⟩
theorem dX8_thrown_4 : uD 1 cX8_thrown 4 (.ireturn) 5 := ⟨by decide +kernel, rfl⟩
theorem dX8_isIn_0 : uD 1 cX8_isIn 0 (.iload_n 0) 1 := ⟨by decide +kernel, rfl⟩
theorem dX8_isIn_1 : uD 1 cX8_isIn 1 (.iload_n 1) 2 := ⟨by decide +kernel, rfl⟩
theorem dX8_isIn_2 : uJ cX8_isIn 2 (fun o => .if_icmp .lt o) 14 5 := ⟨12, by decide +kernel, by decide, rfl⟩
theorem dX8_isIn_5 : uD 1 cX8_isIn 5 (.iload_n 0) 6 := ⟨by decide +kernel, rfl⟩
theorem dX8_isIn_6 : uD 1 cX8_isIn 6 (.iload_n 2) 7 := ⟨by decide +kernel, rfl⟩
theorem dX8_isIn_7 : uJ cX8_isIn 7 (fun o => .if_icmp .gt o) 14 10 := ⟨7, by decide +kernel, by decide, rfl⟩
theorem dX8_isIn_10 : uD 1 cX8_isIn 10 (.iconst 1) 11 := ⟨by decide +kernel, rfl⟩
theorem dX8_isIn_11 : uJ cX8_isIn 11 (fun o => .goto o) 15 14 := ⟨4, by decide +kernel, by decide, rfl⟩
theorem dX8_isIn_14 : uD 1 cX8_isIn 14 (.iconst 0) 15 := ⟨by decide +kernel, rfl⟩
theorem dX8_isIn_15 : uD 1 cX8_isIn 15 (.ireturn) 16 := ⟨by decide +kernel, rfl⟩
theorem dX8_may_0 : uD 1 cX8_may 0 (.iload_n 1) 1 := ⟨by decide +kernel, rfl⟩
theorem dX8_may_1 : uJ cX8_may 1 (fun o => .ifCond .ne o) 16 4 := ⟨15, by decide +kernel, by decide, rfl⟩
theorem dX8_may_4 : uD 1 cX8_may 4 (.aload_n 0) 5 := ⟨by decide +kernel, rfl⟩
theorem dX8_may_5 : uD 3 cX8_may 5 (.getfield 49) 8 := ⟨by decide +kernel, rfl⟩
theorem dX8_may_8 : uJ cX8_may 8 (fun o => .ifCond .ne o) 16 11 := ⟨8, by decide +kernel, by decide, rfl⟩
theorem dX8_may_11 : uD 1 cX8_may 11 (.aload_n 0) 12 := ⟨by decide +kernel, rfl⟩
theorem dX8_may_12 : uD 1 cX8_may 12 (.iload_n 2) 13 := ⟨by decide +kernel, rfl⟩
theorem dX8_may_13 : uD 3 cX8_may 13 (.putfield 49) 16 := ⟨by decide +kernel, rfl⟩
theorem dX8_may_16 : uD 1 cX8_may 16 (.aload_n 0) 17 := ⟨by decide +kernel, rfl⟩
theorem dX8_may_17 : uD 3 cX8_may 17 (.getfield 49) 20 := ⟨by decide +kernel, rfl⟩
theorem dX8_may_20 : uJ cX8_may 20 (fun o => .ifCond .ne o) 27 23 := ⟨7, by decide +kernel, by decide, rfl⟩
theorem dX8_may_23 : uD 1 cX8_may 23 (.iconst 1) 24 := ⟨by decide +kernel, rfl⟩
theorem dX8_may_24 : uJ cX8_may 24 (fun o => .goto o) 28 27 := ⟨4, by decide +kernel, by decide, rfl⟩
theorem dX8_may_27 : uD 1 cX8_may 27 (.iconst 0) 28 := ⟨by decide +kernel, rfl⟩
theorem dX8_may_28 : uD 1 cX8_may 28 (.ireturn) 29 := ⟨by decide +kernel, rfl⟩
theorem dX8_has_0 : uD 1 cX8_has 0 (.iload_n 0) 1 := ⟨by decide +kernel, rfl⟩
theorem dX8_has_1 : uD 1 cX8_has 1 (.iload_n 1) 2 := ⟨by decide +kernel, rfl⟩
theorem dX8_has_2 : uD 1 cX8_has 2 (.ishr) 3 := ⟨by decide +kernel, rfl⟩
theorem dX8_has_3 : uD 1 cX8_has 3 (.iconst 1) 4 := ⟨by decide +kernel, rfl⟩
theorem dX8_has_4 : uD 1 cX8_has 4 (.iand) 5 := ⟨by decide +kernel, rfl⟩
theorem dX8_has_5 : uD 1 cX8_has 5 (.iconst 1) 6 := ⟨by decide +kernel, rfl⟩
theorem dX8_has_6 : uJ cX8_has 6 (fun o => .if_icmp .ne o) 13 9 := ⟨7, by decide +kernel, by decide, rfl⟩
theorem dX8_has_9 : uD 1 cX8_has 9 (.iconst 1) 10 := ⟨by decide +kernel, rfl⟩
theorem dX8_has_10 : uJ cX8_has 10 (fun o => .goto o) 14 13 := ⟨4, by decide +kernel, by decide, rfl⟩
theorem dX8_has_13 : uD 1 cX8_has 13 (.iconst 0) 14 := ⟨by decide +kernel, rfl⟩
theorem dX8_has_14 : uD 1 cX8_has 14 (.ireturn) 15 := ⟨by decide +kernel, rfl⟩
theorem dX8_plain_0 : uD 1 cX8_plain 0 (.iconst 0) 1 := ⟨by decide +kernel, rfl⟩
theorem dX8_plain_1 : uD 1 cX8_plain 1 (.istore_n 1) 2 := ⟨by decide +kernel, rfl⟩
theorem dX8_plain_2 : uD 1 cX8_plain 2 (.iload_n 1) 3 := ⟨by decide +kernel, rfl⟩
theorem dX8_plain_3 : uD 2 cX8_plain 3 (.bipush 109) 5 := ⟨by decide +kernel, rfl⟩
theorem dX8_plain_5 : uJ cX8_plain 5 (fun o => .if_icmp .ge o) 21 8 := ⟨16, by decide +kernel, by decide, rfl⟩
theorem dX8_plain_8 : uD 1 cX8_plain 8 (.aload_n 0) 9 := ⟨by decide +kernel, rfl⟩
theorem dX8_plain_9 : uD 3 cX8_plain 9 (.getfield 13) 12 := ⟨by decide +kernel, rfl⟩
theorem dX8_plain_12 : uD 1 cX8_plain 12 (.iload_n 1) 13 := ⟨by decide +kernel, rfl⟩
theorem dX8_plain_13 : uD 1 cX8_plain 13 (.iconst 0) 14 := ⟨by decide +kernel, rfl⟩
theorem dX8_plain_14 : uD 1 cX8_plain 14 (.iastore) 15 := ⟨by decide +kernel, rfl⟩
theorem dX8_plain_15 : uD 3 cX8_plain 15 (.iinc 1 1) 18 := ⟨by decide +kernel, rfl⟩
theorem dX8_plain_18 : uJ cX8_plain 18 (fun o => .goto o) 2 21 := ⟨(-16), by decide +kernel, by decide, rfl⟩
theorem dX8_plain_21 : uD 1 cX8_plain 21 (.aload_n 0) 22 := ⟨by decide +kernel, rfl⟩
theorem dX8_plain_22 : uD 3 cX8_plain 22 (.getfield 13) 25 := ⟨by decide +kernel, rfl⟩
theorem dX8_plain_25 : uD 2 cX8_plain 25 (.bipush 6) 27 := ⟨by decide +kernel, rfl⟩
theorem dX8_plain_27 : uD 2 cX8_plain 27 (.bipush 24) 29 := ⟨by decide +kernel, rfl⟩
theorem dX8_plain_29 : uD 1 cX8_plain 29 (.iastore) 30 := ⟨by decide +kernel, rfl⟩
theorem dX8_plain_30 : uD 1 cX8_plain 30 (.aload_n 0) 31 := ⟨by decide +kernel, rfl⟩
theorem dX8_plain_31 : uD 3 cX8_plain 31 (.getfield 13) 34 := ⟨by decide +kernel, rfl⟩
theorem dX8_plain_34 : uD 2 cX8_plain 34 (.bipush 27) 36 := ⟨by decide +kernel, rfl⟩
theorem dX8_plain_36 : uD 1 cX8_plain 36 (.iconst 1) 37 := ⟨by decide +kernel, rfl⟩
theorem dX8_plain_37 : uD 1 cX8_plain 37 (.iastore) 38 := ⟨by decide +kernel, rfl⟩
theorem dX8_plain_38 : uD 1 cX8_plain 38 (.return_) 39 := ⟨by decide +kernel, rfl⟩
theorem dX8_takes_0 : uD 1 cX8_takes 0 (.iconst 0) 1 := ⟨by decide +kernel, rfl⟩
theorem dX8_takes_1 : uD 1 cX8_takes 1 (.istore_n 1) 2 := ⟨by decide +kernel, rfl⟩
theorem dX8_takes_2 : uD 1 cX8_takes 2 (.iload_n 1) 3 := ⟨by decide +kernel, rfl⟩
theorem dX8_takes_3 : uD 2 cX8_takes 3 (.bipush 109) 5 := ⟨by decide +kernel, rfl⟩
theorem dX8_takes_5 : uJ cX8_takes 5 (fun o => .if_icmp .ge o) 26 8 := ⟨21, by decide +kernel, by decide, rfl⟩
theorem dX8_takes_8 : uD 1 cX8_takes 8 (.aload_n 0) 9 := ⟨by decide +kernel, rfl⟩
theorem dX8_takes_9 : uD 3 cX8_takes 9 (.getfield 7) 12 := ⟨by decide +kernel, rfl⟩
theorem dX8_takes_12 : uD 1 cX8_takes 12 (.iload_n 1) 13 := ⟨by decide +kernel, rfl⟩
theorem dX8_takes_13 : uD 1 cX8_takes 13 (.aload_n 0) 14 := ⟨by decide +kernel, rfl⟩
theorem dX8_takes_14 : uD 3 cX8_takes 14 (.getfield 13) 17 := ⟨by decide +kernel, rfl⟩
theorem dX8_takes_17 : uD 1 cX8_takes 17 (.iload_n 1) 18 := ⟨by decide +kernel, rfl⟩
theorem dX8_takes_18 : uD 1 cX8_takes 18 (.iaload) 19 := ⟨by decide +kernel, rfl⟩
theorem dX8_takes_19 : uD 1 cX8_takes 19 (.iastore) 20 := ⟨by decide +kernel, rfl⟩
theorem dX8_takes_20 : uD 3 cX8_takes 20 (.iinc 1 1) 23 := ⟨by decide +kernel, rfl⟩
theorem dX8_takes_23 : uJ cX8_takes 23 (fun o => .goto o) 2 26 := ⟨(-21), by decide +kernel, by decide, rfl⟩
theorem dX8_takes_26 : uD 1 cX8_takes 26 (.aload_n 0) 27 := ⟨by decide +kernel, rfl⟩
theorem dX8_takes_27 : uD 3 cX8_takes 27 (.getfield 22) 30 := ⟨by decide +kernel, rfl⟩
theorem dX8_takes_30 : uD 1 cX8_takes 30 (.iconst 0) 31 := ⟨by decide +kernel, rfl⟩
theorem dX8_takes_31 : uD 1 cX8_takes 31 (.iconst 0) 32 := ⟨by decide +kernel, rfl⟩
theorem dX8_takes_32 : uD 1 cX8_takes 32 (.bastore) 33 := ⟨by decide +kernel, rfl⟩
theorem dX8_takes_33 : uD 1 cX8_takes 33 (.aload_n 0) 34 := ⟨by decide +kernel, rfl⟩
theorem dX8_takes_34 : uD 3 cX8_takes 34 (.getfield 22) 37 := ⟨by decide +kernel, rfl⟩
theorem dX8_takes_37 : uD 1 cX8_takes 37 (.iconst 1) 38 := ⟨by decide +kernel, rfl⟩
theorem dX8_takes_38 : uD 1 cX8_takes 38 (.iconst 0) 39 := ⟨by decide +kernel, rfl⟩
theorem dX8_takes_39 : uD 1 cX8_takes 39 (.bastore) 40 := ⟨by decide +kernel, rfl⟩
theorem dX8_takes_40 : uD 1 cX8_takes 40 (.return_) 41 := ⟨by decide +kernel, rfl⟩
theorem dX8_append_0 : uD 1 cX8_append 0 (.aload_n 0) 1 := ⟨by decide +kernel, rfl⟩
theorem dX8_append_1 : uD 1 cX8_append 1 (.iconst 0) 2 := ⟨by decide +kernel, rfl⟩
theorem dX8_append_2 : uD 3 cX8_append 2 (.putfield 49) 5 := ⟨by decide +kernel, rfl⟩
theorem dX8_append_5 : uD 1 cX8_append 5 (.aload_n 0) 6 := ⟨by decide +kernel, rfl⟩
theorem dX8_append_6 : uD 1 cX8_append 6 (.aload_n 0) 7 := ⟨by decide +kernel, rfl⟩
theorem dX8_append_7 : uD 3 cX8_append 7 (.getfield 52) 10 := ⟨by decide +kernel, rfl⟩
theorem dX8_append_10 : uD 2 cX8_append 10 (.bipush 20) 12 := ⟨by decide +kernel, rfl⟩
theorem dX8_append_12 : uD 1 cX8_append 12 (.iadd) 13 := ⟨by decide +kernel, rfl⟩
theorem dX8_append_13 : uD 3 cX8_append 13 (.sipush 400) 16 := ⟨by decide +kernel, rfl⟩
theorem dX8_append_16 : uJ cX8_append 16 (fun o => .if_icmp .gt o) 23 19 := ⟨7, by decide +kernel, by decide, rfl⟩
theorem dX8_append_19 : uD 1 cX8_append 19 (.iconst 1) 20 := ⟨by decide +kernel, rfl⟩
theorem dX8_append_20 : uJ cX8_append 20 (fun o => .goto o) 24 23 := ⟨4, by decide +kernel, by decide, rfl⟩
theorem dX8_append_23 : uD 1 cX8_append 23 (.iconst 0) 24 := ⟨by decide +kernel, rfl⟩
theorem dX8_append_24 : uD 1 cX8_append 24 (.iconst 1) 25 := ⟨by decide +kernel, rfl⟩
theorem dX8_append_25 : uD 3 cX8_append 25 (.invokevirtual 55) 28 := ⟨by decide +kernel, rfl⟩
theorem dX8_append_28 : uJ cX8_append 28 (fun o => .ifCond .ne o) 33 31 := ⟨5, by decide +kernel, by decide, rfl⟩
theorem dX8_append_31 : uD 1 cX8_append 31 (.iconst 0) 32 := ⟨by decide +kernel, rfl⟩
theorem dX8_append_32 : uD 1 cX8_append 32 (.ireturn) 33 := ⟨by decide +kernel, rfl⟩
theorem dX8_append_33 : uD 1 cX8_append 33 (.iconst 0) 34 := ⟨by decide +kernel, rfl⟩
theorem dX8_append_34 : uD 2 cX8_append 34 (.istore 6) 36 := ⟨by decide +kernel, rfl⟩
theorem dX8_append_36 : uD 2 cX8_append 36 (.iload 6) 38 := ⟨by decide +kernel, rfl⟩
theorem dX8_append_38 : uD 2 cX8_append 38 (.bipush 20) 40 := ⟨by decide +kernel, rfl⟩
theorem dX8_append_40 : uJ cX8_append 40 (fun o => .if_icmp .ge o) 126 43 := ⟨86, by decide +kernel, by decide, rfl⟩
theorem dX8_append_43 : uD 2 cX8_append 43 (.iload 6) 45 := ⟨by decide +kernel, rfl⟩
theorem dX8_append_45 : uD 1 cX8_append 45 (.iconst 4) 46 := ⟨by decide +kernel, rfl⟩
theorem dX8_append_46 : uJ cX8_append 46 (fun o => .if_icmp .ge o) 53 49 := ⟨7, by decide +kernel, by decide, rfl⟩
theorem dX8_append_49 : uD 1 cX8_append 49 (.iload_n 1) 50 := ⟨by decide +kernel, rfl⟩
theorem dX8_append_50 : uJ cX8_append 50 (fun o => .goto o) 89 53 := ⟨39, by decide +kernel, by decide, rfl⟩
theorem dX8_append_53 : uD 2 cX8_append 53 (.iload 6) 55 := ⟨by decide +kernel, rfl⟩
theorem dX8_append_55 : uD 2 cX8_append 55 (.bipush 8) 57 := ⟨by decide +kernel, rfl⟩
theorem dX8_append_57 : uJ cX8_append 57 (fun o => .if_icmp .ge o) 64 60 := ⟨7, by decide +kernel, by decide, rfl⟩
theorem dX8_append_60 : uD 1 cX8_append 60 (.iload_n 2) 61 := ⟨by decide +kernel, rfl⟩
theorem dX8_append_61 : uJ cX8_append 61 (fun o => .goto o) 89 64 := ⟨28, by decide +kernel, by decide, rfl⟩
theorem dX8_append_64 : uD 2 cX8_append 64 (.iload 6) 66 := ⟨by decide +kernel, rfl⟩
theorem dX8_append_66 : uD 2 cX8_append 66 (.bipush 12) 68 := ⟨by decide +kernel, rfl⟩
theorem dX8_append_68 : uJ cX8_append 68 (fun o => .if_icmp .ge o) 75 71 := ⟨7, by decide +kernel, by decide, rfl⟩
theorem dX8_append_71 : uD 1 cX8_append 71 (.iload_n 3) 72 := ⟨by decide +kernel, rfl⟩
theorem dX8_append_72 : uJ cX8_append 72 (fun o => .goto o) 89 75 := ⟨17, by decide +kernel, by decide, rfl⟩
theorem dX8_append_75 : uD 2 cX8_append 75 (.iload 6) 77 := ⟨by decide +kernel, rfl⟩
theorem dX8_append_77 : uD 2 cX8_append 77 (.bipush 16) 79 := ⟨by decide +kernel, rfl⟩
theorem dX8_append_79 : uJ cX8_append 79 (fun o => .if_icmp .ge o) 87 82 := ⟨8, by decide +kernel, by decide, rfl⟩
theorem dX8_append_82 : uD 2 cX8_append 82 (.iload 4) 84 := ⟨by decide +kernel, rfl⟩
theorem dX8_append_84 : uJ cX8_append 84 (fun o => .goto o) 89 87 := ⟨5, by decide +kernel, by decide, rfl⟩
theorem dX8_append_87 : uD 2 cX8_append 87 (.iload 5) 89 := ⟨by decide +kernel, rfl⟩
theorem dX8_append_89 : uD 2 cX8_append 89 (.istore 7) 91 := ⟨by decide +kernel, rfl⟩
theorem dX8_append_91 : uD 1 cX8_append 91 (.aload_n 0) 92 := ⟨by decide +kernel, rfl⟩
theorem dX8_append_92 : uD 3 cX8_append 92 (.getfield 26) 95 := ⟨by decide +kernel, rfl⟩
theorem dX8_append_95 : uD 1 cX8_append 95 (.aload_n 0) 96 := ⟨by decide +kernel, rfl⟩
theorem dX8_append_96 : uD 3 cX8_append 96 (.getfield 52) 99 := ⟨by decide +kernel, rfl⟩
theorem dX8_append_99 : uD 2 cX8_append 99 (.iload 6) 101 := ⟨by decide +kernel, rfl⟩
theorem dX8_append_101 : uD 1 cX8_append 101 (.iadd) 102 := ⟨by decide +kernel, rfl⟩
theorem dX8_append_102 : uD 2 cX8_append 102 (.iload 7) 104 := ⟨by decide +kernel, rfl⟩
theorem dX8_append_104 : uD 2 cX8_append 104 (.bipush 24) 106 := ⟨by decide +kernel, rfl⟩
theorem dX8_append_106 : uD 2 cX8_append 106 (.bipush 8) 108 := ⟨by decide +kernel, rfl⟩
theorem dX8_append_108 : uD 2 cX8_append 108 (.iload 6) 110 := ⟨by decide +kernel, rfl⟩
theorem dX8_append_110 : uD 1 cX8_append 110 (.iconst 4) 111 := ⟨by decide +kernel, rfl⟩
theorem dX8_append_111 : uD 1 cX8_append 111 (.irem) 112 := ⟨by decide +kernel, rfl⟩
theorem dX8_append_112 : uD 1 cX8_append 112 (.imul) 113 := ⟨by decide +kernel, rfl⟩
theorem dX8_append_113 : uD 1 cX8_append 113 (.isub) 114 := ⟨by decide +kernel, rfl⟩
theorem dX8_append_114 : uD 1 cX8_append 114 (.ishr) 115 := ⟨by decide +kernel, rfl⟩
theorem dX8_append_115 : uD 3 cX8_append 115 (.sipush 255) 118 := ⟨by decide +kernel, rfl⟩
theorem dX8_append_118 : uD 1 cX8_append 118 (.iand) 119 := ⟨by decide +kernel, rfl⟩
theorem dX8_append_119 : uD 1 cX8_append 119 (.iastore) 120 := ⟨by decide +kernel, rfl⟩
theorem dX8_append_120 : uD 3 cX8_append 120 (.iinc 6 1) 123 := ⟨by decide +kernel, rfl⟩
theorem dX8_append_123 : uJ cX8_append 123 (fun o => .goto o) 36 126 := ⟨(-87), by decide +kernel, by decide, rfl⟩
theorem dX8_append_126 : uD 1 cX8_append 126 (.aload_n 0) 127 := ⟨by decide +kernel, rfl⟩
theorem dX8_append_127 : uD 1 cX8_append 127 (.dup) 128 := ⟨by decide +kernel, rfl⟩
theorem dX8_append_128 : uD 3 cX8_append 128 (.getfield 52) 131 := ⟨by decide +kernel, rfl⟩
theorem dX8_append_131 : uD 2 cX8_append 131 (.bipush 20) 133 := ⟨by decide +kernel, rfl⟩
theorem dX8_append_133 : uD 1 cX8_append 133 (.iadd) 134 := ⟨by decide +kernel, rfl⟩
theorem dX8_append_134 : uD 3 cX8_append 134 (.putfield 52) 137 := ⟨by decide +kernel, rfl⟩
theorem dX8_append_137 : uD 1 cX8_append 137 (.aload_n 0) 138 := ⟨by decide +kernel, rfl⟩
theorem dX8_append_138 : uD 3 cX8_append 138 (.getfield 52) 141 := ⟨by decide +kernel, rfl⟩
theorem dX8_append_141 : uD 1 cX8_append 141 (.ireturn) 142 := ⟨by decide +kernel, rfl⟩
theorem dX8_truncate_0 : uD 1 cX8_truncate 0 (.aload_n 0) 1 := ⟨by decide +kernel, rfl⟩
theorem dX8_truncate_1 : uD 1 cX8_truncate 1 (.iconst 0) 2 := ⟨by decide +kernel, rfl⟩
theorem dX8_truncate_2 : uD 3 cX8_truncate 2 (.putfield 49) 5 := ⟨by decide +kernel, rfl⟩
theorem dX8_truncate_5 : uD 1 cX8_truncate 5 (.aload_n 0) 6 := ⟨by decide +kernel, rfl⟩
theorem dX8_truncate_6 : uD 1 cX8_truncate 6 (.iload_n 1) 7 := ⟨by decide +kernel, rfl⟩
theorem dX8_truncate_7 : uD 1 cX8_truncate 7 (.iconst 0) 8 := ⟨by decide +kernel, rfl⟩
theorem dX8_truncate_8 : uD 1 cX8_truncate 8 (.aload_n 0) 9 := ⟨by decide +kernel, rfl⟩
theorem dX8_truncate_9 : uD 3 cX8_truncate 9 (.getfield 52) 12 := ⟨by decide +kernel, rfl⟩
theorem dX8_truncate_12 : uD 3 cX8_truncate 12 (.invokestatic 59) 15 := ⟨by decide +kernel, rfl⟩
theorem dX8_truncate_15 : uD 1 cX8_truncate 15 (.iconst 1) 16 := ⟨by decide +kernel, rfl⟩
theorem dX8_truncate_16 : uD 3 cX8_truncate 16 (.invokevirtual 55) 19 := ⟨by decide +kernel, rfl⟩
theorem dX8_truncate_19 : uJ cX8_truncate 19 (fun o => .ifCond .ne o) 24 22 := ⟨5, by decide +kernel, by decide, rfl⟩
theorem dX8_truncate_22 : uD 1 cX8_truncate 22 (.iconst 0) 23 := ⟨by decide +kernel, rfl⟩
theorem dX8_truncate_23 : uD 1 cX8_truncate 23 (.ireturn) 24 := ⟨by decide +kernel, rfl⟩
theorem dX8_truncate_24 : uD 1 cX8_truncate 24 (.aload_n 0) 25 := ⟨by decide +kernel, rfl⟩
theorem dX8_truncate_25 : uD 1 cX8_truncate 25 (.iload_n 1) 26 := ⟨by decide +kernel, rfl⟩
theorem dX8_truncate_26 : uD 3 cX8_truncate 26 (.putfield 52) 29 := ⟨by decide +kernel, rfl⟩
theorem dX8_truncate_29 : uD 1 cX8_truncate 29 (.iload_n 1) 30 := ⟨by decide +kernel, rfl⟩
theorem dX8_truncate_30 : uD 1 cX8_truncate 30 (.ireturn) 31 := ⟨by decide +kernel, rfl⟩
theorem dX8_at_0 : uD 1 cX8_at 0 (.iload_n 1) 1 := ⟨by decide +kernel, rfl⟩
theorem dX8_at_1 : uD 1 cX8_at 1 (.aload_n 0) 2 := ⟨by decide +kernel, rfl⟩
theorem dX8_at_2 : uD 3 cX8_at 2 (.getfield 63) 5 := ⟨by decide +kernel, rfl⟩
theorem dX8_at_5 : uJ cX8_at 5 (fun o => .if_icmp .ge o) 17 8 := ⟨12, by decide +kernel, by decide, rfl⟩
theorem dX8_at_8 : uD 1 cX8_at 8 (.aload_n 0) 9 := ⟨by decide +kernel, rfl⟩
theorem dX8_at_9 : uD 3 cX8_at 9 (.getfield 26) 12 := ⟨by decide +kernel, rfl⟩
theorem dX8_at_12 : uD 1 cX8_at 12 (.iload_n 1) 13 := ⟨by decide +kernel, rfl⟩
theorem dX8_at_13 : uD 1 cX8_at 13 (.iaload) 14 := ⟨by decide +kernel, rfl⟩
theorem dX8_at_14 : uJ cX8_at 14 (fun o => .goto o) 18 17 := ⟨4, by decide +kernel, by decide, rfl⟩
theorem dX8_at_17 : uD 1 cX8_at 17 (.iconst (-1)) 18 := ⟨by decide +kernel, rfl⟩
theorem dX8_at_18 : uD 1 cX8_at 18 (.ireturn) 19 := ⟨by decide +kernel, rfl⟩
theorem dX8_isLetter_0 : uD 1 cX8_isLetter 0 (.iload_n 0) 1 := ⟨by decide +kernel, rfl⟩
theorem dX8_isLetter_1 : uD 2 cX8_isLetter 1 (.bipush 97) 3 := ⟨by decide +kernel, rfl⟩
theorem dX8_isLetter_3 : uJ cX8_isLetter 3 (fun o => .if_icmp .lt o) 16 6 := ⟨13, by decide +kernel, by decide, rfl⟩
theorem dX8_isLetter_6 : uD 1 cX8_isLetter 6 (.iload_n 0) 7 := ⟨by decide +kernel, rfl⟩
theorem dX8_isLetter_7 : uD 2 cX8_isLetter 7 (.bipush 122) 9 := ⟨by decide +kernel, rfl⟩
theorem dX8_isLetter_9 : uJ cX8_isLetter 9 (fun o => .if_icmp .gt o) 16 12 := ⟨7, by decide +kernel, by decide, rfl⟩
theorem dX8_isLetter_12 : uD 1 cX8_isLetter 12 (.iconst 1) 13 := ⟨by decide +kernel, rfl⟩
theorem dX8_isLetter_13 : uJ cX8_isLetter 13 (fun o => .goto o) 17 16 := ⟨4, by decide +kernel, by decide, rfl⟩
theorem dX8_isLetter_16 : uD 1 cX8_isLetter 16 (.iconst 0) 17 := ⟨by decide +kernel, rfl⟩
theorem dX8_isLetter_17 : uD 1 cX8_isLetter 17 (.ireturn) 18 := ⟨by decide +kernel, rfl⟩
theorem dX8_isDigit_0 : uD 1 cX8_isDigit 0 (.iload_n 0) 1 := ⟨by decide +kernel, rfl⟩
theorem dX8_isDigit_1 : uD 2 cX8_isDigit 1 (.bipush 48) 3 := ⟨by decide +kernel, rfl⟩
theorem dX8_isDigit_3 : uJ cX8_isDigit 3 (fun o => .if_icmp .lt o) 16 6 := ⟨13, by decide +kernel, by decide, rfl⟩
theorem dX8_isDigit_6 : uD 1 cX8_isDigit 6 (.iload_n 0) 7 := ⟨by decide +kernel, rfl⟩
theorem dX8_isDigit_7 : uD 2 cX8_isDigit 7 (.bipush 57) 9 := ⟨by decide +kernel, rfl⟩
theorem dX8_isDigit_9 : uJ cX8_isDigit 9 (fun o => .if_icmp .gt o) 16 12 := ⟨7, by decide +kernel, by decide, rfl⟩
theorem dX8_isDigit_12 : uD 1 cX8_isDigit 12 (.iconst 1) 13 := ⟨by decide +kernel, rfl⟩
theorem dX8_isDigit_13 : uJ cX8_isDigit 13 (fun o => .goto o) 17 16 := ⟨4, by decide +kernel, by decide, rfl⟩
theorem dX8_isDigit_16 : uD 1 cX8_isDigit 16 (.iconst 0) 17 := ⟨by decide +kernel, rfl⟩
theorem dX8_isDigit_17 : uD 1 cX8_isDigit 17 (.ireturn) 18 := ⟨by decide +kernel, rfl⟩
theorem dX8_token_0 : uD 1 cX8_token 0 (.aload_n 0) 1 := ⟨by decide +kernel, rfl⟩
theorem dX8_token_1 : uD 1 cX8_token 1 (.aload_n 0) 2 := ⟨by decide +kernel, rfl⟩
theorem dX8_token_2 : uD 3 cX8_token 2 (.getfield 66) 5 := ⟨by decide +kernel, rfl⟩
theorem dX8_token_5 : uD 3 cX8_token 5 (.invokevirtual 69) 8 := ⟨by decide +kernel, rfl⟩
theorem dX8_token_8 : uD 2 cX8_token 8 (.bipush 10) 10 := ⟨by decide +kernel, rfl⟩
theorem dX8_token_10 : uJ cX8_token 10 (fun o => .if_icmp .eq o) 26 13 := ⟨16, by decide +kernel, by decide, rfl⟩
theorem dX8_token_13 : uD 1 cX8_token 13 (.aload_n 0) 14 := ⟨by decide +kernel, rfl⟩
theorem dX8_token_14 : uD 1 cX8_token 14 (.aload_n 0) 15 := ⟨by decide +kernel, rfl⟩
theorem dX8_token_15 : uD 3 cX8_token 15 (.getfield 66) 18 := ⟨by decide +kernel, rfl⟩
theorem dX8_token_18 : uD 3 cX8_token 18 (.invokevirtual 69) 21 := ⟨by decide +kernel, rfl⟩
theorem dX8_token_21 : uD 2 cX8_token 21 (.bipush 32) 23 := ⟨by decide +kernel, rfl⟩
theorem dX8_token_23 : uJ cX8_token 23 (fun o => .if_icmp .ne o) 39 26 := ⟨16, by decide +kernel, by decide, rfl⟩
theorem dX8_token_26 : uD 1 cX8_token 26 (.aload_n 0) 27 := ⟨by decide +kernel, rfl⟩
theorem dX8_token_27 : uD 1 cX8_token 27 (.dup) 28 := ⟨by decide +kernel, rfl⟩
theorem dX8_token_28 : uD 3 cX8_token 28 (.getfield 66) 31 := ⟨by decide +kernel, rfl⟩
theorem dX8_token_31 : uD 1 cX8_token 31 (.iconst 1) 32 := ⟨by decide +kernel, rfl⟩
theorem dX8_token_32 : uD 1 cX8_token 32 (.iadd) 33 := ⟨by decide +kernel, rfl⟩
theorem dX8_token_33 : uD 3 cX8_token 33 (.putfield 66) 36 := ⟨by decide +kernel, rfl⟩
theorem dX8_token_36 : uJ cX8_token 36 (fun o => .goto o) 0 39 := ⟨(-36), by decide +kernel, by decide, rfl⟩
theorem dX8_token_39 : uD 1 cX8_token 39 (.aload_n 0) 40 := ⟨by decide +kernel, rfl⟩
theorem dX8_token_40 : uD 1 cX8_token 40 (.aload_n 0) 41 := ⟨by decide +kernel, rfl⟩
theorem dX8_token_41 : uD 3 cX8_token 41 (.getfield 66) 44 := ⟨by decide +kernel, rfl⟩
theorem dX8_token_44 : uD 3 cX8_token 44 (.putfield 73) 47 := ⟨by decide +kernel, rfl⟩
theorem dX8_token_47 : uD 1 cX8_token 47 (.aload_n 0) 48 := ⟨by decide +kernel, rfl⟩
theorem dX8_token_48 : uD 1 cX8_token 48 (.aload_n 0) 49 := ⟨by decide +kernel, rfl⟩
theorem dX8_token_49 : uD 3 cX8_token 49 (.getfield 66) 52 := ⟨by decide +kernel, rfl⟩
theorem dX8_token_52 : uD 3 cX8_token 52 (.invokevirtual 69) 55 := ⟨by decide +kernel, rfl⟩
theorem dX8_token_55 : uD 1 cX8_token 55 (.istore_n 1) 56 := ⟨by decide +kernel, rfl⟩
theorem dX8_token_56 : uD 1 cX8_token 56 (.iload_n 1) 57 := ⟨by decide +kernel, rfl⟩
theorem dX8_token_57 : uD 1 cX8_token 57 (.iconst (-1)) 58 := ⟨by decide +kernel, rfl⟩
theorem dX8_token_58 : uJ cX8_token 58 (fun o => .if_icmp .ne o) 69 61 := ⟨11, by decide +kernel, by decide, rfl⟩
theorem dX8_token_61 : uD 1 cX8_token 61 (.aload_n 0) 62 := ⟨by decide +kernel, rfl⟩
theorem dX8_token_62 : uD 1 cX8_token 62 (.iconst 0) 63 := ⟨by decide +kernel, rfl⟩
theorem dX8_token_63 : uD 3 cX8_token 63 (.putfield 76) 66 := ⟨by decide +kernel, rfl⟩
theorem dX8_token_66 : uJ cX8_token 66 (fun o => .goto o) 236 69 := ⟨170, by decide +kernel, by decide, rfl⟩
theorem dX8_token_69 : uD 1 cX8_token 69 (.iload_n 1) 70 := ⟨by decide +kernel, rfl⟩
theorem dX8_token_70 : uD 3 cX8_token 70 (.invokestatic 79) 73 := ⟨by decide +kernel, rfl⟩
theorem dX8_token_73 : uJ cX8_token 73 (fun o => .ifCond .eq o) 111 76 := ⟨38, by decide +kernel, by decide, rfl⟩
theorem dX8_token_76 : uD 1 cX8_token 76 (.aload_n 0) 77 := ⟨by decide +kernel, rfl⟩
theorem dX8_token_77 : uD 1 cX8_token 77 (.aload_n 0) 78 := ⟨by decide +kernel, rfl⟩
theorem dX8_token_78 : uD 3 cX8_token 78 (.getfield 66) 81 := ⟨by decide +kernel, rfl⟩
theorem dX8_token_81 : uD 3 cX8_token 81 (.invokevirtual 69) 84 := ⟨by decide +kernel, rfl⟩
theorem dX8_token_84 : uD 3 cX8_token 84 (.invokestatic 79) 87 := ⟨by decide +kernel, rfl⟩
theorem dX8_token_87 : uJ cX8_token 87 (fun o => .ifCond .eq o) 103 90 := ⟨16, by decide +kernel, by decide, rfl⟩
theorem dX8_token_90 : uD 1 cX8_token 90 (.aload_n 0) 91 := ⟨by decide +kernel, rfl⟩
theorem dX8_token_91 : uD 1 cX8_token 91 (.dup) 92 := ⟨by decide +kernel, rfl⟩
theorem dX8_token_92 : uD 3 cX8_token 92 (.getfield 66) 95 := ⟨by decide +kernel, rfl⟩
theorem dX8_token_95 : uD 1 cX8_token 95 (.iconst 1) 96 := ⟨by decide +kernel, rfl⟩
theorem dX8_token_96 : uD 1 cX8_token 96 (.iadd) 97 := ⟨by decide +kernel, rfl⟩
theorem dX8_token_97 : uD 3 cX8_token 97 (.putfield 66) 100 := ⟨by decide +kernel, rfl⟩
theorem dX8_token_100 : uJ cX8_token 100 (fun o => .goto o) 76 103 := ⟨(-24), by decide +kernel, by decide, rfl⟩
theorem dX8_token_103 : uD 1 cX8_token 103 (.aload_n 0) 104 := ⟨by decide +kernel, rfl⟩
theorem dX8_token_104 : uD 1 cX8_token 104 (.iconst 1) 105 := ⟨by decide +kernel, rfl⟩
theorem dX8_token_105 : uD 3 cX8_token 105 (.putfield 76) 108 := ⟨by decide +kernel, rfl⟩
theorem dX8_token_108 : uJ cX8_token 108 (fun o => .goto o) 236 111 := ⟨128, by decide +kernel, by decide, rfl⟩
theorem dX8_token_111 : uD 1 cX8_token 111 (.iload_n 1) 112 := ⟨by decide +kernel, rfl⟩
theorem dX8_token_112 : uD 3 cX8_token 112 (.invokestatic 83) 115 := ⟨by decide +kernel, rfl⟩
theorem dX8_token_115 : uJ cX8_token 115 (fun o => .ifCond .eq o) 211 118 := ⟨96, by decide +kernel, by decide, rfl⟩
theorem dX8_token_118 : uD 1 cX8_token 118 (.aload_n 0) 119 := ⟨by decide +kernel, rfl⟩
theorem dX8_token_119 : uD 1 cX8_token 119 (.iconst 0) 120 := ⟨by decide +kernel, rfl⟩
theorem dX8_token_120 : uD 3 cX8_token 120 (.putfield 86) 123 := ⟨by decide +kernel, rfl⟩
theorem dX8_token_123 : uD 1 cX8_token 123 (.aload_n 0) 124 := ⟨by decide +kernel, rfl⟩
theorem dX8_token_124 : uD 1 cX8_token 124 (.aload_n 0) 125 := ⟨by decide +kernel, rfl⟩
theorem dX8_token_125 : uD 3 cX8_token 125 (.getfield 66) 128 := ⟨by decide +kernel, rfl⟩
theorem dX8_token_128 : uD 3 cX8_token 128 (.invokevirtual 69) 131 := ⟨by decide +kernel, rfl⟩
theorem dX8_token_131 : uD 3 cX8_token 131 (.invokestatic 83) 134 := ⟨by decide +kernel, rfl⟩
theorem dX8_token_134 : uJ cX8_token 134 (fun o => .ifCond .eq o) 186 137 := ⟨52, by decide +kernel, by decide, rfl⟩
theorem dX8_token_137 : uD 1 cX8_token 137 (.aload_n 0) 138 := ⟨by decide +kernel, rfl⟩
theorem dX8_token_138 : uD 3 cX8_token 138 (.getfield 66) 141 := ⟨by decide +kernel, rfl⟩
theorem dX8_token_141 : uD 1 cX8_token 141 (.aload_n 0) 142 := ⟨by decide +kernel, rfl⟩
theorem dX8_token_142 : uD 3 cX8_token 142 (.getfield 73) 145 := ⟨by decide +kernel, rfl⟩
theorem dX8_token_145 : uD 1 cX8_token 145 (.isub) 146 := ⟨by decide +kernel, rfl⟩
theorem dX8_token_146 : uD 1 cX8_token 146 (.iconst 4) 147 := ⟨by decide +kernel, rfl⟩
theorem dX8_token_147 : uJ cX8_token 147 (fun o => .if_icmp .ge o) 173 150 := ⟨26, by decide +kernel, by decide, rfl⟩
theorem dX8_token_150 : uD 1 cX8_token 150 (.aload_n 0) 151 := ⟨by decide +kernel, rfl⟩
theorem dX8_token_151 : uD 2 cX8_token 151 (.bipush 10) 153 := ⟨by decide +kernel, rfl⟩
theorem dX8_token_153 : uD 1 cX8_token 153 (.aload_n 0) 154 := ⟨by decide +kernel, rfl⟩
theorem dX8_token_154 : uD 3 cX8_token 154 (.getfield 86) 157 := ⟨by decide +kernel, rfl⟩
theorem dX8_token_157 : uD 1 cX8_token 157 (.imul) 158 := ⟨by decide +kernel, rfl⟩
theorem dX8_token_158 : uD 1 cX8_token 158 (.aload_n 0) 159 := ⟨by decide +kernel, rfl⟩
theorem dX8_token_159 : uD 1 cX8_token 159 (.aload_n 0) 160 := ⟨by decide +kernel, rfl⟩
theorem dX8_token_160 : uD 3 cX8_token 160 (.getfield 66) 163 := ⟨by decide +kernel, rfl⟩
theorem dX8_token_163 : uD 3 cX8_token 163 (.invokevirtual 69) 166 := ⟨by decide +kernel, rfl⟩
theorem dX8_token_166 : uD 1 cX8_token 166 (.iadd) 167 := ⟨by decide +kernel, rfl⟩
theorem dX8_token_167 : uD 2 cX8_token 167 (.bipush 48) 169 := ⟨by decide +kernel, rfl⟩
theorem dX8_token_169 : uD 1 cX8_token 169 (.isub) 170 := ⟨by decide +kernel, rfl⟩
theorem dX8_token_170 : uD 3 cX8_token 170 (.putfield 86) 173 := ⟨by decide +kernel, rfl⟩
theorem dX8_token_173 : uD 1 cX8_token 173 (.aload_n 0) 174 := ⟨by decide +kernel, rfl⟩
theorem dX8_token_174 : uD 1 cX8_token 174 (.dup) 175 := ⟨by decide +kernel, rfl⟩
theorem dX8_token_175 : uD 3 cX8_token 175 (.getfield 66) 178 := ⟨by decide +kernel, rfl⟩
theorem dX8_token_178 : uD 1 cX8_token 178 (.iconst 1) 179 := ⟨by decide +kernel, rfl⟩
theorem dX8_token_179 : uD 1 cX8_token 179 (.iadd) 180 := ⟨by decide +kernel, rfl⟩
theorem dX8_token_180 : uD 3 cX8_token 180 (.putfield 66) 183 := ⟨by decide +kernel, rfl⟩
theorem dX8_token_183 : uJ cX8_token 183 (fun o => .goto o) 123 186 := ⟨(-60), by decide +kernel, by decide, rfl⟩
theorem dX8_token_186 : uD 1 cX8_token 186 (.aload_n 0) 187 := ⟨by decide +kernel, rfl⟩
theorem dX8_token_187 : uD 1 cX8_token 187 (.aload_n 0) 188 := ⟨by decide +kernel, rfl⟩
theorem dX8_token_188 : uD 3 cX8_token 188 (.getfield 66) 191 := ⟨by decide +kernel, rfl⟩
theorem dX8_token_191 : uD 1 cX8_token 191 (.aload_n 0) 192 := ⟨by decide +kernel, rfl⟩
theorem dX8_token_192 : uD 3 cX8_token 192 (.getfield 73) 195 := ⟨by decide +kernel, rfl⟩
theorem dX8_token_195 : uD 1 cX8_token 195 (.isub) 196 := ⟨by decide +kernel, rfl⟩
theorem dX8_token_196 : uD 1 cX8_token 196 (.iconst 4) 197 := ⟨by decide +kernel, rfl⟩
theorem dX8_token_197 : uJ cX8_token 197 (fun o => .if_icmp .le o) 204 200 := ⟨7, by decide +kernel, by decide, rfl⟩
theorem dX8_token_200 : uD 1 cX8_token 200 (.iconst 4) 201 := ⟨by decide +kernel, rfl⟩
theorem dX8_token_201 : uJ cX8_token 201 (fun o => .goto o) 205 204 := ⟨4, by decide +kernel, by decide, rfl⟩
theorem dX8_token_204 : uD 1 cX8_token 204 (.iconst 2) 205 := ⟨by decide +kernel, rfl⟩
theorem dX8_token_205 : uD 3 cX8_token 205 (.putfield 76) 208 := ⟨by decide +kernel, rfl⟩
theorem dX8_token_208 : uJ cX8_token 208 (fun o => .goto o) 236 211 := ⟨28, by decide +kernel, by decide, rfl⟩
theorem dX8_token_211 : uD 1 cX8_token 211 (.aload_n 0) 212 := ⟨by decide +kernel, rfl⟩
theorem dX8_token_212 : uD 1 cX8_token 212 (.dup) 213 := ⟨by decide +kernel, rfl⟩
theorem dX8_token_213 : uD 3 cX8_token 213 (.getfield 66) 216 := ⟨by decide +kernel, rfl⟩
theorem dX8_token_216 : uD 1 cX8_token 216 (.iconst 1) 217 := ⟨by decide +kernel, rfl⟩
theorem dX8_token_217 : uD 1 cX8_token 217 (.iadd) 218 := ⟨by decide +kernel, rfl⟩
theorem dX8_token_218 : uD 3 cX8_token 218 (.putfield 66) 221 := ⟨by decide +kernel, rfl⟩
theorem dX8_token_221 : uD 1 cX8_token 221 (.aload_n 0) 222 := ⟨by decide +kernel, rfl⟩
theorem dX8_token_222 : uD 1 cX8_token 222 (.iload_n 1) 223 := ⟨by decide +kernel, rfl⟩
theorem dX8_token_223 : uD 2 cX8_token 223 (.bipush 59) 225 := ⟨by decide +kernel, rfl⟩
theorem dX8_token_225 : uJ cX8_token 225 (fun o => .if_icmp .ne o) 232 228 := ⟨7, by decide +kernel, by decide, rfl⟩
theorem dX8_token_228 : uD 1 cX8_token 228 (.iconst 3) 229 := ⟨by decide +kernel, rfl⟩
theorem dX8_token_229 : uJ cX8_token 229 (fun o => .goto o) 233 232 := ⟨4, by decide +kernel, by decide, rfl⟩
theorem dX8_token_232 : uD 1 cX8_token 232 (.iconst 4) 233 := ⟨by decide +kernel, rfl⟩
theorem dX8_token_233 : uD 3 cX8_token 233 (.putfield 76) 236 := ⟨by decide +kernel, rfl⟩
theorem dX8_token_236 : uD 1 cX8_token 236 (.return_) 237 := ⟨by decide +kernel, rfl⟩
theorem dX8_isWrong_0 : uD 1 cX8_isWrong 0 (.aload_n 0) 1 := ⟨by decide +kernel, rfl⟩
theorem dX8_isWrong_1 : uD 3 cX8_isWrong 1 (.getfield 89) 4 := ⟨by decide +kernel, rfl⟩
theorem dX8_isWrong_4 : uJ cX8_isWrong 4 (fun o => .ifCond .eq o) 11 7 := ⟨7, by decide +kernel, by decide, rfl⟩
theorem dX8_isWrong_7 : uD 1 cX8_isWrong 7 (.iconst 1) 8 := ⟨by decide +kernel, rfl⟩
theorem dX8_isWrong_8 : uJ cX8_isWrong 8 (fun o => .goto o) 12 11 := ⟨4, by decide +kernel, by decide, rfl⟩
theorem dX8_isWrong_11 : uD 1 cX8_isWrong 11 (.iconst 0) 12 := ⟨by decide +kernel, rfl⟩
theorem dX8_isWrong_12 : uD 1 cX8_isWrong 12 (.ireturn) 13 := ⟨by decide +kernel, rfl⟩
theorem dX8_fails_0 : uD 1 cX8_fails 0 (.aload_n 0) 1 := ⟨by decide +kernel, rfl⟩
theorem dX8_fails_1 : uD 3 cX8_fails 1 (.invokevirtual 92) 4 := ⟨by decide +kernel, rfl⟩
theorem dX8_fails_4 : uJ cX8_fails 4 (fun o => .ifCond .eq o) 8 7 := ⟨4, by decide +kernel, by decide, rfl⟩
theorem dX8_fails_7 : uD 1 cX8_fails 7 (.return_) 8 := ⟨by decide +kernel, rfl⟩
theorem dX8_fails_8 : uD 1 cX8_fails 8 (.aload_n 0) 9 := ⟨by decide +kernel, rfl⟩
theorem dX8_fails_9 : uD 1 cX8_fails 9 (.iload_n 1) 10 := ⟨by decide +kernel, rfl⟩
theorem dX8_fails_10 : uD 3 cX8_fails 10 (.putfield 89) 13 := ⟨by decide +kernel, rfl⟩
theorem dX8_fails_13 : uD 1 cX8_fails 13 (.aload_n 0) 14 := ⟨by decide +kernel, rfl⟩
theorem dX8_fails_14 : uD 1 cX8_fails 14 (.aload_n 0) 15 := ⟨by decide +kernel, rfl⟩
theorem dX8_fails_15 : uD 3 cX8_fails 15 (.getfield 73) 18 := ⟨by decide +kernel, rfl⟩
theorem dX8_fails_18 : uD 3 cX8_fails 18 (.putfield 29) 21 := ⟨by decide +kernel, rfl⟩
theorem dX8_fails_21 : uD 1 cX8_fails 21 (.return_) 22 := ⟨by decide +kernel, rfl⟩
theorem dX8_isWord_0 : uD 1 cX8_isWord 0 (.aload_n 0) 1 := ⟨by decide +kernel, rfl⟩
theorem dX8_isWord_1 : uD 3 cX8_isWord 1 (.invokevirtual 92) 4 := ⟨by decide +kernel, rfl⟩
theorem dX8_isWord_4 : uJ cX8_isWord 4 (fun o => .ifCond .ne o) 31 7 := ⟨27, by decide +kernel, by decide, rfl⟩
theorem dX8_isWord_7 : uD 1 cX8_isWord 7 (.aload_n 0) 8 := ⟨by decide +kernel, rfl⟩
theorem dX8_isWord_8 : uD 3 cX8_isWord 8 (.getfield 76) 11 := ⟨by decide +kernel, rfl⟩
theorem dX8_isWord_11 : uD 1 cX8_isWord 11 (.iconst 1) 12 := ⟨by decide +kernel, rfl⟩
theorem dX8_isWord_12 : uJ cX8_isWord 12 (fun o => .if_icmp .ne o) 31 15 := ⟨19, by decide +kernel, by decide, rfl⟩
theorem dX8_isWord_15 : uD 1 cX8_isWord 15 (.aload_n 0) 16 := ⟨by decide +kernel, rfl⟩
theorem dX8_isWord_16 : uD 3 cX8_isWord 16 (.getfield 66) 19 := ⟨by decide +kernel, rfl⟩
theorem dX8_isWord_19 : uD 1 cX8_isWord 19 (.aload_n 0) 20 := ⟨by decide +kernel, rfl⟩
theorem dX8_isWord_20 : uD 3 cX8_isWord 20 (.getfield 73) 23 := ⟨by decide +kernel, rfl⟩
theorem dX8_isWord_23 : uD 1 cX8_isWord 23 (.isub) 24 := ⟨by decide +kernel, rfl⟩
theorem dX8_isWord_24 : uD 1 cX8_isWord 24 (.aload_n 1) 25 := ⟨by decide +kernel, rfl⟩
theorem dX8_isWord_25 : uD 3 cX8_isWord 25 (.invokevirtual 96) 28 := ⟨by decide +kernel, rfl⟩
theorem dX8_isWord_28 : uJ cX8_isWord 28 (fun o => .if_icmp .eq o) 33 31 := ⟨5, by decide +kernel, by decide, rfl⟩
theorem dX8_isWord_31 : uD 1 cX8_isWord 31 (.iconst 0) 32 := ⟨by decide +kernel, rfl⟩
theorem dX8_isWord_32 : uD 1 cX8_isWord 32 (.ireturn) 33 := ⟨by decide +kernel, rfl⟩
theorem dX8_isWord_33 : uD 1 cX8_isWord 33 (.iconst 0) 34 := ⟨by decide +kernel, rfl⟩
theorem dX8_isWord_34 : uD 1 cX8_isWord 34 (.istore_n 2) 35 := ⟨by decide +kernel, rfl⟩
theorem dX8_isWord_35 : uD 1 cX8_isWord 35 (.iload_n 2) 36 := ⟨by decide +kernel, rfl⟩
theorem dX8_isWord_36 : uD 1 cX8_isWord 36 (.aload_n 1) 37 := ⟨by decide +kernel, rfl⟩
theorem dX8_isWord_37 : uD 3 cX8_isWord 37 (.invokevirtual 96) 40 := ⟨by decide +kernel, rfl⟩
theorem dX8_isWord_40 : uJ cX8_isWord 40 (fun o => .if_icmp .ge o) 69 43 := ⟨29, by decide +kernel, by decide, rfl⟩
theorem dX8_isWord_43 : uD 1 cX8_isWord 43 (.aload_n 0) 44 := ⟨by decide +kernel, rfl⟩
theorem dX8_isWord_44 : uD 1 cX8_isWord 44 (.aload_n 0) 45 := ⟨by decide +kernel, rfl⟩
theorem dX8_isWord_45 : uD 3 cX8_isWord 45 (.getfield 73) 48 := ⟨by decide +kernel, rfl⟩
theorem dX8_isWord_48 : uD 1 cX8_isWord 48 (.iload_n 2) 49 := ⟨by decide +kernel, rfl⟩
theorem dX8_isWord_49 : uD 1 cX8_isWord 49 (.iadd) 50 := ⟨by decide +kernel, rfl⟩
theorem dX8_isWord_50 : uD 3 cX8_isWord 50 (.invokevirtual 69) 53 := ⟨by decide +kernel, rfl⟩
theorem dX8_isWord_53 : uD 1 cX8_isWord 53 (.aload_n 1) 54 := ⟨by decide +kernel, rfl⟩
theorem dX8_isWord_54 : uD 1 cX8_isWord 54 (.iload_n 2) 55 := ⟨by decide +kernel, rfl⟩
theorem dX8_isWord_55 : uD 3 cX8_isWord 55 (.invokevirtual 102) 58 := ⟨by decide +kernel, rfl⟩
theorem dX8_isWord_58 : uJ cX8_isWord 58 (fun o => .if_icmp .eq o) 63 61 := ⟨5, by decide +kernel, by decide, rfl⟩
theorem dX8_isWord_61 : uD 1 cX8_isWord 61 (.iconst 0) 62 := ⟨by decide +kernel, rfl⟩
theorem dX8_isWord_62 : uD 1 cX8_isWord 62 (.ireturn) 63 := ⟨by decide +kernel, rfl⟩
theorem dX8_isWord_63 : uD 3 cX8_isWord 63 (.iinc 2 1) 66 := ⟨by decide +kernel, rfl⟩
theorem dX8_isWord_66 : uJ cX8_isWord 66 (fun o => .goto o) 35 69 := ⟨(-31), by decide +kernel, by decide, rfl⟩
theorem dX8_isWord_69 : uD 1 cX8_isWord 69 (.iconst 1) 70 := ⟨by decide +kernel, rfl⟩
theorem dX8_isWord_70 : uD 1 cX8_isWord 70 (.ireturn) 71 := ⟨by decide +kernel, rfl⟩
theorem dX8_takesWord_0 : uD 1 cX8_takesWord 0 (.aload_n 0) 1 := ⟨by decide +kernel, rfl⟩
theorem dX8_takesWord_1 : uD 1 cX8_takesWord 1 (.aload_n 1) 2 := ⟨by decide +kernel, rfl⟩
theorem dX8_takesWord_2 : uD 3 cX8_takesWord 2 (.invokevirtual 106) 5 := ⟨by decide +kernel, rfl⟩
theorem dX8_takesWord_5 : uD 1 cX8_takesWord 5 (.istore_n 2) 6 := ⟨by decide +kernel, rfl⟩
theorem dX8_takesWord_6 : uD 1 cX8_takesWord 6 (.iload_n 2) 7 := ⟨by decide +kernel, rfl⟩
theorem dX8_takesWord_7 : uJ cX8_takesWord 7 (fun o => .ifCond .eq o) 14 10 := ⟨7, by decide +kernel, by decide, rfl⟩
theorem dX8_takesWord_10 : uD 1 cX8_takesWord 10 (.aload_n 0) 11 := ⟨by decide +kernel, rfl⟩
theorem dX8_takesWord_11 : uD 3 cX8_takesWord 11 (.invokevirtual 110) 14 := ⟨by decide +kernel, rfl⟩
theorem dX8_takesWord_14 : uD 1 cX8_takesWord 14 (.iload_n 2) 15 := ⟨by decide +kernel, rfl⟩
theorem dX8_takesWord_15 : uD 1 cX8_takesWord 15 (.ireturn) 16 := ⟨by decide +kernel, rfl⟩
theorem dX8_figure_0 : uD 1 cX8_figure 0 (.aload_n 0) 1 := ⟨by decide +kernel, rfl⟩
theorem dX8_figure_1 : uD 3 cX8_figure 1 (.invokevirtual 92) 4 := ⟨by decide +kernel, rfl⟩
theorem dX8_figure_4 : uJ cX8_figure 4 (fun o => .ifCond .eq o) 9 7 := ⟨5, by decide +kernel, by decide, rfl⟩
theorem dX8_figure_7 : uD 1 cX8_figure 7 (.iload_n 1) 8 := ⟨by decide +kernel, rfl⟩
theorem dX8_figure_8 : uD 1 cX8_figure 8 (.ireturn) 9 := ⟨by decide +kernel, rfl⟩
theorem dX8_figure_9 : uD 1 cX8_figure 9 (.aload_n 0) 10 := ⟨by decide +kernel, rfl⟩
theorem dX8_figure_10 : uD 3 cX8_figure 10 (.getfield 76) 13 := ⟨by decide +kernel, rfl⟩
theorem dX8_figure_13 : uD 1 cX8_figure 13 (.iconst 2) 14 := ⟨by decide +kernel, rfl⟩
theorem dX8_figure_14 : uJ cX8_figure 14 (fun o => .if_icmp .eq o) 25 17 := ⟨11, by decide +kernel, by decide, rfl⟩
theorem dX8_figure_17 : uD 1 cX8_figure 17 (.aload_n 0) 18 := ⟨by decide +kernel, rfl⟩
theorem dX8_figure_18 : uD 1 cX8_figure 18 (.iconst 1) 19 := ⟨by decide +kernel, rfl⟩
theorem dX8_figure_19 : uD 3 cX8_figure 19 (.invokevirtual 113) 22 := ⟨by decide +kernel, rfl⟩
theorem dX8_figure_22 : uJ cX8_figure 22 (fun o => .goto o) 42 25 := ⟨20, by decide +kernel, by decide, rfl⟩
theorem dX8_figure_25 : uD 1 cX8_figure 25 (.aload_n 0) 26 := ⟨by decide +kernel, rfl⟩
theorem dX8_figure_26 : uD 3 cX8_figure 26 (.getfield 86) 29 := ⟨by decide +kernel, rfl⟩
theorem dX8_figure_29 : uD 1 cX8_figure 29 (.iload_n 1) 30 := ⟨by decide +kernel, rfl⟩
theorem dX8_figure_30 : uD 1 cX8_figure 30 (.iload_n 2) 31 := ⟨by decide +kernel, rfl⟩
theorem dX8_figure_31 : uD 3 cX8_figure 31 (.invokestatic 59) 34 := ⟨by decide +kernel, rfl⟩
theorem dX8_figure_34 : uJ cX8_figure 34 (fun o => .ifCond .ne o) 42 37 := ⟨8, by decide +kernel, by decide, rfl⟩
theorem dX8_figure_37 : uD 1 cX8_figure 37 (.aload_n 0) 38 := ⟨by decide +kernel, rfl⟩
theorem dX8_figure_38 : uD 1 cX8_figure 38 (.iconst 2) 39 := ⟨by decide +kernel, rfl⟩
theorem dX8_figure_39 : uD 3 cX8_figure 39 (.invokevirtual 113) 42 := ⟨by decide +kernel, rfl⟩
theorem dX8_figure_42 : uD 1 cX8_figure 42 (.aload_n 0) 43 := ⟨by decide +kernel, rfl⟩
theorem dX8_figure_43 : uD 3 cX8_figure 43 (.getfield 86) 46 := ⟨by decide +kernel, rfl⟩
theorem dX8_figure_46 : uD 1 cX8_figure 46 (.istore_n 3) 47 := ⟨by decide +kernel, rfl⟩
theorem dX8_figure_47 : uD 1 cX8_figure 47 (.aload_n 0) 48 := ⟨by decide +kernel, rfl⟩
theorem dX8_figure_48 : uD 3 cX8_figure 48 (.invokevirtual 92) 51 := ⟨by decide +kernel, rfl⟩
theorem dX8_figure_51 : uJ cX8_figure 51 (fun o => .ifCond .ne o) 58 54 := ⟨7, by decide +kernel, by decide, rfl⟩
theorem dX8_figure_54 : uD 1 cX8_figure 54 (.aload_n 0) 55 := ⟨by decide +kernel, rfl⟩
theorem dX8_figure_55 : uD 3 cX8_figure 55 (.invokevirtual 110) 58 := ⟨by decide +kernel, rfl⟩
theorem dX8_figure_58 : uD 1 cX8_figure 58 (.iload_n 3) 59 := ⟨by decide +kernel, rfl⟩
theorem dX8_figure_59 : uD 1 cX8_figure 59 (.ireturn) 60 := ⟨by decide +kernel, rfl⟩
theorem dX8_ends_0 : uD 1 cX8_ends 0 (.aload_n 0) 1 := ⟨by decide +kernel, rfl⟩
theorem dX8_ends_1 : uD 3 cX8_ends 1 (.getfield 76) 4 := ⟨by decide +kernel, rfl⟩
theorem dX8_ends_4 : uD 1 cX8_ends 4 (.iconst 3) 5 := ⟨by decide +kernel, rfl⟩
theorem dX8_ends_5 : uJ cX8_ends 5 (fun o => .if_icmp .eq o) 13 8 := ⟨8, by decide +kernel, by decide, rfl⟩
theorem dX8_ends_8 : uD 1 cX8_ends 8 (.aload_n 0) 9 := ⟨by decide +kernel, rfl⟩
theorem dX8_ends_9 : uD 1 cX8_ends 9 (.iconst 1) 10 := ⟨by decide +kernel, rfl⟩
theorem dX8_ends_10 : uD 3 cX8_ends 10 (.invokevirtual 113) 13 := ⟨by decide +kernel, rfl⟩
theorem dX8_ends_13 : uD 1 cX8_ends 13 (.aload_n 0) 14 := ⟨by decide +kernel, rfl⟩
theorem dX8_ends_14 : uD 3 cX8_ends 14 (.invokevirtual 92) 17 := ⟨by decide +kernel, rfl⟩
theorem dX8_ends_17 : uJ cX8_ends 17 (fun o => .ifCond .ne o) 24 20 := ⟨7, by decide +kernel, by decide, rfl⟩
theorem dX8_ends_20 : uD 1 cX8_ends 20 (.aload_n 0) 21 := ⟨by decide +kernel, rfl⟩
theorem dX8_ends_21 : uD 3 cX8_ends 21 (.invokevirtual 110) 24 := ⟨by decide +kernel, rfl⟩
theorem dX8_ends_24 : uD 1 cX8_ends 24 (.return_) 25 := ⟨by decide +kernel, rfl⟩
theorem dX8_battery_0 : uD 1 cX8_battery 0 (.aload_n 0) 1 := ⟨by decide +kernel, rfl⟩
theorem dX8_battery_1 : uD 2 cX8_battery 1 (.ldc 117) 3 := ⟨by decide +kernel, rfl⟩
theorem dX8_battery_3 : uD 3 cX8_battery 3 (.invokevirtual 119) 6 := ⟨by decide +kernel, rfl⟩
theorem dX8_battery_6 : uJ cX8_battery 6 (fun o => .ifCond .ne o) 14 9 := ⟨8, by decide +kernel, by decide, rfl⟩
theorem dX8_battery_9 : uD 1 cX8_battery 9 (.aload_n 0) 10 := ⟨by decide +kernel, rfl⟩
theorem dX8_battery_10 : uD 1 cX8_battery 10 (.iconst 1) 11 := ⟨by decide +kernel, rfl⟩
theorem dX8_battery_11 : uD 3 cX8_battery 11 (.invokevirtual 113) 14 := ⟨by decide +kernel, rfl⟩
theorem dX8_battery_14 : uD 1 cX8_battery 14 (.aload_n 0) 15 := ⟨by decide +kernel, rfl⟩
theorem dX8_battery_15 : uD 3 cX8_battery 15 (.getfield 13) 18 := ⟨by decide +kernel, rfl⟩
theorem dX8_battery_18 : uD 1 cX8_battery 18 (.iconst 0) 19 := ⟨by decide +kernel, rfl⟩
theorem dX8_battery_19 : uD 1 cX8_battery 19 (.aload_n 0) 20 := ⟨by decide +kernel, rfl⟩
theorem dX8_battery_20 : uD 1 cX8_battery 20 (.iconst 1) 21 := ⟨by decide +kernel, rfl⟩
theorem dX8_battery_21 : uD 3 cX8_battery 21 (.sipush 500) 24 := ⟨by decide +kernel, rfl⟩
theorem dX8_battery_24 : uD 3 cX8_battery 24 (.invokevirtual 122) 27 := ⟨by decide +kernel, rfl⟩
theorem dX8_battery_27 : uD 1 cX8_battery 27 (.iastore) 28 := ⟨by decide +kernel, rfl⟩
theorem dX8_battery_28 : uD 1 cX8_battery 28 (.aload_n 0) 29 := ⟨by decide +kernel, rfl⟩
theorem dX8_battery_29 : uD 3 cX8_battery 29 (.getfield 13) 32 := ⟨by decide +kernel, rfl⟩
theorem dX8_battery_32 : uD 1 cX8_battery 32 (.iconst 1) 33 := ⟨by decide +kernel, rfl⟩
theorem dX8_battery_33 : uD 1 cX8_battery 33 (.aload_n 0) 34 := ⟨by decide +kernel, rfl⟩
theorem dX8_battery_34 : uD 1 cX8_battery 34 (.iconst 0) 35 := ⟨by decide +kernel, rfl⟩
theorem dX8_battery_35 : uD 1 cX8_battery 35 (.aload_n 0) 36 := ⟨by decide +kernel, rfl⟩
theorem dX8_battery_36 : uD 3 cX8_battery 36 (.getfield 13) 39 := ⟨by decide +kernel, rfl⟩
theorem dX8_battery_39 : uD 1 cX8_battery 39 (.iconst 0) 40 := ⟨by decide +kernel, rfl⟩
theorem dX8_battery_40 : uD 1 cX8_battery 40 (.iaload) 41 := ⟨by decide +kernel, rfl⟩
theorem dX8_battery_41 : uD 3 cX8_battery 41 (.invokevirtual 122) 44 := ⟨by decide +kernel, rfl⟩
theorem dX8_battery_44 : uD 1 cX8_battery 44 (.iastore) 45 := ⟨by decide +kernel, rfl⟩
theorem dX8_battery_45 : uD 1 cX8_battery 45 (.aload_n 0) 46 := ⟨by decide +kernel, rfl⟩
theorem dX8_battery_46 : uD 3 cX8_battery 46 (.getfield 13) 49 := ⟨by decide +kernel, rfl⟩
theorem dX8_battery_49 : uD 1 cX8_battery 49 (.iconst 2) 50 := ⟨by decide +kernel, rfl⟩
theorem dX8_battery_50 : uD 1 cX8_battery 50 (.aload_n 0) 51 := ⟨by decide +kernel, rfl⟩
theorem dX8_battery_51 : uD 1 cX8_battery 51 (.iconst 0) 52 := ⟨by decide +kernel, rfl⟩
theorem dX8_battery_52 : uD 2 cX8_battery 52 (.bipush 50) 54 := ⟨by decide +kernel, rfl⟩
theorem dX8_battery_54 : uD 3 cX8_battery 54 (.invokevirtual 122) 57 := ⟨by decide +kernel, rfl⟩
theorem dX8_battery_57 : uD 1 cX8_battery 57 (.iastore) 58 := ⟨by decide +kernel, rfl⟩
theorem dX8_battery_58 : uD 1 cX8_battery 58 (.aload_n 0) 59 := ⟨by decide +kernel, rfl⟩
theorem dX8_battery_59 : uD 3 cX8_battery 59 (.getfield 13) 62 := ⟨by decide +kernel, rfl⟩
theorem dX8_battery_62 : uD 1 cX8_battery 62 (.iconst 3) 63 := ⟨by decide +kernel, rfl⟩
theorem dX8_battery_63 : uD 1 cX8_battery 63 (.aload_n 0) 64 := ⟨by decide +kernel, rfl⟩
theorem dX8_battery_64 : uD 1 cX8_battery 64 (.iconst 1) 65 := ⟨by decide +kernel, rfl⟩
theorem dX8_battery_65 : uD 2 cX8_battery 65 (.bipush 50) 67 := ⟨by decide +kernel, rfl⟩
theorem dX8_battery_67 : uD 3 cX8_battery 67 (.invokevirtual 122) 70 := ⟨by decide +kernel, rfl⟩
theorem dX8_battery_70 : uD 1 cX8_battery 70 (.iastore) 71 := ⟨by decide +kernel, rfl⟩
theorem dX8_battery_71 : uD 1 cX8_battery 71 (.aload_n 0) 72 := ⟨by decide +kernel, rfl⟩
theorem dX8_battery_72 : uD 3 cX8_battery 72 (.getfield 13) 75 := ⟨by decide +kernel, rfl⟩
theorem dX8_battery_75 : uD 1 cX8_battery 75 (.iconst 4) 76 := ⟨by decide +kernel, rfl⟩
theorem dX8_battery_76 : uD 1 cX8_battery 76 (.aload_n 0) 77 := ⟨by decide +kernel, rfl⟩
theorem dX8_battery_77 : uD 1 cX8_battery 77 (.iconst 1) 78 := ⟨by decide +kernel, rfl⟩
theorem dX8_battery_78 : uD 3 cX8_battery 78 (.sipush 1000) 81 := ⟨by decide +kernel, rfl⟩
theorem dX8_battery_81 : uD 3 cX8_battery 81 (.invokevirtual 122) 84 := ⟨by decide +kernel, rfl⟩
theorem dX8_battery_84 : uD 1 cX8_battery 84 (.iastore) 85 := ⟨by decide +kernel, rfl⟩
theorem dX8_battery_85 : uD 1 cX8_battery 85 (.aload_n 0) 86 := ⟨by decide +kernel, rfl⟩
theorem dX8_battery_86 : uD 3 cX8_battery 86 (.invokevirtual 126) 89 := ⟨by decide +kernel, rfl⟩
theorem dX8_battery_89 : uD 1 cX8_battery 89 (.return_) 90 := ⟨by decide +kernel, rfl⟩
theorem dX8_mode_0 : uD 1 cX8_mode 0 (.aload_n 0) 1 := ⟨by decide +kernel, rfl⟩
theorem dX8_mode_1 : uD 2 cX8_mode 1 (.ldc 129) 3 := ⟨by decide +kernel, rfl⟩
theorem dX8_mode_3 : uD 3 cX8_mode 3 (.invokevirtual 119) 6 := ⟨by decide +kernel, rfl⟩
theorem dX8_mode_6 : uJ cX8_mode 6 (fun o => .ifCond .eq o) 10 9 := ⟨4, by decide +kernel, by decide, rfl⟩
theorem dX8_mode_9 : uD 1 cX8_mode 9 (.return_) 10 := ⟨by decide +kernel, rfl⟩
theorem dX8_mode_10 : uD 1 cX8_mode 10 (.aload_n 0) 11 := ⟨by decide +kernel, rfl⟩
theorem dX8_mode_11 : uD 2 cX8_mode 11 (.ldc 131) 13 := ⟨by decide +kernel, rfl⟩
theorem dX8_mode_13 : uD 3 cX8_mode 13 (.invokevirtual 119) 16 := ⟨by decide +kernel, rfl⟩
theorem dX8_mode_16 : uJ cX8_mode 16 (fun o => .ifCond .eq o) 30 19 := ⟨14, by decide +kernel, by decide, rfl⟩
theorem dX8_mode_19 : uD 1 cX8_mode 19 (.aload_n 0) 20 := ⟨by decide +kernel, rfl⟩
theorem dX8_mode_20 : uD 3 cX8_mode 20 (.getfield 13) 23 := ⟨by decide +kernel, rfl⟩
theorem dX8_mode_23 : uD 2 cX8_mode 23 (.bipush 7) 25 := ⟨by decide +kernel, rfl⟩
theorem dX8_mode_25 : uD 1 cX8_mode 25 (.iconst 2) 26 := ⟨by decide +kernel, rfl⟩
theorem dX8_mode_26 : uD 1 cX8_mode 26 (.iastore) 27 := ⟨by decide +kernel, rfl⟩
theorem dX8_mode_27 : uJ cX8_mode 27 (fun o => .goto o) 66 30 := ⟨39, by decide +kernel, by decide, rfl⟩
theorem dX8_mode_30 : uD 1 cX8_mode 30 (.aload_n 0) 31 := ⟨by decide +kernel, rfl⟩
theorem dX8_mode_31 : uD 2 cX8_mode 31 (.ldc 133) 33 := ⟨by decide +kernel, rfl⟩
theorem dX8_mode_33 : uD 3 cX8_mode 33 (.invokevirtual 119) 36 := ⟨by decide +kernel, rfl⟩
theorem dX8_mode_36 : uJ cX8_mode 36 (fun o => .ifCond .ne o) 44 39 := ⟨8, by decide +kernel, by decide, rfl⟩
theorem dX8_mode_39 : uD 1 cX8_mode 39 (.aload_n 0) 40 := ⟨by decide +kernel, rfl⟩
theorem dX8_mode_40 : uD 1 cX8_mode 40 (.iconst 1) 41 := ⟨by decide +kernel, rfl⟩
theorem dX8_mode_41 : uD 3 cX8_mode 41 (.invokevirtual 113) 44 := ⟨by decide +kernel, rfl⟩
theorem dX8_mode_44 : uD 1 cX8_mode 44 (.aload_n 0) 45 := ⟨by decide +kernel, rfl⟩
theorem dX8_mode_45 : uD 3 cX8_mode 45 (.getfield 13) 48 := ⟨by decide +kernel, rfl⟩
theorem dX8_mode_48 : uD 2 cX8_mode 48 (.bipush 7) 50 := ⟨by decide +kernel, rfl⟩
theorem dX8_mode_50 : uD 1 cX8_mode 50 (.iconst 1) 51 := ⟨by decide +kernel, rfl⟩
theorem dX8_mode_51 : uD 1 cX8_mode 51 (.iastore) 52 := ⟨by decide +kernel, rfl⟩
theorem dX8_mode_52 : uD 1 cX8_mode 52 (.aload_n 0) 53 := ⟨by decide +kernel, rfl⟩
theorem dX8_mode_53 : uD 3 cX8_mode 53 (.getfield 13) 56 := ⟨by decide +kernel, rfl⟩
theorem dX8_mode_56 : uD 2 cX8_mode 56 (.bipush 8) 58 := ⟨by decide +kernel, rfl⟩
theorem dX8_mode_58 : uD 1 cX8_mode 58 (.aload_n 0) 59 := ⟨by decide +kernel, rfl⟩
theorem dX8_mode_59 : uD 1 cX8_mode 59 (.iconst 1) 60 := ⟨by decide +kernel, rfl⟩
theorem dX8_mode_60 : uD 2 cX8_mode 60 (.bipush 99) 62 := ⟨by decide +kernel, rfl⟩
theorem dX8_mode_62 : uD 3 cX8_mode 62 (.invokevirtual 122) 65 := ⟨by decide +kernel, rfl⟩
theorem dX8_mode_65 : uD 1 cX8_mode 65 (.iastore) 66 := ⟨by decide +kernel, rfl⟩
theorem dX8_mode_66 : uD 1 cX8_mode 66 (.return_) 67 := ⟨by decide +kernel, rfl⟩
theorem dX8_setting_0 : uD 1 cX8_setting 0 (.aload_n 0) 1 := ⟨by decide +kernel, rfl⟩
theorem dX8_setting_1 : uD 2 cX8_setting 1 (.ldc 135) 3 := ⟨by decide +kernel, rfl⟩
theorem dX8_setting_3 : uD 3 cX8_setting 3 (.invokevirtual 106) 6 := ⟨by decide +kernel, rfl⟩
theorem dX8_setting_6 : uJ cX8_setting 6 (fun o => .ifCond .eq o) 13 9 := ⟨7, by decide +kernel, by decide, rfl⟩
theorem dX8_setting_9 : uD 1 cX8_setting 9 (.iconst 0) 10 := ⟨by decide +kernel, rfl⟩
theorem dX8_setting_10 : uJ cX8_setting 10 (fun o => .goto o) 40 13 := ⟨30, by decide +kernel, by decide, rfl⟩
theorem dX8_setting_13 : uD 1 cX8_setting 13 (.aload_n 0) 14 := ⟨by decide +kernel, rfl⟩
theorem dX8_setting_14 : uD 2 cX8_setting 14 (.ldc 137) 16 := ⟨by decide +kernel, rfl⟩
theorem dX8_setting_16 : uD 3 cX8_setting 16 (.invokevirtual 106) 19 := ⟨by decide +kernel, rfl⟩
theorem dX8_setting_19 : uJ cX8_setting 19 (fun o => .ifCond .eq o) 26 22 := ⟨7, by decide +kernel, by decide, rfl⟩
theorem dX8_setting_22 : uD 1 cX8_setting 22 (.iconst 1) 23 := ⟨by decide +kernel, rfl⟩
theorem dX8_setting_23 : uJ cX8_setting 23 (fun o => .goto o) 40 26 := ⟨17, by decide +kernel, by decide, rfl⟩
theorem dX8_setting_26 : uD 1 cX8_setting 26 (.aload_n 0) 27 := ⟨by decide +kernel, rfl⟩
theorem dX8_setting_27 : uD 2 cX8_setting 27 (.ldc 139) 29 := ⟨by decide +kernel, rfl⟩
theorem dX8_setting_29 : uD 3 cX8_setting 29 (.invokevirtual 106) 32 := ⟨by decide +kernel, rfl⟩
theorem dX8_setting_32 : uJ cX8_setting 32 (fun o => .ifCond .eq o) 39 35 := ⟨7, by decide +kernel, by decide, rfl⟩
theorem dX8_setting_35 : uD 1 cX8_setting 35 (.iconst 2) 36 := ⟨by decide +kernel, rfl⟩
theorem dX8_setting_36 : uJ cX8_setting 36 (fun o => .goto o) 40 39 := ⟨4, by decide +kernel, by decide, rfl⟩
theorem dX8_setting_39 : uD 1 cX8_setting 39 (.iconst (-1)) 40 := ⟨by decide +kernel, rfl⟩
theorem dX8_setting_40 : uD 1 cX8_setting 40 (.ireturn) 41 := ⟨by decide +kernel, rfl⟩
theorem dX8_settings_0 : uD 1 cX8_settings 0 (.iconst 0) 1 := ⟨by decide +kernel, rfl⟩
theorem dX8_settings_1 : uD 1 cX8_settings 1 (.istore_n 1) 2 := ⟨by decide +kernel, rfl⟩
theorem dX8_settings_2 : uD 1 cX8_settings 2 (.aload_n 0) 3 := ⟨by decide +kernel, rfl⟩
theorem dX8_settings_3 : uD 3 cX8_settings 3 (.invokevirtual 141) 6 := ⟨by decide +kernel, rfl⟩
theorem dX8_settings_6 : uD 1 cX8_settings 6 (.istore_n 2) 7 := ⟨by decide +kernel, rfl⟩
theorem dX8_settings_7 : uD 1 cX8_settings 7 (.iload_n 2) 8 := ⟨by decide +kernel, rfl⟩
theorem dX8_settings_8 : uD 1 cX8_settings 8 (.iconst (-1)) 9 := ⟨by decide +kernel, rfl⟩
theorem dX8_settings_9 : uJ cX8_settings 9 (fun o => .if_icmp .eq o) 101 12 := ⟨92, by decide +kernel, by decide, rfl⟩
theorem dX8_settings_12 : uD 1 cX8_settings 12 (.iload_n 1) 13 := ⟨by decide +kernel, rfl⟩
theorem dX8_settings_13 : uD 1 cX8_settings 13 (.iload_n 2) 14 := ⟨by decide +kernel, rfl⟩
theorem dX8_settings_14 : uD 3 cX8_settings 14 (.invokestatic 144) 17 := ⟨by decide +kernel, rfl⟩
theorem dX8_settings_17 : uJ cX8_settings 17 (fun o => .ifCond .eq o) 25 20 := ⟨8, by decide +kernel, by decide, rfl⟩
theorem dX8_settings_20 : uD 1 cX8_settings 20 (.aload_n 0) 21 := ⟨by decide +kernel, rfl⟩
theorem dX8_settings_21 : uD 1 cX8_settings 21 (.iconst 3) 22 := ⟨by decide +kernel, rfl⟩
theorem dX8_settings_22 : uD 3 cX8_settings 22 (.invokevirtual 113) 25 := ⟨by decide +kernel, rfl⟩
theorem dX8_settings_25 : uD 1 cX8_settings 25 (.iload_n 1) 26 := ⟨by decide +kernel, rfl⟩
theorem dX8_settings_26 : uD 1 cX8_settings 26 (.iconst 1) 27 := ⟨by decide +kernel, rfl⟩
theorem dX8_settings_27 : uD 1 cX8_settings 27 (.iload_n 2) 28 := ⟨by decide +kernel, rfl⟩
theorem dX8_settings_28 : uD 1 cX8_settings 28 (.ishl) 29 := ⟨by decide +kernel, rfl⟩
theorem dX8_settings_29 : uD 1 cX8_settings 29 (.ior) 30 := ⟨by decide +kernel, rfl⟩
theorem dX8_settings_30 : uD 1 cX8_settings 30 (.istore_n 1) 31 := ⟨by decide +kernel, rfl⟩
theorem dX8_settings_31 : uD 1 cX8_settings 31 (.aload_n 0) 32 := ⟨by decide +kernel, rfl⟩
theorem dX8_settings_32 : uD 3 cX8_settings 32 (.invokevirtual 92) 35 := ⟨by decide +kernel, rfl⟩
theorem dX8_settings_35 : uJ cX8_settings 35 (fun o => .ifCond .eq o) 39 38 := ⟨4, by decide +kernel, by decide, rfl⟩
theorem dX8_settings_38 : uD 1 cX8_settings 38 (.return_) 39 := ⟨by decide +kernel, rfl⟩
theorem dX8_settings_39 : uD 1 cX8_settings 39 (.aload_n 0) 40 := ⟨by decide +kernel, rfl⟩
theorem dX8_settings_40 : uD 3 cX8_settings 40 (.invokevirtual 110) 43 := ⟨by decide +kernel, rfl⟩
theorem dX8_settings_43 : uD 1 cX8_settings 43 (.iload_n 2) 44 := ⟨by decide +kernel, rfl⟩
theorem dX8_settings_44 : uJ cX8_settings 44 (fun o => .ifCond .ne o) 61 47 := ⟨17, by decide +kernel, by decide, rfl⟩
theorem dX8_settings_47 : uD 1 cX8_settings 47 (.aload_n 0) 48 := ⟨by decide +kernel, rfl⟩
theorem dX8_settings_48 : uD 3 cX8_settings 48 (.getfield 13) 51 := ⟨by decide +kernel, rfl⟩
theorem dX8_settings_51 : uD 1 cX8_settings 51 (.iconst 5) 52 := ⟨by decide +kernel, rfl⟩
theorem dX8_settings_52 : uD 1 cX8_settings 52 (.aload_n 0) 53 := ⟨by decide +kernel, rfl⟩
theorem dX8_settings_53 : uD 1 cX8_settings 53 (.iconst 0) 54 := ⟨by decide +kernel, rfl⟩
theorem dX8_settings_54 : uD 3 cX8_settings 54 (.sipush 200) 57 := ⟨by decide +kernel, rfl⟩
theorem dX8_settings_57 : uD 3 cX8_settings 57 (.invokevirtual 122) 60 := ⟨by decide +kernel, rfl⟩
theorem dX8_settings_60 : uD 1 cX8_settings 60 (.iastore) 61 := ⟨by decide +kernel, rfl⟩
theorem dX8_settings_61 : uD 1 cX8_settings 61 (.iload_n 2) 62 := ⟨by decide +kernel, rfl⟩
theorem dX8_settings_62 : uD 1 cX8_settings 62 (.iconst 1) 63 := ⟨by decide +kernel, rfl⟩
theorem dX8_settings_63 : uJ cX8_settings 63 (fun o => .if_icmp .ne o) 80 66 := ⟨17, by decide +kernel, by decide, rfl⟩
theorem dX8_settings_66 : uD 1 cX8_settings 66 (.aload_n 0) 67 := ⟨by decide +kernel, rfl⟩
theorem dX8_settings_67 : uD 3 cX8_settings 67 (.getfield 13) 70 := ⟨by decide +kernel, rfl⟩
theorem dX8_settings_70 : uD 2 cX8_settings 70 (.bipush 6) 72 := ⟨by decide +kernel, rfl⟩
theorem dX8_settings_72 : uD 1 cX8_settings 72 (.aload_n 0) 73 := ⟨by decide +kernel, rfl⟩
theorem dX8_settings_73 : uD 1 cX8_settings 73 (.iconst 1) 74 := ⟨by decide +kernel, rfl⟩
theorem dX8_settings_74 : uD 2 cX8_settings 74 (.bipush 24) 76 := ⟨by decide +kernel, rfl⟩
theorem dX8_settings_76 : uD 3 cX8_settings 76 (.invokevirtual 122) 79 := ⟨by decide +kernel, rfl⟩
theorem dX8_settings_79 : uD 1 cX8_settings 79 (.iastore) 80 := ⟨by decide +kernel, rfl⟩
theorem dX8_settings_80 : uD 1 cX8_settings 80 (.iload_n 2) 81 := ⟨by decide +kernel, rfl⟩
theorem dX8_settings_81 : uD 1 cX8_settings 81 (.iconst 2) 82 := ⟨by decide +kernel, rfl⟩
theorem dX8_settings_82 : uJ cX8_settings 82 (fun o => .if_icmp .ne o) 89 85 := ⟨7, by decide +kernel, by decide, rfl⟩
theorem dX8_settings_85 : uD 1 cX8_settings 85 (.aload_n 0) 86 := ⟨by decide +kernel, rfl⟩
theorem dX8_settings_86 : uD 3 cX8_settings 86 (.invokevirtual 148) 89 := ⟨by decide +kernel, rfl⟩
theorem dX8_settings_89 : uD 1 cX8_settings 89 (.aload_n 0) 90 := ⟨by decide +kernel, rfl⟩
theorem dX8_settings_90 : uD 3 cX8_settings 90 (.invokevirtual 126) 93 := ⟨by decide +kernel, rfl⟩
theorem dX8_settings_93 : uD 1 cX8_settings 93 (.aload_n 0) 94 := ⟨by decide +kernel, rfl⟩
theorem dX8_settings_94 : uD 3 cX8_settings 94 (.invokevirtual 141) 97 := ⟨by decide +kernel, rfl⟩
theorem dX8_settings_97 : uD 1 cX8_settings 97 (.istore_n 2) 98 := ⟨by decide +kernel, rfl⟩
theorem dX8_settings_98 : uJ cX8_settings 98 (fun o => .goto o) 7 101 := ⟨(-91), by decide +kernel, by decide, rfl⟩
theorem dX8_settings_101 : uD 1 cX8_settings 101 (.return_) 102 := ⟨by decide +kernel, rfl⟩
theorem dX8_oneDevice_0 : uD 1 cX8_oneDevice 0 (.aload_n 0) 1 := ⟨by decide +kernel, rfl⟩
theorem dX8_oneDevice_1 : uD 3 cX8_oneDevice 1 (.getfield 13) 4 := ⟨by decide +kernel, rfl⟩
theorem dX8_oneDevice_4 : uD 2 cX8_oneDevice 4 (.bipush 9) 6 := ⟨by decide +kernel, rfl⟩
theorem dX8_oneDevice_6 : uD 1 cX8_oneDevice 6 (.iaload) 7 := ⟨by decide +kernel, rfl⟩
theorem dX8_oneDevice_7 : uD 1 cX8_oneDevice 7 (.iconst 5) 8 := ⟨by decide +kernel, rfl⟩
theorem dX8_oneDevice_8 : uJ cX8_oneDevice 8 (fun o => .if_icmp .ne o) 16 11 := ⟨8, by decide +kernel, by decide, rfl⟩
theorem dX8_oneDevice_11 : uD 1 cX8_oneDevice 11 (.aload_n 0) 12 := ⟨by decide +kernel, rfl⟩
theorem dX8_oneDevice_12 : uD 1 cX8_oneDevice 12 (.iconst 4) 13 := ⟨by decide +kernel, rfl⟩
theorem dX8_oneDevice_13 : uD 3 cX8_oneDevice 13 (.invokevirtual 113) 16 := ⟨by decide +kernel, rfl⟩
theorem dX8_oneDevice_16 : uD 1 cX8_oneDevice 16 (.aload_n 0) 17 := ⟨by decide +kernel, rfl⟩
theorem dX8_oneDevice_17 : uD 3 cX8_oneDevice 17 (.invokevirtual 92) 20 := ⟨by decide +kernel, rfl⟩
theorem dX8_oneDevice_20 : uJ cX8_oneDevice 20 (fun o => .ifCond .eq o) 24 23 := ⟨4, by decide +kernel, by decide, rfl⟩
theorem dX8_oneDevice_23 : uD 1 cX8_oneDevice 23 (.return_) 24 := ⟨by decide +kernel, rfl⟩
theorem dX8_oneDevice_24 : uD 1 cX8_oneDevice 24 (.aload_n 0) 25 := ⟨by decide +kernel, rfl⟩
theorem dX8_oneDevice_25 : uD 3 cX8_oneDevice 25 (.invokevirtual 110) 28 := ⟨by decide +kernel, rfl⟩
theorem dX8_oneDevice_28 : uD 2 cX8_oneDevice 28 (.bipush 10) 30 := ⟨by decide +kernel, rfl⟩
theorem dX8_oneDevice_30 : uD 1 cX8_oneDevice 30 (.iconst 3) 31 := ⟨by decide +kernel, rfl⟩
theorem dX8_oneDevice_31 : uD 1 cX8_oneDevice 31 (.aload_n 0) 32 := ⟨by decide +kernel, rfl⟩
theorem dX8_oneDevice_32 : uD 3 cX8_oneDevice 32 (.getfield 13) 35 := ⟨by decide +kernel, rfl⟩
theorem dX8_oneDevice_35 : uD 2 cX8_oneDevice 35 (.bipush 9) 37 := ⟨by decide +kernel, rfl⟩
theorem dX8_oneDevice_37 : uD 1 cX8_oneDevice 37 (.iaload) 38 := ⟨by decide +kernel, rfl⟩
theorem dX8_oneDevice_38 : uD 1 cX8_oneDevice 38 (.imul) 39 := ⟨by decide +kernel, rfl⟩
theorem dX8_oneDevice_39 : uD 1 cX8_oneDevice 39 (.iadd) 40 := ⟨by decide +kernel, rfl⟩
theorem dX8_oneDevice_40 : uD 1 cX8_oneDevice 40 (.istore_n 1) 41 := ⟨by decide +kernel, rfl⟩
theorem dX8_oneDevice_41 : uD 1 cX8_oneDevice 41 (.aload_n 0) 42 := ⟨by decide +kernel, rfl⟩
theorem dX8_oneDevice_42 : uD 3 cX8_oneDevice 42 (.getfield 13) 45 := ⟨by decide +kernel, rfl⟩
theorem dX8_oneDevice_45 : uD 1 cX8_oneDevice 45 (.iload_n 1) 46 := ⟨by decide +kernel, rfl⟩
theorem dX8_oneDevice_46 : uD 1 cX8_oneDevice 46 (.iconst 0) 47 := ⟨by decide +kernel, rfl⟩
theorem dX8_oneDevice_47 : uD 1 cX8_oneDevice 47 (.iadd) 48 := ⟨by decide +kernel, rfl⟩
theorem dX8_oneDevice_48 : uD 1 cX8_oneDevice 48 (.aload_n 0) 49 := ⟨by decide +kernel, rfl⟩
theorem dX8_oneDevice_49 : uD 1 cX8_oneDevice 49 (.iconst 0) 50 := ⟨by decide +kernel, rfl⟩
theorem dX8_oneDevice_50 : uD 3 cX8_oneDevice 50 (.sipush 200) 53 := ⟨by decide +kernel, rfl⟩
theorem dX8_oneDevice_53 : uD 3 cX8_oneDevice 53 (.invokevirtual 122) 56 := ⟨by decide +kernel, rfl⟩
theorem dX8_oneDevice_56 : uD 1 cX8_oneDevice 56 (.iastore) 57 := ⟨by decide +kernel, rfl⟩
theorem dX8_oneDevice_57 : uD 1 cX8_oneDevice 57 (.aload_n 0) 58 := ⟨by decide +kernel, rfl⟩
theorem dX8_oneDevice_58 : uD 3 cX8_oneDevice 58 (.getfield 13) 61 := ⟨by decide +kernel, rfl⟩
theorem dX8_oneDevice_61 : uD 1 cX8_oneDevice 61 (.iload_n 1) 62 := ⟨by decide +kernel, rfl⟩
theorem dX8_oneDevice_62 : uD 1 cX8_oneDevice 62 (.iconst 1) 63 := ⟨by decide +kernel, rfl⟩
theorem dX8_oneDevice_63 : uD 1 cX8_oneDevice 63 (.iadd) 64 := ⟨by decide +kernel, rfl⟩
theorem dX8_oneDevice_64 : uD 1 cX8_oneDevice 64 (.aload_n 0) 65 := ⟨by decide +kernel, rfl⟩
theorem dX8_oneDevice_65 : uD 1 cX8_oneDevice 65 (.iconst 0) 66 := ⟨by decide +kernel, rfl⟩
theorem dX8_oneDevice_66 : uD 2 cX8_oneDevice 66 (.bipush 50) 68 := ⟨by decide +kernel, rfl⟩
theorem dX8_oneDevice_68 : uD 3 cX8_oneDevice 68 (.invokevirtual 122) 71 := ⟨by decide +kernel, rfl⟩
theorem dX8_oneDevice_71 : uD 1 cX8_oneDevice 71 (.iastore) 72 := ⟨by decide +kernel, rfl⟩
theorem dX8_oneDevice_72 : uD 1 cX8_oneDevice 72 (.aload_n 0) 73 := ⟨by decide +kernel, rfl⟩
theorem dX8_oneDevice_73 : uD 3 cX8_oneDevice 73 (.getfield 13) 76 := ⟨by decide +kernel, rfl⟩
theorem dX8_oneDevice_76 : uD 1 cX8_oneDevice 76 (.iload_n 1) 77 := ⟨by decide +kernel, rfl⟩
theorem dX8_oneDevice_77 : uD 1 cX8_oneDevice 77 (.iconst 2) 78 := ⟨by decide +kernel, rfl⟩
theorem dX8_oneDevice_78 : uD 1 cX8_oneDevice 78 (.iadd) 79 := ⟨by decide +kernel, rfl⟩
theorem dX8_oneDevice_79 : uD 1 cX8_oneDevice 79 (.aload_n 0) 80 := ⟨by decide +kernel, rfl⟩
theorem dX8_oneDevice_80 : uD 1 cX8_oneDevice 80 (.iconst 1) 81 := ⟨by decide +kernel, rfl⟩
theorem dX8_oneDevice_81 : uD 2 cX8_oneDevice 81 (.bipush 50) 83 := ⟨by decide +kernel, rfl⟩
theorem dX8_oneDevice_83 : uD 3 cX8_oneDevice 83 (.invokevirtual 122) 86 := ⟨by decide +kernel, rfl⟩
theorem dX8_oneDevice_86 : uD 1 cX8_oneDevice 86 (.iastore) 87 := ⟨by decide +kernel, rfl⟩
theorem dX8_oneDevice_87 : uD 1 cX8_oneDevice 87 (.aload_n 0) 88 := ⟨by decide +kernel, rfl⟩
theorem dX8_oneDevice_88 : uD 3 cX8_oneDevice 88 (.getfield 13) 91 := ⟨by decide +kernel, rfl⟩
theorem dX8_oneDevice_91 : uD 2 cX8_oneDevice 91 (.bipush 9) 93 := ⟨by decide +kernel, rfl⟩
theorem dX8_oneDevice_93 : uD 1 cX8_oneDevice 93 (.dup2) 94 := ⟨by decide +kernel, rfl⟩
theorem dX8_oneDevice_94 : uD 1 cX8_oneDevice 94 (.iaload) 95 := ⟨by decide +kernel, rfl⟩
theorem dX8_oneDevice_95 : uD 1 cX8_oneDevice 95 (.iconst 1) 96 := ⟨by decide +kernel, rfl⟩
theorem dX8_oneDevice_96 : uD 1 cX8_oneDevice 96 (.iadd) 97 := ⟨by decide +kernel, rfl⟩
theorem dX8_oneDevice_97 : uD 1 cX8_oneDevice 97 (.iastore) 98 := ⟨by decide +kernel, rfl⟩
theorem dX8_oneDevice_98 : uD 1 cX8_oneDevice 98 (.aload_n 0) 99 := ⟨by decide +kernel, rfl⟩
theorem dX8_oneDevice_99 : uD 3 cX8_oneDevice 99 (.invokevirtual 126) 102 := ⟨by decide +kernel, rfl⟩
theorem dX8_oneDevice_102 : uD 1 cX8_oneDevice 102 (.return_) 103 := ⟨by decide +kernel, rfl⟩
theorem dX8_load_0 : uD 1 cX8_load 0 (.aload_n 0) 1 := ⟨by decide +kernel, rfl⟩
theorem dX8_load_1 : uD 1 cX8_load 1 (.iconst 0) 2 := ⟨by decide +kernel, rfl⟩
theorem dX8_load_2 : uD 3 cX8_load 2 (.putfield 49) 5 := ⟨by decide +kernel, rfl⟩
theorem dX8_load_5 : uD 1 cX8_load 5 (.aload_n 0) 6 := ⟨by decide +kernel, rfl⟩
theorem dX8_load_6 : uD 1 cX8_load 6 (.aload_n 0) 7 := ⟨by decide +kernel, rfl⟩
theorem dX8_load_7 : uD 3 cX8_load 7 (.getfield 52) 10 := ⟨by decide +kernel, rfl⟩
theorem dX8_load_10 : uD 3 cX8_load 10 (.putfield 63) 13 := ⟨by decide +kernel, rfl⟩
theorem dX8_load_13 : uD 1 cX8_load 13 (.aload_n 0) 14 := ⟨by decide +kernel, rfl⟩
theorem dX8_load_14 : uD 1 cX8_load 14 (.iconst 0) 15 := ⟨by decide +kernel, rfl⟩
theorem dX8_load_15 : uD 3 cX8_load 15 (.putfield 52) 18 := ⟨by decide +kernel, rfl⟩
theorem dX8_load_18 : uD 1 cX8_load 18 (.aload_n 0) 19 := ⟨by decide +kernel, rfl⟩
theorem dX8_load_19 : uD 1 cX8_load 19 (.iconst 0) 20 := ⟨by decide +kernel, rfl⟩
theorem dX8_load_20 : uD 3 cX8_load 20 (.putfield 66) 23 := ⟨by decide +kernel, rfl⟩
theorem dX8_load_23 : uD 1 cX8_load 23 (.aload_n 0) 24 := ⟨by decide +kernel, rfl⟩
theorem dX8_load_24 : uD 1 cX8_load 24 (.iconst 0) 25 := ⟨by decide +kernel, rfl⟩
theorem dX8_load_25 : uD 3 cX8_load 25 (.putfield 89) 28 := ⟨by decide +kernel, rfl⟩
theorem dX8_load_28 : uD 1 cX8_load 28 (.aload_n 0) 29 := ⟨by decide +kernel, rfl⟩
theorem dX8_load_29 : uD 1 cX8_load 29 (.iconst (-1)) 30 := ⟨by decide +kernel, rfl⟩
theorem dX8_load_30 : uD 3 cX8_load 30 (.putfield 29) 33 := ⟨by decide +kernel, rfl⟩
theorem dX8_load_33 : uD 1 cX8_load 33 (.aload_n 0) 34 := ⟨by decide +kernel, rfl⟩
theorem dX8_load_34 : uD 3 cX8_load 34 (.invokevirtual 43) 37 := ⟨by decide +kernel, rfl⟩
theorem dX8_load_37 : uD 1 cX8_load 37 (.aload_n 0) 38 := ⟨by decide +kernel, rfl⟩
theorem dX8_load_38 : uD 3 cX8_load 38 (.invokevirtual 110) 41 := ⟨by decide +kernel, rfl⟩
theorem dX8_load_41 : uD 1 cX8_load 41 (.aload_n 0) 42 := ⟨by decide +kernel, rfl⟩
theorem dX8_load_42 : uD 3 cX8_load 42 (.invokevirtual 150) 45 := ⟨by decide +kernel, rfl⟩
theorem dX8_load_45 : uD 1 cX8_load 45 (.aload_n 0) 46 := ⟨by decide +kernel, rfl⟩
theorem dX8_load_46 : uD 3 cX8_load 46 (.invokevirtual 152) 49 := ⟨by decide +kernel, rfl⟩
theorem dX8_load_49 : uD 1 cX8_load 49 (.aload_n 0) 50 := ⟨by decide +kernel, rfl⟩
theorem dX8_load_50 : uD 2 cX8_load 50 (.ldc 155) 52 := ⟨by decide +kernel, rfl⟩
theorem dX8_load_52 : uD 3 cX8_load 52 (.invokevirtual 106) 55 := ⟨by decide +kernel, rfl⟩
theorem dX8_load_55 : uJ cX8_load 55 (fun o => .ifCond .eq o) 65 58 := ⟨10, by decide +kernel, by decide, rfl⟩
theorem dX8_load_58 : uD 1 cX8_load 58 (.aload_n 0) 59 := ⟨by decide +kernel, rfl⟩
theorem dX8_load_59 : uD 3 cX8_load 59 (.invokevirtual 157) 62 := ⟨by decide +kernel, rfl⟩
theorem dX8_load_62 : uJ cX8_load 62 (fun o => .goto o) 49 65 := ⟨(-13), by decide +kernel, by decide, rfl⟩
theorem dX8_load_65 : uD 1 cX8_load 65 (.aload_n 0) 66 := ⟨by decide +kernel, rfl⟩
theorem dX8_load_66 : uD 3 cX8_load 66 (.invokevirtual 92) 69 := ⟨by decide +kernel, rfl⟩
theorem dX8_load_69 : uJ cX8_load 69 (fun o => .ifCond .ne o) 84 72 := ⟨15, by decide +kernel, by decide, rfl⟩
theorem dX8_load_72 : uD 1 cX8_load 72 (.aload_n 0) 73 := ⟨by decide +kernel, rfl⟩
theorem dX8_load_73 : uD 3 cX8_load 73 (.getfield 76) 76 := ⟨by decide +kernel, rfl⟩
theorem dX8_load_76 : uJ cX8_load 76 (fun o => .ifCond .eq o) 84 79 := ⟨8, by decide +kernel, by decide, rfl⟩
theorem dX8_load_79 : uD 1 cX8_load 79 (.aload_n 0) 80 := ⟨by decide +kernel, rfl⟩
theorem dX8_load_80 : uD 1 cX8_load 80 (.iconst 1) 81 := ⟨by decide +kernel, rfl⟩
theorem dX8_load_81 : uD 3 cX8_load 81 (.invokevirtual 113) 84 := ⟨by decide +kernel, rfl⟩
theorem dX8_load_84 : uD 1 cX8_load 84 (.aload_n 0) 85 := ⟨by decide +kernel, rfl⟩
theorem dX8_load_85 : uD 1 cX8_load 85 (.aload_n 0) 86 := ⟨by decide +kernel, rfl⟩
theorem dX8_load_86 : uD 3 cX8_load 86 (.invokevirtual 92) 89 := ⟨by decide +kernel, rfl⟩
theorem dX8_load_89 : uJ cX8_load 89 (fun o => .ifCond .ne o) 96 92 := ⟨7, by decide +kernel, by decide, rfl⟩
theorem dX8_load_92 : uD 1 cX8_load 92 (.iconst 1) 93 := ⟨by decide +kernel, rfl⟩
theorem dX8_load_93 : uJ cX8_load 93 (fun o => .goto o) 97 96 := ⟨4, by decide +kernel, by decide, rfl⟩
theorem dX8_load_96 : uD 1 cX8_load 96 (.iconst 0) 97 := ⟨by decide +kernel, rfl⟩
theorem dX8_load_97 : uD 1 cX8_load 97 (.iconst 1) 98 := ⟨by decide +kernel, rfl⟩
theorem dX8_load_98 : uD 3 cX8_load 98 (.invokevirtual 55) 101 := ⟨by decide +kernel, rfl⟩
theorem dX8_load_101 : uJ cX8_load 101 (fun o => .ifCond .ne o) 106 104 := ⟨5, by decide +kernel, by decide, rfl⟩
theorem dX8_load_104 : uD 1 cX8_load 104 (.iconst 0) 105 := ⟨by decide +kernel, rfl⟩
theorem dX8_load_105 : uD 1 cX8_load 105 (.ireturn) 106 := ⟨by decide +kernel, rfl⟩
theorem dX8_load_106 : uD 1 cX8_load 106 (.aload_n 0) 107 := ⟨by decide +kernel, rfl⟩
theorem dX8_load_107 : uD 3 cX8_load 107 (.invokevirtual 46) 110 := ⟨by decide +kernel, rfl⟩
theorem dX8_load_110 : uD 1 cX8_load 110 (.aload_n 0) 111 := ⟨by decide +kernel, rfl⟩
theorem dX8_load_111 : uD 3 cX8_load 111 (.getfield 7) 114 := ⟨by decide +kernel, rfl⟩
theorem dX8_load_114 : uD 2 cX8_load 114 (.bipush 9) 116 := ⟨by decide +kernel, rfl⟩
theorem dX8_load_116 : uD 1 cX8_load 116 (.iaload) 117 := ⟨by decide +kernel, rfl⟩
theorem dX8_load_117 : uD 1 cX8_load 117 (.ireturn) 118 := ⟨by decide +kernel, rfl⟩
theorem dX8_errorCode_0 : uD 1 cX8_errorCode 0 (.aload_n 0) 1 := ⟨by decide +kernel, rfl⟩
theorem dX8_errorCode_1 : uD 1 cX8_errorCode 1 (.iconst 0) 2 := ⟨by decide +kernel, rfl⟩
theorem dX8_errorCode_2 : uD 3 cX8_errorCode 2 (.putfield 49) 5 := ⟨by decide +kernel, rfl⟩
theorem dX8_errorCode_5 : uD 1 cX8_errorCode 5 (.aload_n 0) 6 := ⟨by decide +kernel, rfl⟩
theorem dX8_errorCode_6 : uD 3 cX8_errorCode 6 (.getfield 89) 9 := ⟨by decide +kernel, rfl⟩
theorem dX8_errorCode_9 : uD 1 cX8_errorCode 9 (.ireturn) 10 := ⟨by decide +kernel, rfl⟩
theorem dX8_errorPosition_0 : uD 1 cX8_errorPosition 0 (.aload_n 0) 1 := ⟨by decide +kernel, rfl⟩
theorem dX8_errorPosition_1 : uD 1 cX8_errorPosition 1 (.iconst 0) 2 := ⟨by decide +kernel, rfl⟩
theorem dX8_errorPosition_2 : uD 3 cX8_errorPosition 2 (.putfield 49) 5 := ⟨by decide +kernel, rfl⟩
theorem dX8_errorPosition_5 : uD 1 cX8_errorPosition 5 (.aload_n 0) 6 := ⟨by decide +kernel, rfl⟩
theorem dX8_errorPosition_6 : uD 3 cX8_errorPosition 6 (.getfield 29) 9 := ⟨by decide +kernel, rfl⟩
theorem dX8_errorPosition_9 : uD 1 cX8_errorPosition 9 (.ireturn) 10 := ⟨by decide +kernel, rfl⟩
theorem dX8_isDevice_0 : uD 1 cX8_isDevice 0 (.iload_n 1) 1 := ⟨by decide +kernel, rfl⟩
theorem dX8_isDevice_1 : uD 1 cX8_isDevice 1 (.iconst 0) 2 := ⟨by decide +kernel, rfl⟩
theorem dX8_isDevice_2 : uD 1 cX8_isDevice 2 (.aload_n 0) 3 := ⟨by decide +kernel, rfl⟩
theorem dX8_isDevice_3 : uD 3 cX8_isDevice 3 (.getfield 7) 6 := ⟨by decide +kernel, rfl⟩
theorem dX8_isDevice_6 : uD 2 cX8_isDevice 6 (.bipush 9) 8 := ⟨by decide +kernel, rfl⟩
theorem dX8_isDevice_8 : uD 1 cX8_isDevice 8 (.iaload) 9 := ⟨by decide +kernel, rfl⟩
theorem dX8_isDevice_9 : uD 1 cX8_isDevice 9 (.iconst 1) 10 := ⟨by decide +kernel, rfl⟩
theorem dX8_isDevice_10 : uD 1 cX8_isDevice 10 (.isub) 11 := ⟨by decide +kernel, rfl⟩
theorem dX8_isDevice_11 : uD 3 cX8_isDevice 11 (.invokestatic 59) 14 := ⟨by decide +kernel, rfl⟩
theorem dX8_isDevice_14 : uD 1 cX8_isDevice 14 (.ireturn) 15 := ⟨by decide +kernel, rfl⟩
theorem dX8_isBlock_0 : uD 1 cX8_isBlock 0 (.iload_n 1) 1 := ⟨by decide +kernel, rfl⟩
theorem dX8_isBlock_1 : uD 1 cX8_isBlock 1 (.iconst 0) 2 := ⟨by decide +kernel, rfl⟩
theorem dX8_isBlock_2 : uD 1 cX8_isBlock 2 (.aload_n 0) 3 := ⟨by decide +kernel, rfl⟩
theorem dX8_isBlock_3 : uD 3 cX8_isBlock 3 (.getfield 7) 6 := ⟨by decide +kernel, rfl⟩
theorem dX8_isBlock_6 : uD 2 cX8_isBlock 6 (.bipush 36) 8 := ⟨by decide +kernel, rfl⟩
theorem dX8_isBlock_8 : uD 1 cX8_isBlock 8 (.iaload) 9 := ⟨by decide +kernel, rfl⟩
theorem dX8_isBlock_9 : uD 1 cX8_isBlock 9 (.iconst 1) 10 := ⟨by decide +kernel, rfl⟩
theorem dX8_isBlock_10 : uD 1 cX8_isBlock 10 (.isub) 11 := ⟨by decide +kernel, rfl⟩
theorem dX8_isBlock_11 : uD 3 cX8_isBlock 11 (.invokestatic 59) 14 := ⟨by decide +kernel, rfl⟩
theorem dX8_isBlock_14 : uD 1 cX8_isBlock 14 (.ireturn) 15 := ⟨by decide +kernel, rfl⟩
theorem dX8_of_0 : uD 1 cX8_of 0 (.aload_n 0) 1 := ⟨by decide +kernel, rfl⟩
theorem dX8_of_1 : uD 3 cX8_of 1 (.getfield 7) 4 := ⟨by decide +kernel, rfl⟩
theorem dX8_of_4 : uD 2 cX8_of 4 (.bipush 37) 6 := ⟨by decide +kernel, rfl⟩
theorem dX8_of_6 : uD 1 cX8_of 6 (.iconst 3) 7 := ⟨by decide +kernel, rfl⟩
theorem dX8_of_7 : uD 1 cX8_of 7 (.iload_n 1) 8 := ⟨by decide +kernel, rfl⟩
theorem dX8_of_8 : uD 1 cX8_of 8 (.imul) 9 := ⟨by decide +kernel, rfl⟩
theorem dX8_of_9 : uD 1 cX8_of 9 (.iadd) 10 := ⟨by decide +kernel, rfl⟩
theorem dX8_of_10 : uD 1 cX8_of 10 (.iload_n 2) 11 := ⟨by decide +kernel, rfl⟩
theorem dX8_of_11 : uD 1 cX8_of 11 (.iadd) 12 := ⟨by decide +kernel, rfl⟩
theorem dX8_of_12 : uD 1 cX8_of 12 (.iaload) 13 := ⟨by decide +kernel, rfl⟩
theorem dX8_of_13 : uD 1 cX8_of 13 (.ireturn) 14 := ⟨by decide +kernel, rfl⟩
theorem dX8_deviceOf_0 : uD 1 cX8_deviceOf 0 (.aload_n 0) 1 := ⟨by decide +kernel, rfl⟩
theorem dX8_deviceOf_1 : uD 1 cX8_deviceOf 1 (.iload_n 1) 2 := ⟨by decide +kernel, rfl⟩
theorem dX8_deviceOf_2 : uD 1 cX8_deviceOf 2 (.iconst 0) 3 := ⟨by decide +kernel, rfl⟩
theorem dX8_deviceOf_3 : uD 3 cX8_deviceOf 3 (.invokevirtual 160) 6 := ⟨by decide +kernel, rfl⟩
theorem dX8_deviceOf_6 : uD 2 cX8_deviceOf 6 (.bipush 100) 8 := ⟨by decide +kernel, rfl⟩
theorem dX8_deviceOf_8 : uD 1 cX8_deviceOf 8 (.idiv) 9 := ⟨by decide +kernel, rfl⟩
theorem dX8_deviceOf_9 : uD 1 cX8_deviceOf 9 (.ireturn) 10 := ⟨by decide +kernel, rfl⟩
theorem dX8_hasFailed_0 : uD 1 cX8_hasFailed 0 (.aload_n 0) 1 := ⟨by decide +kernel, rfl⟩
theorem dX8_hasFailed_1 : uD 3 cX8_hasFailed 1 (.getfield 7) 4 := ⟨by decide +kernel, rfl⟩
theorem dX8_hasFailed_4 : uD 2 cX8_hasFailed 4 (.bipush 25) 6 := ⟨by decide +kernel, rfl⟩
theorem dX8_hasFailed_6 : uD 1 cX8_hasFailed 6 (.iaload) 7 := ⟨by decide +kernel, rfl⟩
theorem dX8_hasFailed_7 : uD 1 cX8_hasFailed 7 (.iload_n 1) 8 := ⟨by decide +kernel, rfl⟩
theorem dX8_hasFailed_8 : uD 3 cX8_hasFailed 8 (.invokestatic 144) 11 := ⟨by decide +kernel, rfl⟩
theorem dX8_hasFailed_11 : uD 1 cX8_hasFailed 11 (.ireturn) 12 := ⟨by decide +kernel, rfl⟩
theorem dX8_blockAt_0 : uD 1 cX8_blockAt 0 (.iconst 0) 1 := ⟨by decide +kernel, rfl⟩
theorem dX8_blockAt_1 : uD 1 cX8_blockAt 1 (.istore_n 3) 2 := ⟨by decide +kernel, rfl⟩
theorem dX8_blockAt_2 : uD 1 cX8_blockAt 2 (.iload_n 3) 3 := ⟨by decide +kernel, rfl⟩
theorem dX8_blockAt_3 : uD 1 cX8_blockAt 3 (.aload_n 0) 4 := ⟨by decide +kernel, rfl⟩
theorem dX8_blockAt_4 : uD 3 cX8_blockAt 4 (.getfield 7) 7 := ⟨by decide +kernel, rfl⟩
theorem dX8_blockAt_7 : uD 2 cX8_blockAt 7 (.bipush 36) 9 := ⟨by decide +kernel, rfl⟩
theorem dX8_blockAt_9 : uD 1 cX8_blockAt 9 (.iaload) 10 := ⟨by decide +kernel, rfl⟩
theorem dX8_blockAt_10 : uJ cX8_blockAt 10 (fun o => .if_icmp .ge o) 36 13 := ⟨26, by decide +kernel, by decide, rfl⟩
theorem dX8_blockAt_13 : uD 1 cX8_blockAt 13 (.aload_n 0) 14 := ⟨by decide +kernel, rfl⟩
theorem dX8_blockAt_14 : uD 1 cX8_blockAt 14 (.iload_n 3) 15 := ⟨by decide +kernel, rfl⟩
theorem dX8_blockAt_15 : uD 1 cX8_blockAt 15 (.iconst 0) 16 := ⟨by decide +kernel, rfl⟩
theorem dX8_blockAt_16 : uD 3 cX8_blockAt 16 (.invokevirtual 160) 19 := ⟨by decide +kernel, rfl⟩
theorem dX8_blockAt_19 : uD 2 cX8_blockAt 19 (.bipush 100) 21 := ⟨by decide +kernel, rfl⟩
theorem dX8_blockAt_21 : uD 1 cX8_blockAt 21 (.iload_n 1) 22 := ⟨by decide +kernel, rfl⟩
theorem dX8_blockAt_22 : uD 1 cX8_blockAt 22 (.imul) 23 := ⟨by decide +kernel, rfl⟩
theorem dX8_blockAt_23 : uD 1 cX8_blockAt 23 (.iload_n 2) 24 := ⟨by decide +kernel, rfl⟩
theorem dX8_blockAt_24 : uD 1 cX8_blockAt 24 (.iadd) 25 := ⟨by decide +kernel, rfl⟩
theorem dX8_blockAt_25 : uJ cX8_blockAt 25 (fun o => .if_icmp .ne o) 30 28 := ⟨5, by decide +kernel, by decide, rfl⟩
theorem dX8_blockAt_28 : uD 1 cX8_blockAt 28 (.iload_n 3) 29 := ⟨by decide +kernel, rfl⟩
theorem dX8_blockAt_29 : uD 1 cX8_blockAt 29 (.ireturn) 30 := ⟨by decide +kernel, rfl⟩
theorem dX8_blockAt_30 : uD 3 cX8_blockAt 30 (.iinc 3 1) 33 := ⟨by decide +kernel, rfl⟩
theorem dX8_blockAt_33 : uJ cX8_blockAt 33 (fun o => .goto o) 2 36 := ⟨(-31), by decide +kernel, by decide, rfl⟩
theorem dX8_blockAt_36 : uD 1 cX8_blockAt 36 (.iconst (-1)) 37 := ⟨by decide +kernel, rfl⟩
theorem dX8_blockAt_37 : uD 1 cX8_blockAt 37 (.ireturn) 38 := ⟨by decide +kernel, rfl⟩
theorem dX8_comes_0 : uD 2 cX8_comes 0 (.bipush 100) 2 := ⟨by decide +kernel, rfl⟩
theorem dX8_comes_2 : uD 1 cX8_comes 2 (.iload_n 1) 3 := ⟨by decide +kernel, rfl⟩
theorem dX8_comes_3 : uD 1 cX8_comes 3 (.imul) 4 := ⟨by decide +kernel, rfl⟩
theorem dX8_comes_4 : uD 1 cX8_comes 4 (.iload_n 2) 5 := ⟨by decide +kernel, rfl⟩
theorem dX8_comes_5 : uD 1 cX8_comes 5 (.iadd) 6 := ⟨by decide +kernel, rfl⟩
theorem dX8_comes_6 : uD 2 cX8_comes 6 (.istore 4) 8 := ⟨by decide +kernel, rfl⟩
theorem dX8_comes_8 : uD 1 cX8_comes 8 (.aload_n 0) 9 := ⟨by decide +kernel, rfl⟩
theorem dX8_comes_9 : uD 3 cX8_comes 9 (.getfield 7) 12 := ⟨by decide +kernel, rfl⟩
theorem dX8_comes_12 : uD 2 cX8_comes 12 (.bipush 36) 14 := ⟨by decide +kernel, rfl⟩
theorem dX8_comes_14 : uD 1 cX8_comes 14 (.iaload) 15 := ⟨by decide +kernel, rfl⟩
theorem dX8_comes_15 : uD 2 cX8_comes 15 (.istore 5) 17 := ⟨by decide +kernel, rfl⟩
theorem dX8_comes_17 : uD 2 cX8_comes 17 (.iload 5) 19 := ⟨by decide +kernel, rfl⟩
theorem dX8_comes_19 : uJ cX8_comes 19 (fun o => .ifCond .le o) 82 22 := ⟨63, by decide +kernel, by decide, rfl⟩
theorem dX8_comes_22 : uD 1 cX8_comes 22 (.aload_n 0) 23 := ⟨by decide +kernel, rfl⟩
theorem dX8_comes_23 : uD 2 cX8_comes 23 (.iload 5) 25 := ⟨by decide +kernel, rfl⟩
theorem dX8_comes_25 : uD 1 cX8_comes 25 (.iconst 1) 26 := ⟨by decide +kernel, rfl⟩
theorem dX8_comes_26 : uD 1 cX8_comes 26 (.isub) 27 := ⟨by decide +kernel, rfl⟩
theorem dX8_comes_27 : uD 1 cX8_comes 27 (.iconst 0) 28 := ⟨by decide +kernel, rfl⟩
theorem dX8_comes_28 : uD 3 cX8_comes 28 (.invokevirtual 160) 31 := ⟨by decide +kernel, rfl⟩
theorem dX8_comes_31 : uD 2 cX8_comes 31 (.iload 4) 33 := ⟨by decide +kernel, rfl⟩
theorem dX8_comes_33 : uJ cX8_comes 33 (fun o => .if_icmp .le o) 82 36 := ⟨49, by decide +kernel, by decide, rfl⟩
theorem dX8_comes_36 : uD 1 cX8_comes 36 (.iconst 0) 37 := ⟨by decide +kernel, rfl⟩
theorem dX8_comes_37 : uD 2 cX8_comes 37 (.istore 6) 39 := ⟨by decide +kernel, rfl⟩
theorem dX8_comes_39 : uD 2 cX8_comes 39 (.iload 6) 41 := ⟨by decide +kernel, rfl⟩
theorem dX8_comes_41 : uD 1 cX8_comes 41 (.iconst 3) 42 := ⟨by decide +kernel, rfl⟩
theorem dX8_comes_42 : uJ cX8_comes 42 (fun o => .if_icmp .ge o) 76 45 := ⟨34, by decide +kernel, by decide, rfl⟩
theorem dX8_comes_45 : uD 1 cX8_comes 45 (.aload_n 0) 46 := ⟨by decide +kernel, rfl⟩
theorem dX8_comes_46 : uD 3 cX8_comes 46 (.getfield 7) 49 := ⟨by decide +kernel, rfl⟩
theorem dX8_comes_49 : uD 2 cX8_comes 49 (.bipush 37) 51 := ⟨by decide +kernel, rfl⟩
theorem dX8_comes_51 : uD 1 cX8_comes 51 (.iconst 3) 52 := ⟨by decide +kernel, rfl⟩
theorem dX8_comes_52 : uD 2 cX8_comes 52 (.iload 5) 54 := ⟨by decide +kernel, rfl⟩
theorem dX8_comes_54 : uD 1 cX8_comes 54 (.imul) 55 := ⟨by decide +kernel, rfl⟩
theorem dX8_comes_55 : uD 1 cX8_comes 55 (.iadd) 56 := ⟨by decide +kernel, rfl⟩
theorem dX8_comes_56 : uD 2 cX8_comes 56 (.iload 6) 58 := ⟨by decide +kernel, rfl⟩
theorem dX8_comes_58 : uD 1 cX8_comes 58 (.iadd) 59 := ⟨by decide +kernel, rfl⟩
theorem dX8_comes_59 : uD 1 cX8_comes 59 (.aload_n 0) 60 := ⟨by decide +kernel, rfl⟩
theorem dX8_comes_60 : uD 2 cX8_comes 60 (.iload 5) 62 := ⟨by decide +kernel, rfl⟩
theorem dX8_comes_62 : uD 1 cX8_comes 62 (.iconst 1) 63 := ⟨by decide +kernel, rfl⟩
theorem dX8_comes_63 : uD 1 cX8_comes 63 (.isub) 64 := ⟨by decide +kernel, rfl⟩
theorem dX8_comes_64 : uD 2 cX8_comes 64 (.iload 6) 66 := ⟨by decide +kernel, rfl⟩
theorem dX8_comes_66 : uD 3 cX8_comes 66 (.invokevirtual 160) 69 := ⟨by decide +kernel, rfl⟩
theorem dX8_comes_69 : uD 1 cX8_comes 69 (.iastore) 70 := ⟨by decide +kernel, rfl⟩
theorem dX8_comes_70 : uD 3 cX8_comes 70 (.iinc 6 1) 73 := ⟨by decide +kernel, rfl⟩
theorem dX8_comes_73 : uJ cX8_comes 73 (fun o => .goto o) 39 76 := ⟨(-34), by decide +kernel, by decide, rfl⟩
theorem dX8_comes_76 : uD 3 cX8_comes 76 (.iinc 5 (-1)) 79 := ⟨by decide +kernel, rfl⟩
theorem dX8_comes_79 : uJ cX8_comes 79 (fun o => .goto o) 17 82 := ⟨(-62), by decide +kernel, by decide, rfl⟩
theorem dX8_comes_82 : uD 1 cX8_comes 82 (.aload_n 0) 83 := ⟨by decide +kernel, rfl⟩
theorem dX8_comes_83 : uD 3 cX8_comes 83 (.getfield 7) 86 := ⟨by decide +kernel, rfl⟩
theorem dX8_comes_86 : uD 2 cX8_comes 86 (.bipush 37) 88 := ⟨by decide +kernel, rfl⟩
theorem dX8_comes_88 : uD 1 cX8_comes 88 (.iconst 3) 89 := ⟨by decide +kernel, rfl⟩
theorem dX8_comes_89 : uD 2 cX8_comes 89 (.iload 5) 91 := ⟨by decide +kernel, rfl⟩
theorem dX8_comes_91 : uD 1 cX8_comes 91 (.imul) 92 := ⟨by decide +kernel, rfl⟩
theorem dX8_comes_92 : uD 1 cX8_comes 92 (.iadd) 93 := ⟨by decide +kernel, rfl⟩
theorem dX8_comes_93 : uD 2 cX8_comes 93 (.iload 4) 95 := ⟨by decide +kernel, rfl⟩
theorem dX8_comes_95 : uD 1 cX8_comes 95 (.iastore) 96 := ⟨by decide +kernel, rfl⟩
theorem dX8_comes_96 : uD 1 cX8_comes 96 (.aload_n 0) 97 := ⟨by decide +kernel, rfl⟩
theorem dX8_comes_97 : uD 3 cX8_comes 97 (.getfield 7) 100 := ⟨by decide +kernel, rfl⟩
theorem dX8_comes_100 : uD 2 cX8_comes 100 (.bipush 37) 102 := ⟨by decide +kernel, rfl⟩
theorem dX8_comes_102 : uD 1 cX8_comes 102 (.iconst 3) 103 := ⟨by decide +kernel, rfl⟩
theorem dX8_comes_103 : uD 2 cX8_comes 103 (.iload 5) 105 := ⟨by decide +kernel, rfl⟩
theorem dX8_comes_105 : uD 1 cX8_comes 105 (.imul) 106 := ⟨by decide +kernel, rfl⟩
theorem dX8_comes_106 : uD 1 cX8_comes 106 (.iadd) 107 := ⟨by decide +kernel, rfl⟩
theorem dX8_comes_107 : uD 1 cX8_comes 107 (.iconst 1) 108 := ⟨by decide +kernel, rfl⟩
theorem dX8_comes_108 : uD 1 cX8_comes 108 (.iadd) 109 := ⟨by decide +kernel, rfl⟩
theorem dX8_comes_109 : uD 1 cX8_comes 109 (.iload_n 3) 110 := ⟨by decide +kernel, rfl⟩
theorem dX8_comes_110 : uD 1 cX8_comes 110 (.iastore) 111 := ⟨by decide +kernel, rfl⟩
theorem dX8_comes_111 : uD 1 cX8_comes 111 (.aload_n 0) 112 := ⟨by decide +kernel, rfl⟩
theorem dX8_comes_112 : uD 3 cX8_comes 112 (.getfield 7) 115 := ⟨by decide +kernel, rfl⟩
theorem dX8_comes_115 : uD 2 cX8_comes 115 (.bipush 37) 117 := ⟨by decide +kernel, rfl⟩
theorem dX8_comes_117 : uD 1 cX8_comes 117 (.iconst 3) 118 := ⟨by decide +kernel, rfl⟩
theorem dX8_comes_118 : uD 2 cX8_comes 118 (.iload 5) 120 := ⟨by decide +kernel, rfl⟩
theorem dX8_comes_120 : uD 1 cX8_comes 120 (.imul) 121 := ⟨by decide +kernel, rfl⟩
theorem dX8_comes_121 : uD 1 cX8_comes 121 (.iadd) 122 := ⟨by decide +kernel, rfl⟩
theorem dX8_comes_122 : uD 1 cX8_comes 122 (.iconst 2) 123 := ⟨by decide +kernel, rfl⟩
theorem dX8_comes_123 : uD 1 cX8_comes 123 (.iadd) 124 := ⟨by decide +kernel, rfl⟩
theorem dX8_comes_124 : uD 1 cX8_comes 124 (.aload_n 0) 125 := ⟨by decide +kernel, rfl⟩
theorem dX8_comes_125 : uD 3 cX8_comes 125 (.getfield 7) 128 := ⟨by decide +kernel, rfl⟩
theorem dX8_comes_128 : uD 2 cX8_comes 128 (.bipush 26) 130 := ⟨by decide +kernel, rfl⟩
theorem dX8_comes_130 : uD 1 cX8_comes 130 (.iaload) 131 := ⟨by decide +kernel, rfl⟩
theorem dX8_comes_131 : uD 1 cX8_comes 131 (.iastore) 132 := ⟨by decide +kernel, rfl⟩
theorem dX8_comes_132 : uD 1 cX8_comes 132 (.aload_n 0) 133 := ⟨by decide +kernel, rfl⟩
theorem dX8_comes_133 : uD 3 cX8_comes 133 (.getfield 7) 136 := ⟨by decide +kernel, rfl⟩
theorem dX8_comes_136 : uD 2 cX8_comes 136 (.bipush 36) 138 := ⟨by decide +kernel, rfl⟩
theorem dX8_comes_138 : uD 1 cX8_comes 138 (.dup2) 139 := ⟨by decide +kernel, rfl⟩
theorem dX8_comes_139 : uD 1 cX8_comes 139 (.iaload) 140 := ⟨by decide +kernel, rfl⟩
theorem dX8_comes_140 : uD 1 cX8_comes 140 (.iconst 1) 141 := ⟨by decide +kernel, rfl⟩
theorem dX8_comes_141 : uD 1 cX8_comes 141 (.iadd) 142 := ⟨by decide +kernel, rfl⟩
theorem dX8_comes_142 : uD 1 cX8_comes 142 (.iastore) 143 := ⟨by decide +kernel, rfl⟩
theorem dX8_comes_143 : uD 1 cX8_comes 143 (.return_) 144 := ⟨by decide +kernel, rfl⟩
theorem dX8_goes_0 : uD 1 cX8_goes 0 (.aload_n 0) 1 := ⟨by decide +kernel, rfl⟩
theorem dX8_goes_1 : uD 3 cX8_goes 1 (.getfield 7) 4 := ⟨by decide +kernel, rfl⟩
theorem dX8_goes_4 : uD 2 cX8_goes 4 (.bipush 36) 6 := ⟨by decide +kernel, rfl⟩
theorem dX8_goes_6 : uD 1 cX8_goes 6 (.dup2) 7 := ⟨by decide +kernel, rfl⟩
theorem dX8_goes_7 : uD 1 cX8_goes 7 (.iaload) 8 := ⟨by decide +kernel, rfl⟩
theorem dX8_goes_8 : uD 1 cX8_goes 8 (.iconst 1) 9 := ⟨by decide +kernel, rfl⟩
theorem dX8_goes_9 : uD 1 cX8_goes 9 (.isub) 10 := ⟨by decide +kernel, rfl⟩
theorem dX8_goes_10 : uD 1 cX8_goes 10 (.iastore) 11 := ⟨by decide +kernel, rfl⟩
theorem dX8_goes_11 : uD 2 cX8_goes 11 (.bipush 37) 13 := ⟨by decide +kernel, rfl⟩
theorem dX8_goes_13 : uD 1 cX8_goes 13 (.iconst 3) 14 := ⟨by decide +kernel, rfl⟩
theorem dX8_goes_14 : uD 1 cX8_goes 14 (.iload_n 1) 15 := ⟨by decide +kernel, rfl⟩
theorem dX8_goes_15 : uD 1 cX8_goes 15 (.imul) 16 := ⟨by decide +kernel, rfl⟩
theorem dX8_goes_16 : uD 1 cX8_goes 16 (.iadd) 17 := ⟨by decide +kernel, rfl⟩
theorem dX8_goes_17 : uD 1 cX8_goes 17 (.istore_n 2) 18 := ⟨by decide +kernel, rfl⟩
theorem dX8_goes_18 : uD 1 cX8_goes 18 (.iload_n 2) 19 := ⟨by decide +kernel, rfl⟩
theorem dX8_goes_19 : uD 2 cX8_goes 19 (.bipush 37) 21 := ⟨by decide +kernel, rfl⟩
theorem dX8_goes_21 : uD 1 cX8_goes 21 (.iconst 3) 22 := ⟨by decide +kernel, rfl⟩
theorem dX8_goes_22 : uD 1 cX8_goes 22 (.aload_n 0) 23 := ⟨by decide +kernel, rfl⟩
theorem dX8_goes_23 : uD 3 cX8_goes 23 (.getfield 7) 26 := ⟨by decide +kernel, rfl⟩
theorem dX8_goes_26 : uD 2 cX8_goes 26 (.bipush 36) 28 := ⟨by decide +kernel, rfl⟩
theorem dX8_goes_28 : uD 1 cX8_goes 28 (.iaload) 29 := ⟨by decide +kernel, rfl⟩
theorem dX8_goes_29 : uD 1 cX8_goes 29 (.imul) 30 := ⟨by decide +kernel, rfl⟩
theorem dX8_goes_30 : uD 1 cX8_goes 30 (.iadd) 31 := ⟨by decide +kernel, rfl⟩
theorem dX8_goes_31 : uJ cX8_goes 31 (fun o => .if_icmp .ge o) 54 34 := ⟨23, by decide +kernel, by decide, rfl⟩
theorem dX8_goes_34 : uD 1 cX8_goes 34 (.aload_n 0) 35 := ⟨by decide +kernel, rfl⟩
theorem dX8_goes_35 : uD 3 cX8_goes 35 (.getfield 7) 38 := ⟨by decide +kernel, rfl⟩
theorem dX8_goes_38 : uD 1 cX8_goes 38 (.iload_n 2) 39 := ⟨by decide +kernel, rfl⟩
theorem dX8_goes_39 : uD 1 cX8_goes 39 (.aload_n 0) 40 := ⟨by decide +kernel, rfl⟩
theorem dX8_goes_40 : uD 3 cX8_goes 40 (.getfield 7) 43 := ⟨by decide +kernel, rfl⟩
theorem dX8_goes_43 : uD 1 cX8_goes 43 (.iload_n 2) 44 := ⟨by decide +kernel, rfl⟩
theorem dX8_goes_44 : uD 1 cX8_goes 44 (.iconst 3) 45 := ⟨by decide +kernel, rfl⟩
theorem dX8_goes_45 : uD 1 cX8_goes 45 (.iadd) 46 := ⟨by decide +kernel, rfl⟩
theorem dX8_goes_46 : uD 1 cX8_goes 46 (.iaload) 47 := ⟨by decide +kernel, rfl⟩
theorem dX8_goes_47 : uD 1 cX8_goes 47 (.iastore) 48 := ⟨by decide +kernel, rfl⟩
theorem dX8_goes_48 : uD 3 cX8_goes 48 (.iinc 2 1) 51 := ⟨by decide +kernel, rfl⟩
theorem dX8_goes_51 : uJ cX8_goes 51 (fun o => .goto o) 18 54 := ⟨(-33), by decide +kernel, by decide, rfl⟩
theorem dX8_goes_54 : uD 1 cX8_goes 54 (.return_) 55 := ⟨by decide +kernel, rfl⟩
theorem dX8_allGo_0 : uD 1 cX8_allGo 0 (.aload_n 0) 1 := ⟨by decide +kernel, rfl⟩
theorem dX8_allGo_1 : uD 3 cX8_allGo 1 (.getfield 7) 4 := ⟨by decide +kernel, rfl⟩
theorem dX8_allGo_4 : uD 2 cX8_allGo 4 (.bipush 36) 6 := ⟨by decide +kernel, rfl⟩
theorem dX8_allGo_6 : uD 1 cX8_allGo 6 (.iaload) 7 := ⟨by decide +kernel, rfl⟩
theorem dX8_allGo_7 : uD 1 cX8_allGo 7 (.iconst 1) 8 := ⟨by decide +kernel, rfl⟩
theorem dX8_allGo_8 : uD 1 cX8_allGo 8 (.isub) 9 := ⟨by decide +kernel, rfl⟩
theorem dX8_allGo_9 : uD 1 cX8_allGo 9 (.istore_n 2) 10 := ⟨by decide +kernel, rfl⟩
theorem dX8_allGo_10 : uD 1 cX8_allGo 10 (.iload_n 2) 11 := ⟨by decide +kernel, rfl⟩
theorem dX8_allGo_11 : uJ cX8_allGo 11 (fun o => .ifCond .lt o) 33 14 := ⟨22, by decide +kernel, by decide, rfl⟩
theorem dX8_allGo_14 : uD 1 cX8_allGo 14 (.iload_n 1) 15 := ⟨by decide +kernel, rfl⟩
theorem dX8_allGo_15 : uD 1 cX8_allGo 15 (.iload_n 2) 16 := ⟨by decide +kernel, rfl⟩
theorem dX8_allGo_16 : uD 3 cX8_allGo 16 (.invokestatic 144) 19 := ⟨by decide +kernel, rfl⟩
theorem dX8_allGo_19 : uJ cX8_allGo 19 (fun o => .ifCond .eq o) 27 22 := ⟨8, by decide +kernel, by decide, rfl⟩
theorem dX8_allGo_22 : uD 1 cX8_allGo 22 (.aload_n 0) 23 := ⟨by decide +kernel, rfl⟩
theorem dX8_allGo_23 : uD 1 cX8_allGo 23 (.iload_n 2) 24 := ⟨by decide +kernel, rfl⟩
theorem dX8_allGo_24 : uD 3 cX8_allGo 24 (.invokevirtual 163) 27 := ⟨by decide +kernel, rfl⟩
theorem dX8_allGo_27 : uD 3 cX8_allGo 27 (.iinc 2 (-1)) 30 := ⟨by decide +kernel, rfl⟩
theorem dX8_allGo_30 : uJ cX8_allGo 30 (fun o => .goto o) 10 33 := ⟨(-20), by decide +kernel, by decide, rfl⟩
theorem dX8_allGo_33 : uD 1 cX8_allGo 33 (.return_) 34 := ⟨by decide +kernel, rfl⟩
theorem dX8_all_0 : uD 1 cX8_all 0 (.iconst 1) 1 := ⟨by decide +kernel, rfl⟩
theorem dX8_all_1 : uD 1 cX8_all 1 (.aload_n 0) 2 := ⟨by decide +kernel, rfl⟩
theorem dX8_all_2 : uD 3 cX8_all 2 (.getfield 7) 5 := ⟨by decide +kernel, rfl⟩
theorem dX8_all_5 : uD 2 cX8_all 5 (.bipush 36) 7 := ⟨by decide +kernel, rfl⟩
theorem dX8_all_7 : uD 1 cX8_all 7 (.iaload) 8 := ⟨by decide +kernel, rfl⟩
theorem dX8_all_8 : uD 1 cX8_all 8 (.ishl) 9 := ⟨by decide +kernel, rfl⟩
theorem dX8_all_9 : uD 1 cX8_all 9 (.iconst 1) 10 := ⟨by decide +kernel, rfl⟩
theorem dX8_all_10 : uD 1 cX8_all 10 (.isub) 11 := ⟨by decide +kernel, rfl⟩
theorem dX8_all_11 : uD 1 cX8_all 11 (.ireturn) 12 := ⟨by decide +kernel, rfl⟩
theorem dX8_setOf_0 : uD 1 cX8_setOf 0 (.iconst 0) 1 := ⟨by decide +kernel, rfl⟩
theorem dX8_setOf_1 : uD 1 cX8_setOf 1 (.istore_n 2) 2 := ⟨by decide +kernel, rfl⟩
theorem dX8_setOf_2 : uD 1 cX8_setOf 2 (.iconst 0) 3 := ⟨by decide +kernel, rfl⟩
theorem dX8_setOf_3 : uD 1 cX8_setOf 3 (.istore_n 3) 4 := ⟨by decide +kernel, rfl⟩
theorem dX8_setOf_4 : uD 1 cX8_setOf 4 (.iload_n 3) 5 := ⟨by decide +kernel, rfl⟩
theorem dX8_setOf_5 : uD 1 cX8_setOf 5 (.aload_n 0) 6 := ⟨by decide +kernel, rfl⟩
theorem dX8_setOf_6 : uD 3 cX8_setOf 6 (.getfield 7) 9 := ⟨by decide +kernel, rfl⟩
theorem dX8_setOf_9 : uD 2 cX8_setOf 9 (.bipush 36) 11 := ⟨by decide +kernel, rfl⟩
theorem dX8_setOf_11 : uD 1 cX8_setOf 11 (.iaload) 12 := ⟨by decide +kernel, rfl⟩
theorem dX8_setOf_12 : uJ cX8_setOf 12 (fun o => .if_icmp .ge o) 40 15 := ⟨28, by decide +kernel, by decide, rfl⟩
theorem dX8_setOf_15 : uD 1 cX8_setOf 15 (.iload_n 2) 16 := ⟨by decide +kernel, rfl⟩
theorem dX8_setOf_16 : uD 1 cX8_setOf 16 (.aload_n 0) 17 := ⟨by decide +kernel, rfl⟩
theorem dX8_setOf_17 : uD 1 cX8_setOf 17 (.iload_n 3) 18 := ⟨by decide +kernel, rfl⟩
theorem dX8_setOf_18 : uD 3 cX8_setOf 18 (.invokevirtual 166) 21 := ⟨by decide +kernel, rfl⟩
theorem dX8_setOf_21 : uD 1 cX8_setOf 21 (.iload_n 1) 22 := ⟨by decide +kernel, rfl⟩
theorem dX8_setOf_22 : uJ cX8_setOf 22 (fun o => .if_icmp .ne o) 31 25 := ⟨9, by decide +kernel, by decide, rfl⟩
theorem dX8_setOf_25 : uD 1 cX8_setOf 25 (.iconst 1) 26 := ⟨by decide +kernel, rfl⟩
theorem dX8_setOf_26 : uD 1 cX8_setOf 26 (.iload_n 3) 27 := ⟨by decide +kernel, rfl⟩
theorem dX8_setOf_27 : uD 1 cX8_setOf 27 (.ishl) 28 := ⟨by decide +kernel, rfl⟩
theorem dX8_setOf_28 : uJ cX8_setOf 28 (fun o => .goto o) 32 31 := ⟨4, by decide +kernel, by decide, rfl⟩
theorem dX8_setOf_31 : uD 1 cX8_setOf 31 (.iconst 0) 32 := ⟨by decide +kernel, rfl⟩
theorem dX8_setOf_32 : uD 1 cX8_setOf 32 (.ior) 33 := ⟨by decide +kernel, rfl⟩
theorem dX8_setOf_33 : uD 1 cX8_setOf 33 (.istore_n 2) 34 := ⟨by decide +kernel, rfl⟩
theorem dX8_setOf_34 : uD 3 cX8_setOf 34 (.iinc 3 1) 37 := ⟨by decide +kernel, rfl⟩
theorem dX8_setOf_37 : uJ cX8_setOf 37 (fun o => .goto o) 4 40 := ⟨(-33), by decide +kernel, by decide, rfl⟩
theorem dX8_setOf_40 : uD 1 cX8_setOf 40 (.iload_n 2) 41 := ⟨by decide +kernel, rfl⟩
theorem dX8_setOf_41 : uD 1 cX8_setOf 41 (.ireturn) 42 := ⟨by decide +kernel, rfl⟩
theorem dX8_possible_0 : uD 1 cX8_possible 0 (.iconst 0) 1 := ⟨by decide +kernel, rfl⟩
theorem dX8_possible_1 : uD 1 cX8_possible 1 (.istore_n 1) 2 := ⟨by decide +kernel, rfl⟩
theorem dX8_possible_2 : uD 1 cX8_possible 2 (.iconst 0) 3 := ⟨by decide +kernel, rfl⟩
theorem dX8_possible_3 : uD 1 cX8_possible 3 (.istore_n 2) 4 := ⟨by decide +kernel, rfl⟩
theorem dX8_possible_4 : uD 1 cX8_possible 4 (.iload_n 2) 5 := ⟨by decide +kernel, rfl⟩
theorem dX8_possible_5 : uD 1 cX8_possible 5 (.aload_n 0) 6 := ⟨by decide +kernel, rfl⟩
theorem dX8_possible_6 : uD 3 cX8_possible 6 (.getfield 7) 9 := ⟨by decide +kernel, rfl⟩
theorem dX8_possible_9 : uD 2 cX8_possible 9 (.bipush 36) 11 := ⟨by decide +kernel, rfl⟩
theorem dX8_possible_11 : uD 1 cX8_possible 11 (.iaload) 12 := ⟨by decide +kernel, rfl⟩
theorem dX8_possible_12 : uJ cX8_possible 12 (fun o => .if_icmp .ge o) 43 15 := ⟨31, by decide +kernel, by decide, rfl⟩
theorem dX8_possible_15 : uD 1 cX8_possible 15 (.iload_n 1) 16 := ⟨by decide +kernel, rfl⟩
theorem dX8_possible_16 : uD 1 cX8_possible 16 (.aload_n 0) 17 := ⟨by decide +kernel, rfl⟩
theorem dX8_possible_17 : uD 1 cX8_possible 17 (.aload_n 0) 18 := ⟨by decide +kernel, rfl⟩
theorem dX8_possible_18 : uD 1 cX8_possible 18 (.iload_n 2) 19 := ⟨by decide +kernel, rfl⟩
theorem dX8_possible_19 : uD 3 cX8_possible 19 (.invokevirtual 166) 22 := ⟨by decide +kernel, rfl⟩
theorem dX8_possible_22 : uD 3 cX8_possible 22 (.invokevirtual 169) 25 := ⟨by decide +kernel, rfl⟩
theorem dX8_possible_25 : uJ cX8_possible 25 (fun o => .ifCond .eq o) 32 28 := ⟨7, by decide +kernel, by decide, rfl⟩
theorem dX8_possible_28 : uD 1 cX8_possible 28 (.iconst 0) 29 := ⟨by decide +kernel, rfl⟩
theorem dX8_possible_29 : uJ cX8_possible 29 (fun o => .goto o) 35 32 := ⟨6, by decide +kernel, by decide, rfl⟩
theorem dX8_possible_32 : uD 1 cX8_possible 32 (.iconst 1) 33 := ⟨by decide +kernel, rfl⟩
theorem dX8_possible_33 : uD 1 cX8_possible 33 (.iload_n 2) 34 := ⟨by decide +kernel, rfl⟩
theorem dX8_possible_34 : uD 1 cX8_possible 34 (.ishl) 35 := ⟨by decide +kernel, rfl⟩
theorem dX8_possible_35 : uD 1 cX8_possible 35 (.ior) 36 := ⟨by decide +kernel, rfl⟩
theorem dX8_possible_36 : uD 1 cX8_possible 36 (.istore_n 1) 37 := ⟨by decide +kernel, rfl⟩
theorem dX8_possible_37 : uD 3 cX8_possible 37 (.iinc 2 1) 40 := ⟨by decide +kernel, rfl⟩
theorem dX8_possible_40 : uJ cX8_possible 40 (fun o => .goto o) 4 43 := ⟨(-36), by decide +kernel, by decide, rfl⟩
theorem dX8_possible_43 : uD 1 cX8_possible 43 (.iload_n 1) 44 := ⟨by decide +kernel, rfl⟩
theorem dX8_possible_44 : uD 1 cX8_possible 44 (.ireturn) 45 := ⟨by decide +kernel, rfl⟩
theorem dX8_bits_0 : uD 1 cX8_bits 0 (.iconst 0) 1 := ⟨by decide +kernel, rfl⟩
theorem dX8_bits_1 : uD 1 cX8_bits 1 (.istore_n 1) 2 := ⟨by decide +kernel, rfl⟩
theorem dX8_bits_2 : uD 1 cX8_bits 2 (.iconst 0) 3 := ⟨by decide +kernel, rfl⟩
theorem dX8_bits_3 : uD 1 cX8_bits 3 (.istore_n 2) 4 := ⟨by decide +kernel, rfl⟩
theorem dX8_bits_4 : uD 1 cX8_bits 4 (.iload_n 2) 5 := ⟨by decide +kernel, rfl⟩
theorem dX8_bits_5 : uD 2 cX8_bits 5 (.bipush 24) 7 := ⟨by decide +kernel, rfl⟩
theorem dX8_bits_7 : uJ cX8_bits 7 (fun o => .if_icmp .ge o) 24 10 := ⟨17, by decide +kernel, by decide, rfl⟩
theorem dX8_bits_10 : uD 1 cX8_bits 10 (.iload_n 1) 11 := ⟨by decide +kernel, rfl⟩
theorem dX8_bits_11 : uD 1 cX8_bits 11 (.iload_n 0) 12 := ⟨by decide +kernel, rfl⟩
theorem dX8_bits_12 : uD 1 cX8_bits 12 (.iload_n 2) 13 := ⟨by decide +kernel, rfl⟩
theorem dX8_bits_13 : uD 1 cX8_bits 13 (.ishr) 14 := ⟨by decide +kernel, rfl⟩
theorem dX8_bits_14 : uD 1 cX8_bits 14 (.iconst 1) 15 := ⟨by decide +kernel, rfl⟩
theorem dX8_bits_15 : uD 1 cX8_bits 15 (.iand) 16 := ⟨by decide +kernel, rfl⟩
theorem dX8_bits_16 : uD 1 cX8_bits 16 (.iadd) 17 := ⟨by decide +kernel, rfl⟩
theorem dX8_bits_17 : uD 1 cX8_bits 17 (.istore_n 1) 18 := ⟨by decide +kernel, rfl⟩
theorem dX8_bits_18 : uD 3 cX8_bits 18 (.iinc 2 1) 21 := ⟨by decide +kernel, rfl⟩
theorem dX8_bits_21 : uJ cX8_bits 21 (fun o => .goto o) 4 24 := ⟨(-17), by decide +kernel, by decide, rfl⟩
theorem dX8_bits_24 : uD 1 cX8_bits 24 (.iload_n 1) 25 := ⟨by decide +kernel, rfl⟩
theorem dX8_bits_25 : uD 1 cX8_bits 25 (.ireturn) 26 := ⟨by decide +kernel, rfl⟩
theorem dX8_valueIn_0 : uD 1 cX8_valueIn 0 (.iconst 0) 1 := ⟨by decide +kernel, rfl⟩
theorem dX8_valueIn_1 : uD 1 cX8_valueIn 1 (.istore_n 2) 2 := ⟨by decide +kernel, rfl⟩
theorem dX8_valueIn_2 : uD 1 cX8_valueIn 2 (.iconst 0) 3 := ⟨by decide +kernel, rfl⟩
theorem dX8_valueIn_3 : uD 1 cX8_valueIn 3 (.istore_n 3) 4 := ⟨by decide +kernel, rfl⟩
theorem dX8_valueIn_4 : uD 1 cX8_valueIn 4 (.iload_n 3) 5 := ⟨by decide +kernel, rfl⟩
theorem dX8_valueIn_5 : uD 1 cX8_valueIn 5 (.aload_n 0) 6 := ⟨by decide +kernel, rfl⟩
theorem dX8_valueIn_6 : uD 3 cX8_valueIn 6 (.getfield 7) 9 := ⟨by decide +kernel, rfl⟩
theorem dX8_valueIn_9 : uD 2 cX8_valueIn 9 (.bipush 36) 11 := ⟨by decide +kernel, rfl⟩
theorem dX8_valueIn_11 : uD 1 cX8_valueIn 11 (.iaload) 12 := ⟨by decide +kernel, rfl⟩
theorem dX8_valueIn_12 : uJ cX8_valueIn 12 (fun o => .if_icmp .ge o) 42 15 := ⟨30, by decide +kernel, by decide, rfl⟩
theorem dX8_valueIn_15 : uD 1 cX8_valueIn 15 (.iload_n 2) 16 := ⟨by decide +kernel, rfl⟩
theorem dX8_valueIn_16 : uD 1 cX8_valueIn 16 (.iload_n 1) 17 := ⟨by decide +kernel, rfl⟩
theorem dX8_valueIn_17 : uD 1 cX8_valueIn 17 (.iload_n 3) 18 := ⟨by decide +kernel, rfl⟩
theorem dX8_valueIn_18 : uD 3 cX8_valueIn 18 (.invokestatic 144) 21 := ⟨by decide +kernel, rfl⟩
theorem dX8_valueIn_21 : uJ cX8_valueIn 21 (fun o => .ifCond .eq o) 33 24 := ⟨12, by decide +kernel, by decide, rfl⟩
theorem dX8_valueIn_24 : uD 1 cX8_valueIn 24 (.aload_n 0) 25 := ⟨by decide +kernel, rfl⟩
theorem dX8_valueIn_25 : uD 1 cX8_valueIn 25 (.iload_n 3) 26 := ⟨by decide +kernel, rfl⟩
theorem dX8_valueIn_26 : uD 1 cX8_valueIn 26 (.iconst 1) 27 := ⟨by decide +kernel, rfl⟩
theorem dX8_valueIn_27 : uD 3 cX8_valueIn 27 (.invokevirtual 160) 30 := ⟨by decide +kernel, rfl⟩
theorem dX8_valueIn_30 : uJ cX8_valueIn 30 (fun o => .goto o) 34 33 := ⟨4, by decide +kernel, by decide, rfl⟩
theorem dX8_valueIn_33 : uD 1 cX8_valueIn 33 (.iconst 0) 34 := ⟨by decide +kernel, rfl⟩
theorem dX8_valueIn_34 : uD 1 cX8_valueIn 34 (.iadd) 35 := ⟨by decide +kernel, rfl⟩
theorem dX8_valueIn_35 : uD 1 cX8_valueIn 35 (.istore_n 2) 36 := ⟨by decide +kernel, rfl⟩
theorem dX8_valueIn_36 : uD 3 cX8_valueIn 36 (.iinc 3 1) 39 := ⟨by decide +kernel, rfl⟩
theorem dX8_valueIn_39 : uJ cX8_valueIn 39 (fun o => .goto o) 4 42 := ⟨(-35), by decide +kernel, by decide, rfl⟩
theorem dX8_valueIn_42 : uD 1 cX8_valueIn 42 (.iload_n 2) 43 := ⟨by decide +kernel, rfl⟩
theorem dX8_valueIn_43 : uD 1 cX8_valueIn 43 (.ireturn) 44 := ⟨by decide +kernel, rfl⟩
theorem dX8_energyIn_0 : uD 1 cX8_energyIn 0 (.iconst 0) 1 := ⟨by decide +kernel, rfl⟩
theorem dX8_energyIn_1 : uD 1 cX8_energyIn 1 (.istore_n 2) 2 := ⟨by decide +kernel, rfl⟩
theorem dX8_energyIn_2 : uD 1 cX8_energyIn 2 (.iconst (-1)) 3 := ⟨by decide +kernel, rfl⟩
theorem dX8_energyIn_3 : uD 1 cX8_energyIn 3 (.istore_n 3) 4 := ⟨by decide +kernel, rfl⟩
theorem dX8_energyIn_4 : uD 1 cX8_energyIn 4 (.iconst 0) 5 := ⟨by decide +kernel, rfl⟩
theorem dX8_energyIn_5 : uD 2 cX8_energyIn 5 (.istore 4) 7 := ⟨by decide +kernel, rfl⟩
theorem dX8_energyIn_7 : uD 2 cX8_energyIn 7 (.iload 4) 9 := ⟨by decide +kernel, rfl⟩
theorem dX8_energyIn_9 : uD 1 cX8_energyIn 9 (.aload_n 0) 10 := ⟨by decide +kernel, rfl⟩
theorem dX8_energyIn_10 : uD 3 cX8_energyIn 10 (.getfield 7) 13 := ⟨by decide +kernel, rfl⟩
theorem dX8_energyIn_13 : uD 2 cX8_energyIn 13 (.bipush 36) 15 := ⟨by decide +kernel, rfl⟩
theorem dX8_energyIn_15 : uD 1 cX8_energyIn 15 (.iaload) 16 := ⟨by decide +kernel, rfl⟩
theorem dX8_energyIn_16 : uJ cX8_energyIn 16 (fun o => .if_icmp .ge o) 159 19 := ⟨143, by decide +kernel, by decide, rfl⟩
theorem dX8_energyIn_19 : uD 1 cX8_energyIn 19 (.iload_n 1) 20 := ⟨by decide +kernel, rfl⟩
theorem dX8_energyIn_20 : uD 2 cX8_energyIn 20 (.iload 4) 22 := ⟨by decide +kernel, rfl⟩
theorem dX8_energyIn_22 : uD 3 cX8_energyIn 22 (.invokestatic 144) 25 := ⟨by decide +kernel, rfl⟩
theorem dX8_energyIn_25 : uJ cX8_energyIn 25 (fun o => .ifCond .ne o) 31 28 := ⟨6, by decide +kernel, by decide, rfl⟩
theorem dX8_energyIn_28 : uJ cX8_energyIn 28 (fun o => .goto o) 153 31 := ⟨125, by decide +kernel, by decide, rfl⟩
theorem dX8_energyIn_31 : uD 2 cX8_energyIn 31 (.bipush 10) 33 := ⟨by decide +kernel, rfl⟩
theorem dX8_energyIn_33 : uD 1 cX8_energyIn 33 (.iconst 3) 34 := ⟨by decide +kernel, rfl⟩
theorem dX8_energyIn_34 : uD 1 cX8_energyIn 34 (.aload_n 0) 35 := ⟨by decide +kernel, rfl⟩
theorem dX8_energyIn_35 : uD 2 cX8_energyIn 35 (.iload 4) 37 := ⟨by decide +kernel, rfl⟩
theorem dX8_energyIn_37 : uD 3 cX8_energyIn 37 (.invokevirtual 166) 40 := ⟨by decide +kernel, rfl⟩
theorem dX8_energyIn_40 : uD 1 cX8_energyIn 40 (.imul) 41 := ⟨by decide +kernel, rfl⟩
theorem dX8_energyIn_41 : uD 1 cX8_energyIn 41 (.iadd) 42 := ⟨by decide +kernel, rfl⟩
theorem dX8_energyIn_42 : uD 2 cX8_energyIn 42 (.istore 5) 44 := ⟨by decide +kernel, rfl⟩
theorem dX8_energyIn_44 : uD 1 cX8_energyIn 44 (.iload_n 3) 45 := ⟨by decide +kernel, rfl⟩
theorem dX8_energyIn_45 : uD 1 cX8_energyIn 45 (.iconst (-1)) 46 := ⟨by decide +kernel, rfl⟩
theorem dX8_energyIn_46 : uJ cX8_energyIn 46 (fun o => .if_icmp .eq o) 63 49 := ⟨17, by decide +kernel, by decide, rfl⟩
theorem dX8_energyIn_49 : uD 1 cX8_energyIn 49 (.aload_n 0) 50 := ⟨by decide +kernel, rfl⟩
theorem dX8_energyIn_50 : uD 1 cX8_energyIn 50 (.iload_n 3) 51 := ⟨by decide +kernel, rfl⟩
theorem dX8_energyIn_51 : uD 3 cX8_energyIn 51 (.invokevirtual 166) 54 := ⟨by decide +kernel, rfl⟩
theorem dX8_energyIn_54 : uD 1 cX8_energyIn 54 (.aload_n 0) 55 := ⟨by decide +kernel, rfl⟩
theorem dX8_energyIn_55 : uD 2 cX8_energyIn 55 (.iload 4) 57 := ⟨by decide +kernel, rfl⟩
theorem dX8_energyIn_57 : uD 3 cX8_energyIn 57 (.invokevirtual 166) 60 := ⟨by decide +kernel, rfl⟩
theorem dX8_energyIn_60 : uJ cX8_energyIn 60 (fun o => .if_icmp .eq o) 67 63 := ⟨7, by decide +kernel, by decide, rfl⟩
theorem dX8_energyIn_63 : uD 1 cX8_energyIn 63 (.iconst 1) 64 := ⟨by decide +kernel, rfl⟩
theorem dX8_energyIn_64 : uJ cX8_energyIn 64 (fun o => .goto o) 68 67 := ⟨4, by decide +kernel, by decide, rfl⟩
theorem dX8_energyIn_67 : uD 1 cX8_energyIn 67 (.iconst 0) 68 := ⟨by decide +kernel, rfl⟩
theorem dX8_energyIn_68 : uD 2 cX8_energyIn 68 (.istore 6) 70 := ⟨by decide +kernel, rfl⟩
theorem dX8_energyIn_70 : uD 2 cX8_energyIn 70 (.iload 6) 72 := ⟨by decide +kernel, rfl⟩
theorem dX8_energyIn_72 : uJ cX8_energyIn 72 (fun o => .ifCond .ne o) 97 75 := ⟨25, by decide +kernel, by decide, rfl⟩
theorem dX8_energyIn_75 : uD 1 cX8_energyIn 75 (.aload_n 0) 76 := ⟨by decide +kernel, rfl⟩
theorem dX8_energyIn_76 : uD 1 cX8_energyIn 76 (.iload_n 3) 77 := ⟨by decide +kernel, rfl⟩
theorem dX8_energyIn_77 : uD 1 cX8_energyIn 77 (.iconst 0) 78 := ⟨by decide +kernel, rfl⟩
theorem dX8_energyIn_78 : uD 3 cX8_energyIn 78 (.invokevirtual 160) 81 := ⟨by decide +kernel, rfl⟩
theorem dX8_energyIn_81 : uD 1 cX8_energyIn 81 (.iconst 1) 82 := ⟨by decide +kernel, rfl⟩
theorem dX8_energyIn_82 : uD 1 cX8_energyIn 82 (.iadd) 83 := ⟨by decide +kernel, rfl⟩
theorem dX8_energyIn_83 : uD 1 cX8_energyIn 83 (.aload_n 0) 84 := ⟨by decide +kernel, rfl⟩
theorem dX8_energyIn_84 : uD 2 cX8_energyIn 84 (.iload 4) 86 := ⟨by decide +kernel, rfl⟩
theorem dX8_energyIn_86 : uD 1 cX8_energyIn 86 (.iconst 0) 87 := ⟨by decide +kernel, rfl⟩
theorem dX8_energyIn_87 : uD 3 cX8_energyIn 87 (.invokevirtual 160) 90 := ⟨by decide +kernel, rfl⟩
theorem dX8_energyIn_90 : uJ cX8_energyIn 90 (fun o => .if_icmp .ne o) 97 93 := ⟨7, by decide +kernel, by decide, rfl⟩
theorem dX8_energyIn_93 : uD 1 cX8_energyIn 93 (.iconst 1) 94 := ⟨by decide +kernel, rfl⟩
theorem dX8_energyIn_94 : uJ cX8_energyIn 94 (fun o => .goto o) 98 97 := ⟨4, by decide +kernel, by decide, rfl⟩
theorem dX8_energyIn_97 : uD 1 cX8_energyIn 97 (.iconst 0) 98 := ⟨by decide +kernel, rfl⟩
theorem dX8_energyIn_98 : uD 2 cX8_energyIn 98 (.istore 7) 100 := ⟨by decide +kernel, rfl⟩
theorem dX8_energyIn_100 : uD 1 cX8_energyIn 100 (.iload_n 2) 101 := ⟨by decide +kernel, rfl⟩
theorem dX8_energyIn_101 : uD 2 cX8_energyIn 101 (.iload 6) 103 := ⟨by decide +kernel, rfl⟩
theorem dX8_energyIn_103 : uJ cX8_energyIn 103 (fun o => .ifCond .eq o) 118 106 := ⟨15, by decide +kernel, by decide, rfl⟩
theorem dX8_energyIn_106 : uD 1 cX8_energyIn 106 (.aload_n 0) 107 := ⟨by decide +kernel, rfl⟩
theorem dX8_energyIn_107 : uD 3 cX8_energyIn 107 (.getfield 7) 110 := ⟨by decide +kernel, rfl⟩
theorem dX8_energyIn_110 : uD 2 cX8_energyIn 110 (.iload 5) 112 := ⟨by decide +kernel, rfl⟩
theorem dX8_energyIn_112 : uD 1 cX8_energyIn 112 (.iconst 0) 113 := ⟨by decide +kernel, rfl⟩
theorem dX8_energyIn_113 : uD 1 cX8_energyIn 113 (.iadd) 114 := ⟨by decide +kernel, rfl⟩
theorem dX8_energyIn_114 : uD 1 cX8_energyIn 114 (.iaload) 115 := ⟨by decide +kernel, rfl⟩
theorem dX8_energyIn_115 : uJ cX8_energyIn 115 (fun o => .goto o) 119 118 := ⟨4, by decide +kernel, by decide, rfl⟩
theorem dX8_energyIn_118 : uD 1 cX8_energyIn 118 (.iconst 0) 119 := ⟨by decide +kernel, rfl⟩
theorem dX8_energyIn_119 : uD 2 cX8_energyIn 119 (.iload 7) 121 := ⟨by decide +kernel, rfl⟩
theorem dX8_energyIn_121 : uJ cX8_energyIn 121 (fun o => .ifCond .eq o) 128 124 := ⟨7, by decide +kernel, by decide, rfl⟩
theorem dX8_energyIn_124 : uD 1 cX8_energyIn 124 (.iconst 0) 125 := ⟨by decide +kernel, rfl⟩
theorem dX8_energyIn_125 : uJ cX8_energyIn 125 (fun o => .goto o) 137 128 := ⟨12, by decide +kernel, by decide, rfl⟩
theorem dX8_energyIn_128 : uD 1 cX8_energyIn 128 (.aload_n 0) 129 := ⟨by decide +kernel, rfl⟩
theorem dX8_energyIn_129 : uD 3 cX8_energyIn 129 (.getfield 7) 132 := ⟨by decide +kernel, rfl⟩
theorem dX8_energyIn_132 : uD 2 cX8_energyIn 132 (.iload 5) 134 := ⟨by decide +kernel, rfl⟩
theorem dX8_energyIn_134 : uD 1 cX8_energyIn 134 (.iconst 1) 135 := ⟨by decide +kernel, rfl⟩
theorem dX8_energyIn_135 : uD 1 cX8_energyIn 135 (.iadd) 136 := ⟨by decide +kernel, rfl⟩
theorem dX8_energyIn_136 : uD 1 cX8_energyIn 136 (.iaload) 137 := ⟨by decide +kernel, rfl⟩
theorem dX8_energyIn_137 : uD 1 cX8_energyIn 137 (.iadd) 138 := ⟨by decide +kernel, rfl⟩
theorem dX8_energyIn_138 : uD 1 cX8_energyIn 138 (.aload_n 0) 139 := ⟨by decide +kernel, rfl⟩
theorem dX8_energyIn_139 : uD 3 cX8_energyIn 139 (.getfield 7) 142 := ⟨by decide +kernel, rfl⟩
theorem dX8_energyIn_142 : uD 2 cX8_energyIn 142 (.iload 5) 144 := ⟨by decide +kernel, rfl⟩
theorem dX8_energyIn_144 : uD 1 cX8_energyIn 144 (.iconst 2) 145 := ⟨by decide +kernel, rfl⟩
theorem dX8_energyIn_145 : uD 1 cX8_energyIn 145 (.iadd) 146 := ⟨by decide +kernel, rfl⟩
theorem dX8_energyIn_146 : uD 1 cX8_energyIn 146 (.iaload) 147 := ⟨by decide +kernel, rfl⟩
theorem dX8_energyIn_147 : uD 1 cX8_energyIn 147 (.iadd) 148 := ⟨by decide +kernel, rfl⟩
theorem dX8_energyIn_148 : uD 1 cX8_energyIn 148 (.iadd) 149 := ⟨by decide +kernel, rfl⟩
theorem dX8_energyIn_149 : uD 1 cX8_energyIn 149 (.istore_n 2) 150 := ⟨by decide +kernel, rfl⟩
theorem dX8_energyIn_150 : uD 2 cX8_energyIn 150 (.iload 4) 152 := ⟨by decide +kernel, rfl⟩
theorem dX8_energyIn_152 : uD 1 cX8_energyIn 152 (.istore_n 3) 153 := ⟨by decide +kernel, rfl⟩
theorem dX8_energyIn_153 : uD 3 cX8_energyIn 153 (.iinc 4 1) 156 := ⟨by decide +kernel, rfl⟩
theorem dX8_energyIn_156 : uJ cX8_energyIn 156 (fun o => .goto o) 7 159 := ⟨(-149), by decide +kernel, by decide, rfl⟩
theorem dX8_energyIn_159 : uD 1 cX8_energyIn 159 (.iload_n 2) 160 := ⟨by decide +kernel, rfl⟩
theorem dX8_energyIn_160 : uD 1 cX8_energyIn 160 (.ireturn) 161 := ⟨by decide +kernel, rfl⟩
theorem dX8_needed_0 : uD 1 cX8_needed 0 (.aload_n 0) 1 := ⟨by decide +kernel, rfl⟩
theorem dX8_needed_1 : uD 1 cX8_needed 1 (.aload_n 0) 2 := ⟨by decide +kernel, rfl⟩
theorem dX8_needed_2 : uD 3 cX8_needed 2 (.invokevirtual 172) 5 := ⟨by decide +kernel, rfl⟩
theorem dX8_needed_5 : uD 3 cX8_needed 5 (.invokevirtual 175) 8 := ⟨by decide +kernel, rfl⟩
theorem dX8_needed_8 : uD 1 cX8_needed 8 (.ireturn) 9 := ⟨by decide +kernel, rfl⟩
theorem dX8_report_0 : uD 1 cX8_report 0 (.aload_n 0) 1 := ⟨by decide +kernel, rfl⟩
theorem dX8_report_1 : uD 1 cX8_report 1 (.iconst 0) 2 := ⟨by decide +kernel, rfl⟩
theorem dX8_report_2 : uD 3 cX8_report 2 (.putfield 49) 5 := ⟨by decide +kernel, rfl⟩
theorem dX8_report_5 : uD 1 cX8_report 5 (.aload_n 0) 6 := ⟨by decide +kernel, rfl⟩
theorem dX8_report_6 : uD 1 cX8_report 6 (.iload_n 1) 7 := ⟨by decide +kernel, rfl⟩
theorem dX8_report_7 : uD 1 cX8_report 7 (.iconst 0) 8 := ⟨by decide +kernel, rfl⟩
theorem dX8_report_8 : uD 2 cX8_report 8 (.bipush 8) 10 := ⟨by decide +kernel, rfl⟩
theorem dX8_report_10 : uD 3 cX8_report 10 (.invokestatic 59) 13 := ⟨by decide +kernel, rfl⟩
theorem dX8_report_13 : uD 1 cX8_report 13 (.iconst 1) 14 := ⟨by decide +kernel, rfl⟩
theorem dX8_report_14 : uD 3 cX8_report 14 (.invokevirtual 55) 17 := ⟨by decide +kernel, rfl⟩
theorem dX8_report_17 : uJ cX8_report 17 (fun o => .ifCond .ne o) 22 20 := ⟨5, by decide +kernel, by decide, rfl⟩
theorem dX8_report_20 : uD 1 cX8_report 20 (.iconst 0) 21 := ⟨by decide +kernel, rfl⟩
theorem dX8_report_21 : uD 1 cX8_report 21 (.ireturn) 22 := ⟨by decide +kernel, rfl⟩
theorem dX8_report_22 : uD 1 cX8_report 22 (.iload_n 1) 23 := ⟨by decide +kernel, rfl⟩
theorem dX8_report_23 : uD 45 cX8_report 23 (.tableswitch 107 0 7 #[45, 52, 59, 67, 75, 83, 91, 99]) 68 := ⟨by decide +kernel, rfl⟩
theorem dX8_report_68 : uD 1 cX8_report 68 (.aload_n 0) 69 := ⟨by decide +kernel, rfl⟩
theorem dX8_report_69 : uD 3 cX8_report 69 (.getfield 7) 72 := ⟨by decide +kernel, rfl⟩
theorem dX8_report_72 : uD 1 cX8_report 72 (.iconst 0) 73 := ⟨by decide +kernel, rfl⟩
theorem dX8_report_73 : uD 1 cX8_report 73 (.iaload) 74 := ⟨by decide +kernel, rfl⟩
theorem dX8_report_74 : uD 1 cX8_report 74 (.ireturn) 75 := ⟨by decide +kernel, rfl⟩
theorem dX8_report_75 : uD 1 cX8_report 75 (.aload_n 0) 76 := ⟨by decide +kernel, rfl⟩
theorem dX8_report_76 : uD 3 cX8_report 76 (.getfield 7) 79 := ⟨by decide +kernel, rfl⟩
theorem dX8_report_79 : uD 1 cX8_report 79 (.iconst 1) 80 := ⟨by decide +kernel, rfl⟩
theorem dX8_report_80 : uD 1 cX8_report 80 (.iaload) 81 := ⟨by decide +kernel, rfl⟩
theorem dX8_report_81 : uD 1 cX8_report 81 (.ireturn) 82 := ⟨by decide +kernel, rfl⟩
theorem dX8_report_82 : uD 1 cX8_report 82 (.aload_n 0) 83 := ⟨by decide +kernel, rfl⟩
theorem dX8_report_83 : uD 3 cX8_report 83 (.getfield 7) 86 := ⟨by decide +kernel, rfl⟩
theorem dX8_report_86 : uD 2 cX8_report 86 (.bipush 26) 88 := ⟨by decide +kernel, rfl⟩
theorem dX8_report_88 : uD 1 cX8_report 88 (.iaload) 89 := ⟨by decide +kernel, rfl⟩
theorem dX8_report_89 : uD 1 cX8_report 89 (.ireturn) 90 := ⟨by decide +kernel, rfl⟩
theorem dX8_report_90 : uD 1 cX8_report 90 (.aload_n 0) 91 := ⟨by decide +kernel, rfl⟩
theorem dX8_report_91 : uD 3 cX8_report 91 (.getfield 7) 94 := ⟨by decide +kernel, rfl⟩
theorem dX8_report_94 : uD 2 cX8_report 94 (.bipush 27) 96 := ⟨by decide +kernel, rfl⟩
theorem dX8_report_96 : uD 1 cX8_report 96 (.iaload) 97 := ⟨by decide +kernel, rfl⟩
theorem dX8_report_97 : uD 1 cX8_report 97 (.ireturn) 98 := ⟨by decide +kernel, rfl⟩
theorem dX8_report_98 : uD 1 cX8_report 98 (.aload_n 0) 99 := ⟨by decide +kernel, rfl⟩
theorem dX8_report_99 : uD 3 cX8_report 99 (.getfield 7) 102 := ⟨by decide +kernel, rfl⟩
theorem dX8_report_102 : uD 2 cX8_report 102 (.bipush 36) 104 := ⟨by decide +kernel, rfl⟩
theorem dX8_report_104 : uD 1 cX8_report 104 (.iaload) 105 := ⟨by decide +kernel, rfl⟩
theorem dX8_report_105 : uD 1 cX8_report 105 (.ireturn) 106 := ⟨by decide +kernel, rfl⟩
theorem dX8_report_106 : uD 1 cX8_report 106 (.aload_n 0) 107 := ⟨by decide +kernel, rfl⟩
theorem dX8_report_107 : uD 3 cX8_report 107 (.getfield 7) 110 := ⟨by decide +kernel, rfl⟩
theorem dX8_report_110 : uD 2 cX8_report 110 (.bipush 9) 112 := ⟨by decide +kernel, rfl⟩
theorem dX8_report_112 : uD 1 cX8_report 112 (.iaload) 113 := ⟨by decide +kernel, rfl⟩
theorem dX8_report_113 : uD 1 cX8_report 113 (.ireturn) 114 := ⟨by decide +kernel, rfl⟩
theorem dX8_report_114 : uD 1 cX8_report 114 (.aload_n 0) 115 := ⟨by decide +kernel, rfl⟩
theorem dX8_report_115 : uD 3 cX8_report 115 (.getfield 7) 118 := ⟨by decide +kernel, rfl⟩
theorem dX8_report_118 : uD 2 cX8_report 118 (.bipush 7) 120 := ⟨by decide +kernel, rfl⟩
theorem dX8_report_120 : uD 1 cX8_report 120 (.iaload) 121 := ⟨by decide +kernel, rfl⟩
theorem dX8_report_121 : uD 1 cX8_report 121 (.ireturn) 122 := ⟨by decide +kernel, rfl⟩
theorem dX8_report_122 : uD 1 cX8_report 122 (.aload_n 0) 123 := ⟨by decide +kernel, rfl⟩
theorem dX8_report_123 : uD 3 cX8_report 123 (.getfield 7) 126 := ⟨by decide +kernel, rfl⟩
theorem dX8_report_126 : uD 2 cX8_report 126 (.bipush 8) 128 := ⟨by decide +kernel, rfl⟩
theorem dX8_report_128 : uD 1 cX8_report 128 (.iaload) 129 := ⟨by decide +kernel, rfl⟩
theorem dX8_report_129 : uD 1 cX8_report 129 (.ireturn) 130 := ⟨by decide +kernel, rfl⟩
theorem dX8_report_130 : uD 1 cX8_report 130 (.aload_n 0) 131 := ⟨by decide +kernel, rfl⟩
theorem dX8_report_131 : uD 3 cX8_report 131 (.getfield 7) 134 := ⟨by decide +kernel, rfl⟩
theorem dX8_report_134 : uD 2 cX8_report 134 (.bipush 28) 136 := ⟨by decide +kernel, rfl⟩
theorem dX8_report_136 : uD 1 cX8_report 136 (.iaload) 137 := ⟨by decide +kernel, rfl⟩
theorem dX8_report_137 : uD 1 cX8_report 137 (.ireturn) 138 := ⟨by decide +kernel, rfl⟩
theorem dX8_device_0 : uD 1 cX8_device 0 (.aload_n 0) 1 := ⟨by decide +kernel, rfl⟩
theorem dX8_device_1 : uD 1 cX8_device 1 (.iconst 0) 2 := ⟨by decide +kernel, rfl⟩
theorem dX8_device_2 : uD 3 cX8_device 2 (.putfield 49) 5 := ⟨by decide +kernel, rfl⟩
theorem dX8_device_5 : uD 1 cX8_device 5 (.aload_n 0) 6 := ⟨by decide +kernel, rfl⟩
theorem dX8_device_6 : uD 1 cX8_device 6 (.aload_n 0) 7 := ⟨by decide +kernel, rfl⟩
theorem dX8_device_7 : uD 1 cX8_device 7 (.iload_n 1) 8 := ⟨by decide +kernel, rfl⟩
theorem dX8_device_8 : uD 3 cX8_device 8 (.invokevirtual 178) 11 := ⟨by decide +kernel, rfl⟩
theorem dX8_device_11 : uD 1 cX8_device 11 (.iconst 1) 12 := ⟨by decide +kernel, rfl⟩
theorem dX8_device_12 : uD 3 cX8_device 12 (.invokevirtual 55) 15 := ⟨by decide +kernel, rfl⟩
theorem dX8_device_15 : uJ cX8_device 15 (fun o => .ifCond .eq o) 33 18 := ⟨18, by decide +kernel, by decide, rfl⟩
theorem dX8_device_18 : uD 1 cX8_device 18 (.aload_n 0) 19 := ⟨by decide +kernel, rfl⟩
theorem dX8_device_19 : uD 1 cX8_device 19 (.iload_n 2) 20 := ⟨by decide +kernel, rfl⟩
theorem dX8_device_20 : uD 1 cX8_device 20 (.iconst 0) 21 := ⟨by decide +kernel, rfl⟩
theorem dX8_device_21 : uD 2 cX8_device 21 (.bipush 6) 23 := ⟨by decide +kernel, rfl⟩
theorem dX8_device_23 : uD 3 cX8_device 23 (.invokestatic 59) 26 := ⟨by decide +kernel, rfl⟩
theorem dX8_device_26 : uD 1 cX8_device 26 (.iconst 2) 27 := ⟨by decide +kernel, rfl⟩
theorem dX8_device_27 : uD 3 cX8_device 27 (.invokevirtual 55) 30 := ⟨by decide +kernel, rfl⟩
theorem dX8_device_30 : uJ cX8_device 30 (fun o => .ifCond .ne o) 35 33 := ⟨5, by decide +kernel, by decide, rfl⟩
theorem dX8_device_33 : uD 1 cX8_device 33 (.iconst 0) 34 := ⟨by decide +kernel, rfl⟩
theorem dX8_device_34 : uD 1 cX8_device 34 (.ireturn) 35 := ⟨by decide +kernel, rfl⟩
theorem dX8_device_35 : uD 1 cX8_device 35 (.iload_n 2) 36 := ⟨by decide +kernel, rfl⟩
theorem dX8_device_36 : uD 1 cX8_device 36 (.iconst 3) 37 := ⟨by decide +kernel, rfl⟩
theorem dX8_device_37 : uJ cX8_device 37 (fun o => .if_icmp .ge o) 54 40 := ⟨17, by decide +kernel, by decide, rfl⟩
theorem dX8_device_40 : uD 1 cX8_device 40 (.aload_n 0) 41 := ⟨by decide +kernel, rfl⟩
theorem dX8_device_41 : uD 3 cX8_device 41 (.getfield 7) 44 := ⟨by decide +kernel, rfl⟩
theorem dX8_device_44 : uD 2 cX8_device 44 (.bipush 10) 46 := ⟨by decide +kernel, rfl⟩
theorem dX8_device_46 : uD 1 cX8_device 46 (.iconst 3) 47 := ⟨by decide +kernel, rfl⟩
theorem dX8_device_47 : uD 1 cX8_device 47 (.iload_n 1) 48 := ⟨by decide +kernel, rfl⟩
theorem dX8_device_48 : uD 1 cX8_device 48 (.imul) 49 := ⟨by decide +kernel, rfl⟩
theorem dX8_device_49 : uD 1 cX8_device 49 (.iadd) 50 := ⟨by decide +kernel, rfl⟩
theorem dX8_device_50 : uD 1 cX8_device 50 (.iload_n 2) 51 := ⟨by decide +kernel, rfl⟩
theorem dX8_device_51 : uD 1 cX8_device 51 (.iadd) 52 := ⟨by decide +kernel, rfl⟩
theorem dX8_device_52 : uD 1 cX8_device 52 (.iaload) 53 := ⟨by decide +kernel, rfl⟩
theorem dX8_device_53 : uD 1 cX8_device 53 (.ireturn) 54 := ⟨by decide +kernel, rfl⟩
theorem dX8_device_54 : uD 1 cX8_device 54 (.iload_n 2) 55 := ⟨by decide +kernel, rfl⟩
theorem dX8_device_55 : uD 1 cX8_device 55 (.iconst 3) 56 := ⟨by decide +kernel, rfl⟩
theorem dX8_device_56 : uJ cX8_device 56 (fun o => .if_icmp .ne o) 73 59 := ⟨17, by decide +kernel, by decide, rfl⟩
theorem dX8_device_59 : uD 1 cX8_device 59 (.aload_n 0) 60 := ⟨by decide +kernel, rfl⟩
theorem dX8_device_60 : uD 1 cX8_device 60 (.iload_n 1) 61 := ⟨by decide +kernel, rfl⟩
theorem dX8_device_61 : uD 3 cX8_device 61 (.invokevirtual 169) 64 := ⟨by decide +kernel, rfl⟩
theorem dX8_device_64 : uJ cX8_device 64 (fun o => .ifCond .eq o) 71 67 := ⟨7, by decide +kernel, by decide, rfl⟩
theorem dX8_device_67 : uD 1 cX8_device 67 (.iconst 1) 68 := ⟨by decide +kernel, rfl⟩
theorem dX8_device_68 : uJ cX8_device 68 (fun o => .goto o) 72 71 := ⟨4, by decide +kernel, by decide, rfl⟩
theorem dX8_device_71 : uD 1 cX8_device 71 (.iconst 0) 72 := ⟨by decide +kernel, rfl⟩
theorem dX8_device_72 : uD 1 cX8_device 72 (.ireturn) 73 := ⟨by decide +kernel, rfl⟩
theorem dX8_device_73 : uD 1 cX8_device 73 (.aload_n 0) 74 := ⟨by decide +kernel, rfl⟩
theorem dX8_device_74 : uD 1 cX8_device 74 (.iload_n 1) 75 := ⟨by decide +kernel, rfl⟩
theorem dX8_device_75 : uD 3 cX8_device 75 (.invokevirtual 181) 78 := ⟨by decide +kernel, rfl⟩
theorem dX8_device_78 : uD 1 cX8_device 78 (.istore_n 3) 79 := ⟨by decide +kernel, rfl⟩
theorem dX8_device_79 : uD 1 cX8_device 79 (.iload_n 2) 80 := ⟨by decide +kernel, rfl⟩
theorem dX8_device_80 : uD 1 cX8_device 80 (.iconst 4) 81 := ⟨by decide +kernel, rfl⟩
theorem dX8_device_81 : uJ cX8_device 81 (fun o => .if_icmp .ne o) 91 84 := ⟨10, by decide +kernel, by decide, rfl⟩
theorem dX8_device_84 : uD 1 cX8_device 84 (.iload_n 3) 85 := ⟨by decide +kernel, rfl⟩
theorem dX8_device_85 : uD 3 cX8_device 85 (.invokestatic 184) 88 := ⟨by decide +kernel, rfl⟩
theorem dX8_device_88 : uJ cX8_device 88 (fun o => .goto o) 109 91 := ⟨21, by decide +kernel, by decide, rfl⟩
theorem dX8_device_91 : uD 1 cX8_device 91 (.iload_n 2) 92 := ⟨by decide +kernel, rfl⟩
theorem dX8_device_92 : uD 1 cX8_device 92 (.iconst 5) 93 := ⟨by decide +kernel, rfl⟩
theorem dX8_device_93 : uJ cX8_device 93 (fun o => .if_icmp .ne o) 104 96 := ⟨11, by decide +kernel, by decide, rfl⟩
theorem dX8_device_96 : uD 1 cX8_device 96 (.aload_n 0) 97 := ⟨by decide +kernel, rfl⟩
theorem dX8_device_97 : uD 1 cX8_device 97 (.iload_n 3) 98 := ⟨by decide +kernel, rfl⟩
theorem dX8_device_98 : uD 3 cX8_device 98 (.invokevirtual 187) 101 := ⟨by decide +kernel, rfl⟩
theorem dX8_device_101 : uJ cX8_device 101 (fun o => .goto o) 109 104 := ⟨8, by decide +kernel, by decide, rfl⟩
theorem dX8_device_104 : uD 1 cX8_device 104 (.aload_n 0) 105 := ⟨by decide +kernel, rfl⟩
theorem dX8_device_105 : uD 1 cX8_device 105 (.iload_n 3) 106 := ⟨by decide +kernel, rfl⟩
theorem dX8_device_106 : uD 3 cX8_device 106 (.invokevirtual 175) 109 := ⟨by decide +kernel, rfl⟩
theorem dX8_device_109 : uD 1 cX8_device 109 (.ireturn) 110 := ⟨by decide +kernel, rfl⟩
theorem dX8_block_0 : uD 1 cX8_block 0 (.aload_n 0) 1 := ⟨by decide +kernel, rfl⟩
theorem dX8_block_1 : uD 1 cX8_block 1 (.iconst 0) 2 := ⟨by decide +kernel, rfl⟩
theorem dX8_block_2 : uD 3 cX8_block 2 (.putfield 49) 5 := ⟨by decide +kernel, rfl⟩
theorem dX8_block_5 : uD 1 cX8_block 5 (.aload_n 0) 6 := ⟨by decide +kernel, rfl⟩
theorem dX8_block_6 : uD 1 cX8_block 6 (.aload_n 0) 7 := ⟨by decide +kernel, rfl⟩
theorem dX8_block_7 : uD 1 cX8_block 7 (.iload_n 1) 8 := ⟨by decide +kernel, rfl⟩
theorem dX8_block_8 : uD 3 cX8_block 8 (.invokevirtual 190) 11 := ⟨by decide +kernel, rfl⟩
theorem dX8_block_11 : uD 1 cX8_block 11 (.iconst 1) 12 := ⟨by decide +kernel, rfl⟩
theorem dX8_block_12 : uD 3 cX8_block 12 (.invokevirtual 55) 15 := ⟨by decide +kernel, rfl⟩
theorem dX8_block_15 : uJ cX8_block 15 (fun o => .ifCond .eq o) 32 18 := ⟨17, by decide +kernel, by decide, rfl⟩
theorem dX8_block_18 : uD 1 cX8_block 18 (.aload_n 0) 19 := ⟨by decide +kernel, rfl⟩
theorem dX8_block_19 : uD 1 cX8_block 19 (.iload_n 2) 20 := ⟨by decide +kernel, rfl⟩
theorem dX8_block_20 : uD 1 cX8_block 20 (.iconst 0) 21 := ⟨by decide +kernel, rfl⟩
theorem dX8_block_21 : uD 1 cX8_block 21 (.iconst 3) 22 := ⟨by decide +kernel, rfl⟩
theorem dX8_block_22 : uD 3 cX8_block 22 (.invokestatic 59) 25 := ⟨by decide +kernel, rfl⟩
theorem dX8_block_25 : uD 1 cX8_block 25 (.iconst 2) 26 := ⟨by decide +kernel, rfl⟩
theorem dX8_block_26 : uD 3 cX8_block 26 (.invokevirtual 55) 29 := ⟨by decide +kernel, rfl⟩
theorem dX8_block_29 : uJ cX8_block 29 (fun o => .ifCond .ne o) 34 32 := ⟨5, by decide +kernel, by decide, rfl⟩
theorem dX8_block_32 : uD 1 cX8_block 32 (.iconst 0) 33 := ⟨by decide +kernel, rfl⟩
theorem dX8_block_33 : uD 1 cX8_block 33 (.ireturn) 34 := ⟨by decide +kernel, rfl⟩
theorem dX8_block_34 : uD 1 cX8_block 34 (.iload_n 2) 35 := ⟨by decide +kernel, rfl⟩
theorem dX8_block_35 : uJ cX8_block 35 (fun o => .ifCond .ne o) 46 38 := ⟨11, by decide +kernel, by decide, rfl⟩
theorem dX8_block_38 : uD 1 cX8_block 38 (.aload_n 0) 39 := ⟨by decide +kernel, rfl⟩
theorem dX8_block_39 : uD 1 cX8_block 39 (.iload_n 1) 40 := ⟨by decide +kernel, rfl⟩
theorem dX8_block_40 : uD 3 cX8_block 40 (.invokevirtual 166) 43 := ⟨by decide +kernel, rfl⟩
theorem dX8_block_43 : uJ cX8_block 43 (fun o => .goto o) 91 46 := ⟨48, by decide +kernel, by decide, rfl⟩
theorem dX8_block_46 : uD 1 cX8_block 46 (.iload_n 2) 47 := ⟨by decide +kernel, rfl⟩
theorem dX8_block_47 : uD 1 cX8_block 47 (.iconst 1) 48 := ⟨by decide +kernel, rfl⟩
theorem dX8_block_48 : uJ cX8_block 48 (fun o => .if_icmp .ne o) 63 51 := ⟨15, by decide +kernel, by decide, rfl⟩
theorem dX8_block_51 : uD 1 cX8_block 51 (.aload_n 0) 52 := ⟨by decide +kernel, rfl⟩
theorem dX8_block_52 : uD 1 cX8_block 52 (.iload_n 1) 53 := ⟨by decide +kernel, rfl⟩
theorem dX8_block_53 : uD 1 cX8_block 53 (.iconst 0) 54 := ⟨by decide +kernel, rfl⟩
theorem dX8_block_54 : uD 3 cX8_block 54 (.invokevirtual 160) 57 := ⟨by decide +kernel, rfl⟩
theorem dX8_block_57 : uD 2 cX8_block 57 (.bipush 100) 59 := ⟨by decide +kernel, rfl⟩
theorem dX8_block_59 : uD 1 cX8_block 59 (.irem) 60 := ⟨by decide +kernel, rfl⟩
theorem dX8_block_60 : uJ cX8_block 60 (fun o => .goto o) 91 63 := ⟨31, by decide +kernel, by decide, rfl⟩
theorem dX8_block_63 : uD 1 cX8_block 63 (.iload_n 2) 64 := ⟨by decide +kernel, rfl⟩
theorem dX8_block_64 : uD 1 cX8_block 64 (.iconst 2) 65 := ⟨by decide +kernel, rfl⟩
theorem dX8_block_65 : uJ cX8_block 65 (fun o => .if_icmp .ne o) 77 68 := ⟨12, by decide +kernel, by decide, rfl⟩
theorem dX8_block_68 : uD 1 cX8_block 68 (.aload_n 0) 69 := ⟨by decide +kernel, rfl⟩
theorem dX8_block_69 : uD 1 cX8_block 69 (.iload_n 1) 70 := ⟨by decide +kernel, rfl⟩
theorem dX8_block_70 : uD 1 cX8_block 70 (.iconst 1) 71 := ⟨by decide +kernel, rfl⟩
theorem dX8_block_71 : uD 3 cX8_block 71 (.invokevirtual 160) 74 := ⟨by decide +kernel, rfl⟩
theorem dX8_block_74 : uJ cX8_block 74 (fun o => .goto o) 91 77 := ⟨17, by decide +kernel, by decide, rfl⟩
theorem dX8_block_77 : uD 1 cX8_block 77 (.aload_n 0) 78 := ⟨by decide +kernel, rfl⟩
theorem dX8_block_78 : uD 3 cX8_block 78 (.getfield 7) 81 := ⟨by decide +kernel, rfl⟩
theorem dX8_block_81 : uD 2 cX8_block 81 (.bipush 26) 83 := ⟨by decide +kernel, rfl⟩
theorem dX8_block_83 : uD 1 cX8_block 83 (.iaload) 84 := ⟨by decide +kernel, rfl⟩
theorem dX8_block_84 : uD 1 cX8_block 84 (.aload_n 0) 85 := ⟨by decide +kernel, rfl⟩
theorem dX8_block_85 : uD 1 cX8_block 85 (.iload_n 1) 86 := ⟨by decide +kernel, rfl⟩
theorem dX8_block_86 : uD 1 cX8_block 86 (.iconst 2) 87 := ⟨by decide +kernel, rfl⟩
theorem dX8_block_87 : uD 3 cX8_block 87 (.invokevirtual 160) 90 := ⟨by decide +kernel, rfl⟩
theorem dX8_block_90 : uD 1 cX8_block 90 (.isub) 91 := ⟨by decide +kernel, rfl⟩
theorem dX8_block_91 : uD 1 cX8_block 91 (.ireturn) 92 := ⟨by decide +kernel, rfl⟩
theorem dX8_isPlace_0 : uD 1 cX8_isPlace 0 (.aload_n 0) 1 := ⟨by decide +kernel, rfl⟩
theorem dX8_isPlace_1 : uD 1 cX8_isPlace 1 (.iload_n 1) 2 := ⟨by decide +kernel, rfl⟩
theorem dX8_isPlace_2 : uD 3 cX8_isPlace 2 (.invokevirtual 178) 5 := ⟨by decide +kernel, rfl⟩
theorem dX8_isPlace_5 : uJ cX8_isPlace 5 (fun o => .ifCond .eq o) 22 8 := ⟨17, by decide +kernel, by decide, rfl⟩
theorem dX8_isPlace_8 : uD 1 cX8_isPlace 8 (.iload_n 2) 9 := ⟨by decide +kernel, rfl⟩
theorem dX8_isPlace_9 : uD 1 cX8_isPlace 9 (.iconst 0) 10 := ⟨by decide +kernel, rfl⟩
theorem dX8_isPlace_10 : uD 2 cX8_isPlace 10 (.bipush 99) 12 := ⟨by decide +kernel, rfl⟩
theorem dX8_isPlace_12 : uD 3 cX8_isPlace 12 (.invokestatic 59) 15 := ⟨by decide +kernel, rfl⟩
theorem dX8_isPlace_15 : uJ cX8_isPlace 15 (fun o => .ifCond .eq o) 22 18 := ⟨7, by decide +kernel, by decide, rfl⟩
theorem dX8_isPlace_18 : uD 1 cX8_isPlace 18 (.iconst 1) 19 := ⟨by decide +kernel, rfl⟩
theorem dX8_isPlace_19 : uJ cX8_isPlace 19 (fun o => .goto o) 23 22 := ⟨4, by decide +kernel, by decide, rfl⟩
theorem dX8_isPlace_22 : uD 1 cX8_isPlace 22 (.iconst 0) 23 := ⟨by decide +kernel, rfl⟩
theorem dX8_isPlace_23 : uD 1 cX8_isPlace 23 (.ireturn) 24 := ⟨by decide +kernel, rfl⟩
theorem dX8_find_0 : uD 1 cX8_find 0 (.aload_n 0) 1 := ⟨by decide +kernel, rfl⟩
theorem dX8_find_1 : uD 1 cX8_find 1 (.iconst 0) 2 := ⟨by decide +kernel, rfl⟩
theorem dX8_find_2 : uD 3 cX8_find 2 (.putfield 49) 5 := ⟨by decide +kernel, rfl⟩
theorem dX8_find_5 : uD 1 cX8_find 5 (.aload_n 0) 6 := ⟨by decide +kernel, rfl⟩
theorem dX8_find_6 : uD 1 cX8_find 6 (.aload_n 0) 7 := ⟨by decide +kernel, rfl⟩
theorem dX8_find_7 : uD 1 cX8_find 7 (.iload_n 1) 8 := ⟨by decide +kernel, rfl⟩
theorem dX8_find_8 : uD 1 cX8_find 8 (.iload_n 2) 9 := ⟨by decide +kernel, rfl⟩
theorem dX8_find_9 : uD 3 cX8_find 9 (.invokevirtual 193) 12 := ⟨by decide +kernel, rfl⟩
theorem dX8_find_12 : uD 1 cX8_find 12 (.iconst 1) 13 := ⟨by decide +kernel, rfl⟩
theorem dX8_find_13 : uD 3 cX8_find 13 (.invokevirtual 55) 16 := ⟨by decide +kernel, rfl⟩
theorem dX8_find_16 : uJ cX8_find 16 (fun o => .ifCond .ne o) 21 19 := ⟨5, by decide +kernel, by decide, rfl⟩
theorem dX8_find_19 : uD 1 cX8_find 19 (.iconst 0) 20 := ⟨by decide +kernel, rfl⟩
theorem dX8_find_20 : uD 1 cX8_find 20 (.ireturn) 21 := ⟨by decide +kernel, rfl⟩
theorem dX8_find_21 : uD 1 cX8_find 21 (.aload_n 0) 22 := ⟨by decide +kernel, rfl⟩
theorem dX8_find_22 : uD 1 cX8_find 22 (.iload_n 1) 23 := ⟨by decide +kernel, rfl⟩
theorem dX8_find_23 : uD 1 cX8_find 23 (.iload_n 2) 24 := ⟨by decide +kernel, rfl⟩
theorem dX8_find_24 : uD 3 cX8_find 24 (.invokevirtual 196) 27 := ⟨by decide +kernel, rfl⟩
theorem dX8_find_27 : uD 1 cX8_find 27 (.istore_n 3) 28 := ⟨by decide +kernel, rfl⟩
theorem dX8_find_28 : uD 1 cX8_find 28 (.aload_n 0) 29 := ⟨by decide +kernel, rfl⟩
theorem dX8_find_29 : uD 1 cX8_find 29 (.iload_n 3) 30 := ⟨by decide +kernel, rfl⟩
theorem dX8_find_30 : uD 1 cX8_find 30 (.iconst (-1)) 31 := ⟨by decide +kernel, rfl⟩
theorem dX8_find_31 : uJ cX8_find 31 (fun o => .if_icmp .eq o) 38 34 := ⟨7, by decide +kernel, by decide, rfl⟩
theorem dX8_find_34 : uD 1 cX8_find 34 (.iconst 1) 35 := ⟨by decide +kernel, rfl⟩
theorem dX8_find_35 : uJ cX8_find 35 (fun o => .goto o) 39 38 := ⟨4, by decide +kernel, by decide, rfl⟩
theorem dX8_find_38 : uD 1 cX8_find 38 (.iconst 0) 39 := ⟨by decide +kernel, rfl⟩
theorem dX8_find_39 : uD 1 cX8_find 39 (.iconst 2) 40 := ⟨by decide +kernel, rfl⟩
theorem dX8_find_40 : uD 3 cX8_find 40 (.invokevirtual 55) 43 := ⟨by decide +kernel, rfl⟩
theorem dX8_find_43 : uJ cX8_find 43 (fun o => .ifCond .eq o) 50 46 := ⟨7, by decide +kernel, by decide, rfl⟩
theorem dX8_find_46 : uD 1 cX8_find 46 (.iload_n 3) 47 := ⟨by decide +kernel, rfl⟩
theorem dX8_find_47 : uJ cX8_find 47 (fun o => .goto o) 51 50 := ⟨4, by decide +kernel, by decide, rfl⟩
theorem dX8_find_50 : uD 1 cX8_find 50 (.iconst 0) 51 := ⟨by decide +kernel, rfl⟩
theorem dX8_find_51 : uD 1 cX8_find 51 (.ireturn) 52 := ⟨by decide +kernel, rfl⟩
theorem dX8_oldest_0 : uD 1 cX8_oldest 0 (.aload_n 0) 1 := ⟨by decide +kernel, rfl⟩
theorem dX8_oldest_1 : uD 1 cX8_oldest 1 (.iconst 0) 2 := ⟨by decide +kernel, rfl⟩
theorem dX8_oldest_2 : uD 3 cX8_oldest 2 (.putfield 49) 5 := ⟨by decide +kernel, rfl⟩
theorem dX8_oldest_5 : uD 1 cX8_oldest 5 (.aload_n 0) 6 := ⟨by decide +kernel, rfl⟩
theorem dX8_oldest_6 : uD 1 cX8_oldest 6 (.aload_n 0) 7 := ⟨by decide +kernel, rfl⟩
theorem dX8_oldest_7 : uD 3 cX8_oldest 7 (.getfield 7) 10 := ⟨by decide +kernel, rfl⟩
theorem dX8_oldest_10 : uD 2 cX8_oldest 10 (.bipush 36) 12 := ⟨by decide +kernel, rfl⟩
theorem dX8_oldest_12 : uD 1 cX8_oldest 12 (.iaload) 13 := ⟨by decide +kernel, rfl⟩
theorem dX8_oldest_13 : uJ cX8_oldest 13 (fun o => .ifCond .le o) 20 16 := ⟨7, by decide +kernel, by decide, rfl⟩
theorem dX8_oldest_16 : uD 1 cX8_oldest 16 (.iconst 1) 17 := ⟨by decide +kernel, rfl⟩
theorem dX8_oldest_17 : uJ cX8_oldest 17 (fun o => .goto o) 21 20 := ⟨4, by decide +kernel, by decide, rfl⟩
theorem dX8_oldest_20 : uD 1 cX8_oldest 20 (.iconst 0) 21 := ⟨by decide +kernel, rfl⟩
theorem dX8_oldest_21 : uD 1 cX8_oldest 21 (.iconst 1) 22 := ⟨by decide +kernel, rfl⟩
theorem dX8_oldest_22 : uD 3 cX8_oldest 22 (.invokevirtual 55) 25 := ⟨by decide +kernel, rfl⟩
theorem dX8_oldest_25 : uJ cX8_oldest 25 (fun o => .ifCond .ne o) 30 28 := ⟨5, by decide +kernel, by decide, rfl⟩
theorem dX8_oldest_28 : uD 1 cX8_oldest 28 (.iconst 0) 29 := ⟨by decide +kernel, rfl⟩
theorem dX8_oldest_29 : uD 1 cX8_oldest 29 (.ireturn) 30 := ⟨by decide +kernel, rfl⟩
theorem dX8_oldest_30 : uD 1 cX8_oldest 30 (.iconst 0) 31 := ⟨by decide +kernel, rfl⟩
theorem dX8_oldest_31 : uD 1 cX8_oldest 31 (.istore_n 1) 32 := ⟨by decide +kernel, rfl⟩
theorem dX8_oldest_32 : uD 1 cX8_oldest 32 (.iconst 1) 33 := ⟨by decide +kernel, rfl⟩
theorem dX8_oldest_33 : uD 1 cX8_oldest 33 (.istore_n 2) 34 := ⟨by decide +kernel, rfl⟩
theorem dX8_oldest_34 : uD 1 cX8_oldest 34 (.iload_n 2) 35 := ⟨by decide +kernel, rfl⟩
theorem dX8_oldest_35 : uD 1 cX8_oldest 35 (.aload_n 0) 36 := ⟨by decide +kernel, rfl⟩
theorem dX8_oldest_36 : uD 3 cX8_oldest 36 (.getfield 7) 39 := ⟨by decide +kernel, rfl⟩
theorem dX8_oldest_39 : uD 2 cX8_oldest 39 (.bipush 36) 41 := ⟨by decide +kernel, rfl⟩
theorem dX8_oldest_41 : uD 1 cX8_oldest 41 (.iaload) 42 := ⟨by decide +kernel, rfl⟩
theorem dX8_oldest_42 : uJ cX8_oldest 42 (fun o => .if_icmp .ge o) 72 45 := ⟨30, by decide +kernel, by decide, rfl⟩
theorem dX8_oldest_45 : uD 1 cX8_oldest 45 (.aload_n 0) 46 := ⟨by decide +kernel, rfl⟩
theorem dX8_oldest_46 : uD 1 cX8_oldest 46 (.iload_n 2) 47 := ⟨by decide +kernel, rfl⟩
theorem dX8_oldest_47 : uD 1 cX8_oldest 47 (.iconst 2) 48 := ⟨by decide +kernel, rfl⟩
theorem dX8_oldest_48 : uD 3 cX8_oldest 48 (.invokevirtual 160) 51 := ⟨by decide +kernel, rfl⟩
theorem dX8_oldest_51 : uD 1 cX8_oldest 51 (.aload_n 0) 52 := ⟨by decide +kernel, rfl⟩
theorem dX8_oldest_52 : uD 1 cX8_oldest 52 (.iload_n 1) 53 := ⟨by decide +kernel, rfl⟩
theorem dX8_oldest_53 : uD 1 cX8_oldest 53 (.iconst 2) 54 := ⟨by decide +kernel, rfl⟩
theorem dX8_oldest_54 : uD 3 cX8_oldest 54 (.invokevirtual 160) 57 := ⟨by decide +kernel, rfl⟩
theorem dX8_oldest_57 : uJ cX8_oldest 57 (fun o => .if_icmp .ge o) 64 60 := ⟨7, by decide +kernel, by decide, rfl⟩
theorem dX8_oldest_60 : uD 1 cX8_oldest 60 (.iload_n 2) 61 := ⟨by decide +kernel, rfl⟩
theorem dX8_oldest_61 : uJ cX8_oldest 61 (fun o => .goto o) 65 64 := ⟨4, by decide +kernel, by decide, rfl⟩
theorem dX8_oldest_64 : uD 1 cX8_oldest 64 (.iload_n 1) 65 := ⟨by decide +kernel, rfl⟩
theorem dX8_oldest_65 : uD 1 cX8_oldest 65 (.istore_n 1) 66 := ⟨by decide +kernel, rfl⟩
theorem dX8_oldest_66 : uD 3 cX8_oldest 66 (.iinc 2 1) 69 := ⟨by decide +kernel, rfl⟩
theorem dX8_oldest_69 : uJ cX8_oldest 69 (fun o => .goto o) 34 72 := ⟨(-35), by decide +kernel, by decide, rfl⟩
theorem dX8_oldest_72 : uD 1 cX8_oldest 72 (.iload_n 1) 73 := ⟨by decide +kernel, rfl⟩
theorem dX8_oldest_73 : uD 1 cX8_oldest 73 (.ireturn) 74 := ⟨by decide +kernel, rfl⟩
theorem dX8_total_0 : uD 1 cX8_total 0 (.aload_n 0) 1 := ⟨by decide +kernel, rfl⟩
theorem dX8_total_1 : uD 1 cX8_total 1 (.iconst 0) 2 := ⟨by decide +kernel, rfl⟩
theorem dX8_total_2 : uD 3 cX8_total 2 (.putfield 49) 5 := ⟨by decide +kernel, rfl⟩
theorem dX8_total_5 : uD 1 cX8_total 5 (.aload_n 0) 6 := ⟨by decide +kernel, rfl⟩
theorem dX8_total_6 : uD 1 cX8_total 6 (.iload_n 1) 7 := ⟨by decide +kernel, rfl⟩
theorem dX8_total_7 : uD 1 cX8_total 7 (.iconst 0) 8 := ⟨by decide +kernel, rfl⟩
theorem dX8_total_8 : uD 2 cX8_total 8 (.bipush 6) 10 := ⟨by decide +kernel, rfl⟩
theorem dX8_total_10 : uD 3 cX8_total 10 (.invokestatic 59) 13 := ⟨by decide +kernel, rfl⟩
theorem dX8_total_13 : uD 1 cX8_total 13 (.iconst 1) 14 := ⟨by decide +kernel, rfl⟩
theorem dX8_total_14 : uD 3 cX8_total 14 (.invokevirtual 55) 17 := ⟨by decide +kernel, rfl⟩
theorem dX8_total_17 : uJ cX8_total 17 (fun o => .ifCond .eq o) 32 20 := ⟨15, by decide +kernel, by decide, rfl⟩
theorem dX8_total_20 : uD 1 cX8_total 20 (.aload_n 0) 21 := ⟨by decide +kernel, rfl⟩
theorem dX8_total_21 : uD 3 cX8_total 21 (.getfield 7) 24 := ⟨by decide +kernel, rfl⟩
theorem dX8_total_24 : uD 2 cX8_total 24 (.bipush 29) 26 := ⟨by decide +kernel, rfl⟩
theorem dX8_total_26 : uD 1 cX8_total 26 (.iload_n 1) 27 := ⟨by decide +kernel, rfl⟩
theorem dX8_total_27 : uD 1 cX8_total 27 (.iadd) 28 := ⟨by decide +kernel, rfl⟩
theorem dX8_total_28 : uD 1 cX8_total 28 (.iaload) 29 := ⟨by decide +kernel, rfl⟩
theorem dX8_total_29 : uJ cX8_total 29 (fun o => .goto o) 33 32 := ⟨4, by decide +kernel, by decide, rfl⟩
theorem dX8_total_32 : uD 1 cX8_total 32 (.iconst 0) 33 := ⟨by decide +kernel, rfl⟩
theorem dX8_total_33 : uD 1 cX8_total 33 (.ireturn) 34 := ⟨by decide +kernel, rfl⟩
theorem dX8_isGuarded_0 : uD 1 cX8_isGuarded 0 (.iconst 0) 1 := ⟨by decide +kernel, rfl⟩
theorem dX8_isGuarded_1 : uD 1 cX8_isGuarded 1 (.istore_n 1) 2 := ⟨by decide +kernel, rfl⟩
theorem dX8_isGuarded_2 : uD 1 cX8_isGuarded 2 (.iconst 0) 3 := ⟨by decide +kernel, rfl⟩
theorem dX8_isGuarded_3 : uD 1 cX8_isGuarded 3 (.istore_n 2) 4 := ⟨by decide +kernel, rfl⟩
theorem dX8_isGuarded_4 : uD 1 cX8_isGuarded 4 (.iload_n 2) 5 := ⟨by decide +kernel, rfl⟩
theorem dX8_isGuarded_5 : uD 1 cX8_isGuarded 5 (.aload_n 0) 6 := ⟨by decide +kernel, rfl⟩
theorem dX8_isGuarded_6 : uD 3 cX8_isGuarded 6 (.getfield 7) 9 := ⟨by decide +kernel, rfl⟩
theorem dX8_isGuarded_9 : uD 2 cX8_isGuarded 9 (.bipush 36) 11 := ⟨by decide +kernel, rfl⟩
theorem dX8_isGuarded_11 : uD 1 cX8_isGuarded 11 (.iaload) 12 := ⟨by decide +kernel, rfl⟩
theorem dX8_isGuarded_12 : uJ cX8_isGuarded 12 (fun o => .if_icmp .ge o) 80 15 := ⟨68, by decide +kernel, by decide, rfl⟩
theorem dX8_isGuarded_15 : uD 1 cX8_isGuarded 15 (.aload_n 0) 16 := ⟨by decide +kernel, rfl⟩
theorem dX8_isGuarded_16 : uD 1 cX8_isGuarded 16 (.aload_n 0) 17 := ⟨by decide +kernel, rfl⟩
theorem dX8_isGuarded_17 : uD 1 cX8_isGuarded 17 (.iload_n 2) 18 := ⟨by decide +kernel, rfl⟩
theorem dX8_isGuarded_18 : uD 3 cX8_isGuarded 18 (.invokevirtual 166) 21 := ⟨by decide +kernel, rfl⟩
theorem dX8_isGuarded_21 : uD 3 cX8_isGuarded 21 (.invokevirtual 169) 24 := ⟨by decide +kernel, rfl⟩
theorem dX8_isGuarded_24 : uJ cX8_isGuarded 24 (fun o => .ifCond .ne o) 58 27 := ⟨34, by decide +kernel, by decide, rfl⟩
theorem dX8_isGuarded_27 : uD 1 cX8_isGuarded 27 (.aload_n 0) 28 := ⟨by decide +kernel, rfl⟩
theorem dX8_isGuarded_28 : uD 3 cX8_isGuarded 28 (.getfield 7) 31 := ⟨by decide +kernel, rfl⟩
theorem dX8_isGuarded_31 : uD 2 cX8_isGuarded 31 (.bipush 7) 33 := ⟨by decide +kernel, rfl⟩
theorem dX8_isGuarded_33 : uD 1 cX8_isGuarded 33 (.iaload) 34 := ⟨by decide +kernel, rfl⟩
theorem dX8_isGuarded_34 : uD 1 cX8_isGuarded 34 (.iconst 1) 35 := ⟨by decide +kernel, rfl⟩
theorem dX8_isGuarded_35 : uJ cX8_isGuarded 35 (fun o => .if_icmp .ne o) 54 38 := ⟨19, by decide +kernel, by decide, rfl⟩
theorem dX8_isGuarded_38 : uD 1 cX8_isGuarded 38 (.aload_n 0) 39 := ⟨by decide +kernel, rfl⟩
theorem dX8_isGuarded_39 : uD 1 cX8_isGuarded 39 (.iload_n 2) 40 := ⟨by decide +kernel, rfl⟩
theorem dX8_isGuarded_40 : uD 1 cX8_isGuarded 40 (.iconst 1) 41 := ⟨by decide +kernel, rfl⟩
theorem dX8_isGuarded_41 : uD 3 cX8_isGuarded 41 (.invokevirtual 160) 44 := ⟨by decide +kernel, rfl⟩
theorem dX8_isGuarded_44 : uD 1 cX8_isGuarded 44 (.aload_n 0) 45 := ⟨by decide +kernel, rfl⟩
theorem dX8_isGuarded_45 : uD 3 cX8_isGuarded 45 (.getfield 7) 48 := ⟨by decide +kernel, rfl⟩
theorem dX8_isGuarded_48 : uD 2 cX8_isGuarded 48 (.bipush 8) 50 := ⟨by decide +kernel, rfl⟩
theorem dX8_isGuarded_50 : uD 1 cX8_isGuarded 50 (.iaload) 51 := ⟨by decide +kernel, rfl⟩
theorem dX8_isGuarded_51 : uJ cX8_isGuarded 51 (fun o => .if_icmp .lt o) 58 54 := ⟨7, by decide +kernel, by decide, rfl⟩
theorem dX8_isGuarded_54 : uD 1 cX8_isGuarded 54 (.iconst 1) 55 := ⟨by decide +kernel, rfl⟩
theorem dX8_isGuarded_55 : uJ cX8_isGuarded 55 (fun o => .goto o) 59 58 := ⟨4, by decide +kernel, by decide, rfl⟩
theorem dX8_isGuarded_58 : uD 1 cX8_isGuarded 58 (.iconst 0) 59 := ⟨by decide +kernel, rfl⟩
theorem dX8_isGuarded_59 : uD 1 cX8_isGuarded 59 (.istore_n 3) 60 := ⟨by decide +kernel, rfl⟩
theorem dX8_isGuarded_60 : uD 1 cX8_isGuarded 60 (.iload_n 1) 61 := ⟨by decide +kernel, rfl⟩
theorem dX8_isGuarded_61 : uD 1 cX8_isGuarded 61 (.iload_n 3) 62 := ⟨by decide +kernel, rfl⟩
theorem dX8_isGuarded_62 : uJ cX8_isGuarded 62 (fun o => .ifCond .eq o) 71 65 := ⟨9, by decide +kernel, by decide, rfl⟩
theorem dX8_isGuarded_65 : uD 1 cX8_isGuarded 65 (.iconst 1) 66 := ⟨by decide +kernel, rfl⟩
theorem dX8_isGuarded_66 : uD 1 cX8_isGuarded 66 (.iload_n 2) 67 := ⟨by decide +kernel, rfl⟩
theorem dX8_isGuarded_67 : uD 1 cX8_isGuarded 67 (.ishl) 68 := ⟨by decide +kernel, rfl⟩
theorem dX8_isGuarded_68 : uJ cX8_isGuarded 68 (fun o => .goto o) 72 71 := ⟨4, by decide +kernel, by decide, rfl⟩
theorem dX8_isGuarded_71 : uD 1 cX8_isGuarded 71 (.iconst 0) 72 := ⟨by decide +kernel, rfl⟩
theorem dX8_isGuarded_72 : uD 1 cX8_isGuarded 72 (.ior) 73 := ⟨by decide +kernel, rfl⟩
theorem dX8_isGuarded_73 : uD 1 cX8_isGuarded 73 (.istore_n 1) 74 := ⟨by decide +kernel, rfl⟩
theorem dX8_isGuarded_74 : uD 3 cX8_isGuarded 74 (.iinc 2 1) 77 := ⟨by decide +kernel, rfl⟩
theorem dX8_isGuarded_77 : uJ cX8_isGuarded 77 (fun o => .goto o) 4 80 := ⟨(-73), by decide +kernel, by decide, rfl⟩
theorem dX8_isGuarded_80 : uD 1 cX8_isGuarded 80 (.aload_n 0) 81 := ⟨by decide +kernel, rfl⟩
theorem dX8_isGuarded_81 : uD 1 cX8_isGuarded 81 (.iload_n 1) 82 := ⟨by decide +kernel, rfl⟩
theorem dX8_isGuarded_82 : uD 3 cX8_isGuarded 82 (.invokevirtual 175) 85 := ⟨by decide +kernel, rfl⟩
theorem dX8_isGuarded_85 : uD 1 cX8_isGuarded 85 (.aload_n 0) 86 := ⟨by decide +kernel, rfl⟩
theorem dX8_isGuarded_86 : uD 3 cX8_isGuarded 86 (.getfield 7) 89 := ⟨by decide +kernel, rfl⟩
theorem dX8_isGuarded_89 : uD 1 cX8_isGuarded 89 (.iconst 1) 90 := ⟨by decide +kernel, rfl⟩
theorem dX8_isGuarded_90 : uD 1 cX8_isGuarded 90 (.iaload) 91 := ⟨by decide +kernel, rfl⟩
theorem dX8_isGuarded_91 : uD 1 cX8_isGuarded 91 (.aload_n 0) 92 := ⟨by decide +kernel, rfl⟩
theorem dX8_isGuarded_92 : uD 3 cX8_isGuarded 92 (.getfield 7) 95 := ⟨by decide +kernel, rfl⟩
theorem dX8_isGuarded_95 : uD 1 cX8_isGuarded 95 (.iconst 5) 96 := ⟨by decide +kernel, rfl⟩
theorem dX8_isGuarded_96 : uD 1 cX8_isGuarded 96 (.iaload) 97 := ⟨by decide +kernel, rfl⟩
theorem dX8_isGuarded_97 : uD 1 cX8_isGuarded 97 (.isub) 98 := ⟨by decide +kernel, rfl⟩
theorem dX8_isGuarded_98 : uJ cX8_isGuarded 98 (fun o => .if_icmp .gt o) 105 101 := ⟨7, by decide +kernel, by decide, rfl⟩
theorem dX8_isGuarded_101 : uD 1 cX8_isGuarded 101 (.iconst 1) 102 := ⟨by decide +kernel, rfl⟩
theorem dX8_isGuarded_102 : uJ cX8_isGuarded 102 (fun o => .goto o) 106 105 := ⟨4, by decide +kernel, by decide, rfl⟩
theorem dX8_isGuarded_105 : uD 1 cX8_isGuarded 105 (.iconst 0) 106 := ⟨by decide +kernel, rfl⟩
theorem dX8_isGuarded_106 : uD 1 cX8_isGuarded 106 (.ireturn) 107 := ⟨by decide +kernel, rfl⟩
theorem dX8_lays_0 : uD 1 cX8_lays 0 (.aload_n 0) 1 := ⟨by decide +kernel, rfl⟩
theorem dX8_lays_1 : uD 1 cX8_lays 1 (.iload_n 1) 2 := ⟨by decide +kernel, rfl⟩
theorem dX8_lays_2 : uD 1 cX8_lays 2 (.iload_n 2) 3 := ⟨by decide +kernel, rfl⟩
theorem dX8_lays_3 : uD 3 cX8_lays 3 (.invokevirtual 196) 6 := ⟨by decide +kernel, rfl⟩
theorem dX8_lays_6 : uD 2 cX8_lays 6 (.istore 4) 8 := ⟨by decide +kernel, rfl⟩
theorem dX8_lays_8 : uD 1 cX8_lays 8 (.aload_n 0) 9 := ⟨by decide +kernel, rfl⟩
theorem dX8_lays_9 : uD 3 cX8_lays 9 (.getfield 7) 12 := ⟨by decide +kernel, rfl⟩
theorem dX8_lays_12 : uD 2 cX8_lays 12 (.bipush 7) 14 := ⟨by decide +kernel, rfl⟩
theorem dX8_lays_14 : uD 1 cX8_lays 14 (.iaload) 15 := ⟨by decide +kernel, rfl⟩
theorem dX8_lays_15 : uD 1 cX8_lays 15 (.iconst 2) 16 := ⟨by decide +kernel, rfl⟩
theorem dX8_lays_16 : uJ cX8_lays 16 (fun o => .if_icmp .eq o) 42 19 := ⟨26, by decide +kernel, by decide, rfl⟩
theorem dX8_lays_19 : uD 2 cX8_lays 19 (.iload 4) 21 := ⟨by decide +kernel, rfl⟩
theorem dX8_lays_21 : uD 1 cX8_lays 21 (.iconst (-1)) 22 := ⟨by decide +kernel, rfl⟩
theorem dX8_lays_22 : uJ cX8_lays 22 (fun o => .if_icmp .ne o) 44 25 := ⟨22, by decide +kernel, by decide, rfl⟩
theorem dX8_lays_25 : uD 1 cX8_lays 25 (.aload_n 0) 26 := ⟨by decide +kernel, rfl⟩
theorem dX8_lays_26 : uD 3 cX8_lays 26 (.getfield 7) 29 := ⟨by decide +kernel, rfl⟩
theorem dX8_lays_29 : uD 2 cX8_lays 29 (.bipush 36) 31 := ⟨by decide +kernel, rfl⟩
theorem dX8_lays_31 : uD 1 cX8_lays 31 (.iaload) 32 := ⟨by decide +kernel, rfl⟩
theorem dX8_lays_32 : uD 1 cX8_lays 32 (.aload_n 0) 33 := ⟨by decide +kernel, rfl⟩
theorem dX8_lays_33 : uD 3 cX8_lays 33 (.getfield 7) 36 := ⟨by decide +kernel, rfl⟩
theorem dX8_lays_36 : uD 2 cX8_lays 36 (.bipush 6) 38 := ⟨by decide +kernel, rfl⟩
theorem dX8_lays_38 : uD 1 cX8_lays 38 (.iaload) 39 := ⟨by decide +kernel, rfl⟩
theorem dX8_lays_39 : uJ cX8_lays 39 (fun o => .if_icmp .lt o) 44 42 := ⟨5, by decide +kernel, by decide, rfl⟩
theorem dX8_lays_42 : uD 1 cX8_lays 42 (.iconst 0) 43 := ⟨by decide +kernel, rfl⟩
theorem dX8_lays_43 : uD 1 cX8_lays 43 (.ireturn) 44 := ⟨by decide +kernel, rfl⟩
theorem dX8_lays_44 : uD 2 cX8_lays 44 (.iload 4) 46 := ⟨by decide +kernel, rfl⟩
theorem dX8_lays_46 : uD 1 cX8_lays 46 (.iconst (-1)) 47 := ⟨by decide +kernel, rfl⟩
theorem dX8_lays_47 : uJ cX8_lays 47 (fun o => .if_icmp .ne o) 54 50 := ⟨7, by decide +kernel, by decide, rfl⟩
theorem dX8_lays_50 : uD 1 cX8_lays 50 (.iconst 0) 51 := ⟨by decide +kernel, rfl⟩
theorem dX8_lays_51 : uJ cX8_lays 51 (fun o => .goto o) 61 54 := ⟨10, by decide +kernel, by decide, rfl⟩
theorem dX8_lays_54 : uD 1 cX8_lays 54 (.aload_n 0) 55 := ⟨by decide +kernel, rfl⟩
theorem dX8_lays_55 : uD 2 cX8_lays 55 (.iload 4) 57 := ⟨by decide +kernel, rfl⟩
theorem dX8_lays_57 : uD 1 cX8_lays 57 (.iconst 1) 58 := ⟨by decide +kernel, rfl⟩
theorem dX8_lays_58 : uD 3 cX8_lays 58 (.invokevirtual 160) 61 := ⟨by decide +kernel, rfl⟩
theorem dX8_lays_61 : uD 2 cX8_lays 61 (.istore 5) 63 := ⟨by decide +kernel, rfl⟩
theorem dX8_lays_63 : uD 2 cX8_lays 63 (.iload 4) 65 := ⟨by decide +kernel, rfl⟩
theorem dX8_lays_65 : uD 1 cX8_lays 65 (.iconst (-1)) 66 := ⟨by decide +kernel, rfl⟩
theorem dX8_lays_66 : uJ cX8_lays 66 (fun o => .if_icmp .ne o) 79 69 := ⟨13, by decide +kernel, by decide, rfl⟩
theorem dX8_lays_69 : uD 1 cX8_lays 69 (.aload_n 0) 70 := ⟨by decide +kernel, rfl⟩
theorem dX8_lays_70 : uD 1 cX8_lays 70 (.iload_n 1) 71 := ⟨by decide +kernel, rfl⟩
theorem dX8_lays_71 : uD 1 cX8_lays 71 (.iload_n 2) 72 := ⟨by decide +kernel, rfl⟩
theorem dX8_lays_72 : uD 1 cX8_lays 72 (.iload_n 3) 73 := ⟨by decide +kernel, rfl⟩
theorem dX8_lays_73 : uD 3 cX8_lays 73 (.invokevirtual 199) 76 := ⟨by decide +kernel, rfl⟩
theorem dX8_lays_76 : uJ cX8_lays 76 (fun o => .goto o) 94 79 := ⟨18, by decide +kernel, by decide, rfl⟩
theorem dX8_lays_79 : uD 1 cX8_lays 79 (.aload_n 0) 80 := ⟨by decide +kernel, rfl⟩
theorem dX8_lays_80 : uD 3 cX8_lays 80 (.getfield 7) 83 := ⟨by decide +kernel, rfl⟩
theorem dX8_lays_83 : uD 2 cX8_lays 83 (.bipush 37) 85 := ⟨by decide +kernel, rfl⟩
theorem dX8_lays_85 : uD 1 cX8_lays 85 (.iconst 3) 86 := ⟨by decide +kernel, rfl⟩
theorem dX8_lays_86 : uD 2 cX8_lays 86 (.iload 4) 88 := ⟨by decide +kernel, rfl⟩
theorem dX8_lays_88 : uD 1 cX8_lays 88 (.imul) 89 := ⟨by decide +kernel, rfl⟩
theorem dX8_lays_89 : uD 1 cX8_lays 89 (.iadd) 90 := ⟨by decide +kernel, rfl⟩
theorem dX8_lays_90 : uD 1 cX8_lays 90 (.iconst 1) 91 := ⟨by decide +kernel, rfl⟩
theorem dX8_lays_91 : uD 1 cX8_lays 91 (.iadd) 92 := ⟨by decide +kernel, rfl⟩
theorem dX8_lays_92 : uD 1 cX8_lays 92 (.iload_n 3) 93 := ⟨by decide +kernel, rfl⟩
theorem dX8_lays_93 : uD 1 cX8_lays 93 (.iastore) 94 := ⟨by decide +kernel, rfl⟩
theorem dX8_lays_94 : uD 1 cX8_lays 94 (.aload_n 0) 95 := ⟨by decide +kernel, rfl⟩
theorem dX8_lays_95 : uD 3 cX8_lays 95 (.invokevirtual 203) 98 := ⟨by decide +kernel, rfl⟩
theorem dX8_lays_98 : uJ cX8_lays 98 (fun o => .ifCond .eq o) 103 101 := ⟨5, by decide +kernel, by decide, rfl⟩
theorem dX8_lays_101 : uD 1 cX8_lays 101 (.iconst 1) 102 := ⟨by decide +kernel, rfl⟩
theorem dX8_lays_102 : uD 1 cX8_lays 102 (.ireturn) 103 := ⟨by decide +kernel, rfl⟩
theorem dX8_lays_103 : uD 2 cX8_lays 103 (.iload 4) 105 := ⟨by decide +kernel, rfl⟩
theorem dX8_lays_105 : uD 1 cX8_lays 105 (.iconst (-1)) 106 := ⟨by decide +kernel, rfl⟩
theorem dX8_lays_106 : uJ cX8_lays 106 (fun o => .if_icmp .ne o) 122 109 := ⟨16, by decide +kernel, by decide, rfl⟩
theorem dX8_lays_109 : uD 1 cX8_lays 109 (.aload_n 0) 110 := ⟨by decide +kernel, rfl⟩
theorem dX8_lays_110 : uD 1 cX8_lays 110 (.aload_n 0) 111 := ⟨by decide +kernel, rfl⟩
theorem dX8_lays_111 : uD 1 cX8_lays 111 (.iload_n 1) 112 := ⟨by decide +kernel, rfl⟩
theorem dX8_lays_112 : uD 1 cX8_lays 112 (.iload_n 2) 113 := ⟨by decide +kernel, rfl⟩
theorem dX8_lays_113 : uD 3 cX8_lays 113 (.invokevirtual 196) 116 := ⟨by decide +kernel, rfl⟩
theorem dX8_lays_116 : uD 3 cX8_lays 116 (.invokevirtual 163) 119 := ⟨by decide +kernel, rfl⟩
theorem dX8_lays_119 : uJ cX8_lays 119 (fun o => .goto o) 138 122 := ⟨19, by decide +kernel, by decide, rfl⟩
theorem dX8_lays_122 : uD 1 cX8_lays 122 (.aload_n 0) 123 := ⟨by decide +kernel, rfl⟩
theorem dX8_lays_123 : uD 3 cX8_lays 123 (.getfield 7) 126 := ⟨by decide +kernel, rfl⟩
theorem dX8_lays_126 : uD 2 cX8_lays 126 (.bipush 37) 128 := ⟨by decide +kernel, rfl⟩
theorem dX8_lays_128 : uD 1 cX8_lays 128 (.iconst 3) 129 := ⟨by decide +kernel, rfl⟩
theorem dX8_lays_129 : uD 2 cX8_lays 129 (.iload 4) 131 := ⟨by decide +kernel, rfl⟩
theorem dX8_lays_131 : uD 1 cX8_lays 131 (.imul) 132 := ⟨by decide +kernel, rfl⟩
theorem dX8_lays_132 : uD 1 cX8_lays 132 (.iadd) 133 := ⟨by decide +kernel, rfl⟩
theorem dX8_lays_133 : uD 1 cX8_lays 133 (.iconst 1) 134 := ⟨by decide +kernel, rfl⟩
theorem dX8_lays_134 : uD 1 cX8_lays 134 (.iadd) 135 := ⟨by decide +kernel, rfl⟩
theorem dX8_lays_135 : uD 2 cX8_lays 135 (.iload 5) 137 := ⟨by decide +kernel, rfl⟩
theorem dX8_lays_137 : uD 1 cX8_lays 137 (.iastore) 138 := ⟨by decide +kernel, rfl⟩
theorem dX8_lays_138 : uD 1 cX8_lays 138 (.iconst 0) 139 := ⟨by decide +kernel, rfl⟩
theorem dX8_lays_139 : uD 1 cX8_lays 139 (.ireturn) 140 := ⟨by decide +kernel, rfl⟩
theorem dX8_mayWrite_0 : uD 1 cX8_mayWrite 0 (.aload_n 0) 1 := ⟨by decide +kernel, rfl⟩
theorem dX8_mayWrite_1 : uD 1 cX8_mayWrite 1 (.aload_n 0) 2 := ⟨by decide +kernel, rfl⟩
theorem dX8_mayWrite_2 : uD 1 cX8_mayWrite 2 (.iload_n 1) 3 := ⟨by decide +kernel, rfl⟩
theorem dX8_mayWrite_3 : uD 1 cX8_mayWrite 3 (.iload_n 2) 4 := ⟨by decide +kernel, rfl⟩
theorem dX8_mayWrite_4 : uD 3 cX8_mayWrite 4 (.invokevirtual 193) 7 := ⟨by decide +kernel, rfl⟩
theorem dX8_mayWrite_7 : uD 1 cX8_mayWrite 7 (.iconst 1) 8 := ⟨by decide +kernel, rfl⟩
theorem dX8_mayWrite_8 : uD 3 cX8_mayWrite 8 (.invokevirtual 55) 11 := ⟨by decide +kernel, rfl⟩
theorem dX8_mayWrite_11 : uJ cX8_mayWrite 11 (fun o => .ifCond .eq o) 65 14 := ⟨54, by decide +kernel, by decide, rfl⟩
theorem dX8_mayWrite_14 : uD 1 cX8_mayWrite 14 (.aload_n 0) 15 := ⟨by decide +kernel, rfl⟩
theorem dX8_mayWrite_15 : uD 1 cX8_mayWrite 15 (.iload_n 3) 16 := ⟨by decide +kernel, rfl⟩
theorem dX8_mayWrite_16 : uD 1 cX8_mayWrite 16 (.iconst 1) 17 := ⟨by decide +kernel, rfl⟩
theorem dX8_mayWrite_17 : uD 2 cX8_mayWrite 17 (.bipush 99) 19 := ⟨by decide +kernel, rfl⟩
theorem dX8_mayWrite_19 : uD 3 cX8_mayWrite 19 (.invokestatic 59) 22 := ⟨by decide +kernel, rfl⟩
theorem dX8_mayWrite_22 : uD 1 cX8_mayWrite 22 (.iconst 2) 23 := ⟨by decide +kernel, rfl⟩
theorem dX8_mayWrite_23 : uD 3 cX8_mayWrite 23 (.invokevirtual 55) 26 := ⟨by decide +kernel, rfl⟩
theorem dX8_mayWrite_26 : uJ cX8_mayWrite 26 (fun o => .ifCond .eq o) 65 29 := ⟨39, by decide +kernel, by decide, rfl⟩
theorem dX8_mayWrite_29 : uD 1 cX8_mayWrite 29 (.aload_n 0) 30 := ⟨by decide +kernel, rfl⟩
theorem dX8_mayWrite_30 : uD 1 cX8_mayWrite 30 (.aload_n 0) 31 := ⟨by decide +kernel, rfl⟩
theorem dX8_mayWrite_31 : uD 3 cX8_mayWrite 31 (.getfield 7) 34 := ⟨by decide +kernel, rfl⟩
theorem dX8_mayWrite_34 : uD 2 cX8_mayWrite 34 (.bipush 27) 36 := ⟨by decide +kernel, rfl⟩
theorem dX8_mayWrite_36 : uD 1 cX8_mayWrite 36 (.iaload) 37 := ⟨by decide +kernel, rfl⟩
theorem dX8_mayWrite_37 : uD 1 cX8_mayWrite 37 (.iconst 1) 38 := ⟨by decide +kernel, rfl⟩
theorem dX8_mayWrite_38 : uJ cX8_mayWrite 38 (fun o => .if_icmp .ne o) 53 41 := ⟨15, by decide +kernel, by decide, rfl⟩
theorem dX8_mayWrite_41 : uD 1 cX8_mayWrite 41 (.aload_n 0) 42 := ⟨by decide +kernel, rfl⟩
theorem dX8_mayWrite_42 : uD 1 cX8_mayWrite 42 (.iload_n 1) 43 := ⟨by decide +kernel, rfl⟩
theorem dX8_mayWrite_43 : uD 3 cX8_mayWrite 43 (.invokevirtual 169) 46 := ⟨by decide +kernel, rfl⟩
theorem dX8_mayWrite_46 : uJ cX8_mayWrite 46 (fun o => .ifCond .ne o) 53 49 := ⟨7, by decide +kernel, by decide, rfl⟩
theorem dX8_mayWrite_49 : uD 1 cX8_mayWrite 49 (.iconst 1) 50 := ⟨by decide +kernel, rfl⟩
theorem dX8_mayWrite_50 : uJ cX8_mayWrite 50 (fun o => .goto o) 54 53 := ⟨4, by decide +kernel, by decide, rfl⟩
theorem dX8_mayWrite_53 : uD 1 cX8_mayWrite 53 (.iconst 0) 54 := ⟨by decide +kernel, rfl⟩
theorem dX8_mayWrite_54 : uD 1 cX8_mayWrite 54 (.iconst 3) 55 := ⟨by decide +kernel, rfl⟩
theorem dX8_mayWrite_55 : uD 3 cX8_mayWrite 55 (.invokevirtual 55) 58 := ⟨by decide +kernel, rfl⟩
theorem dX8_mayWrite_58 : uJ cX8_mayWrite 58 (fun o => .ifCond .eq o) 65 61 := ⟨7, by decide +kernel, by decide, rfl⟩
theorem dX8_mayWrite_61 : uD 1 cX8_mayWrite 61 (.iconst 1) 62 := ⟨by decide +kernel, rfl⟩
theorem dX8_mayWrite_62 : uJ cX8_mayWrite 62 (fun o => .goto o) 66 65 := ⟨4, by decide +kernel, by decide, rfl⟩
theorem dX8_mayWrite_65 : uD 1 cX8_mayWrite 65 (.iconst 0) 66 := ⟨by decide +kernel, rfl⟩
theorem dX8_mayWrite_66 : uD 1 cX8_mayWrite 66 (.ireturn) 67 := ⟨by decide +kernel, rfl⟩
theorem dX8_write_0 : uD 1 cX8_write 0 (.aload_n 0) 1 := ⟨by decide +kernel, rfl⟩
theorem dX8_write_1 : uD 1 cX8_write 1 (.iconst 0) 2 := ⟨by decide +kernel, rfl⟩
theorem dX8_write_2 : uD 3 cX8_write 2 (.putfield 49) 5 := ⟨by decide +kernel, rfl⟩
theorem dX8_write_5 : uD 1 cX8_write 5 (.aload_n 0) 6 := ⟨by decide +kernel, rfl⟩
theorem dX8_write_6 : uD 1 cX8_write 6 (.iload_n 1) 7 := ⟨by decide +kernel, rfl⟩
theorem dX8_write_7 : uD 1 cX8_write 7 (.iload_n 2) 8 := ⟨by decide +kernel, rfl⟩
theorem dX8_write_8 : uD 1 cX8_write 8 (.iload_n 3) 9 := ⟨by decide +kernel, rfl⟩
theorem dX8_write_9 : uD 3 cX8_write 9 (.invokevirtual 206) 12 := ⟨by decide +kernel, rfl⟩
theorem dX8_write_12 : uJ cX8_write 12 (fun o => .ifCond .ne o) 17 15 := ⟨5, by decide +kernel, by decide, rfl⟩
theorem dX8_write_15 : uD 1 cX8_write 15 (.iconst 0) 16 := ⟨by decide +kernel, rfl⟩
theorem dX8_write_16 : uD 1 cX8_write 16 (.ireturn) 17 := ⟨by decide +kernel, rfl⟩
theorem dX8_write_17 : uD 1 cX8_write 17 (.aload_n 0) 18 := ⟨by decide +kernel, rfl⟩
theorem dX8_write_18 : uD 1 cX8_write 18 (.iload_n 1) 19 := ⟨by decide +kernel, rfl⟩
theorem dX8_write_19 : uD 1 cX8_write 19 (.iload_n 2) 20 := ⟨by decide +kernel, rfl⟩
theorem dX8_write_20 : uD 1 cX8_write 20 (.iload_n 3) 21 := ⟨by decide +kernel, rfl⟩
theorem dX8_write_21 : uD 3 cX8_write 21 (.invokevirtual 209) 24 := ⟨by decide +kernel, rfl⟩
theorem dX8_write_24 : uD 2 cX8_write 24 (.istore 4) 26 := ⟨by decide +kernel, rfl⟩
theorem dX8_write_26 : uD 1 cX8_write 26 (.aload_n 0) 27 := ⟨by decide +kernel, rfl⟩
theorem dX8_write_27 : uD 1 cX8_write 27 (.iload_n 1) 28 := ⟨by decide +kernel, rfl⟩
theorem dX8_write_28 : uD 1 cX8_write 28 (.iload_n 2) 29 := ⟨by decide +kernel, rfl⟩
theorem dX8_write_29 : uD 3 cX8_write 29 (.invokevirtual 196) 32 := ⟨by decide +kernel, rfl⟩
theorem dX8_write_32 : uD 2 cX8_write 32 (.istore 5) 34 := ⟨by decide +kernel, rfl⟩
theorem dX8_write_34 : uD 2 cX8_write 34 (.iload 4) 36 := ⟨by decide +kernel, rfl⟩
theorem dX8_write_36 : uJ cX8_write 36 (fun o => .ifCond .ne o) 51 39 := ⟨15, by decide +kernel, by decide, rfl⟩
theorem dX8_write_39 : uD 2 cX8_write 39 (.iload 5) 41 := ⟨by decide +kernel, rfl⟩
theorem dX8_write_41 : uD 1 cX8_write 41 (.iconst (-1)) 42 := ⟨by decide +kernel, rfl⟩
theorem dX8_write_42 : uJ cX8_write 42 (fun o => .if_icmp .eq o) 51 45 := ⟨9, by decide +kernel, by decide, rfl⟩
theorem dX8_write_45 : uD 1 cX8_write 45 (.aload_n 0) 46 := ⟨by decide +kernel, rfl⟩
theorem dX8_write_46 : uD 2 cX8_write 46 (.iload 5) 48 := ⟨by decide +kernel, rfl⟩
theorem dX8_write_48 : uD 3 cX8_write 48 (.invokevirtual 163) 51 := ⟨by decide +kernel, rfl⟩
theorem dX8_write_51 : uD 1 cX8_write 51 (.aload_n 0) 52 := ⟨by decide +kernel, rfl⟩
theorem dX8_write_52 : uD 3 cX8_write 52 (.getfield 7) 55 := ⟨by decide +kernel, rfl⟩
theorem dX8_write_55 : uD 2 cX8_write 55 (.bipush 29) 57 := ⟨by decide +kernel, rfl⟩
theorem dX8_write_57 : uD 2 cX8_write 57 (.iload 4) 59 := ⟨by decide +kernel, rfl⟩
theorem dX8_write_59 : uJ cX8_write 59 (fun o => .ifCond .eq o) 66 62 := ⟨7, by decide +kernel, by decide, rfl⟩
theorem dX8_write_62 : uD 1 cX8_write 62 (.iconst 0) 63 := ⟨by decide +kernel, rfl⟩
theorem dX8_write_63 : uJ cX8_write 63 (fun o => .goto o) 67 66 := ⟨4, by decide +kernel, by decide, rfl⟩
theorem dX8_write_66 : uD 1 cX8_write 66 (.iconst 1) 67 := ⟨by decide +kernel, rfl⟩
theorem dX8_write_67 : uD 1 cX8_write 67 (.iadd) 68 := ⟨by decide +kernel, rfl⟩
theorem dX8_write_68 : uD 1 cX8_write 68 (.dup2) 69 := ⟨by decide +kernel, rfl⟩
theorem dX8_write_69 : uD 1 cX8_write 69 (.iaload) 70 := ⟨by decide +kernel, rfl⟩
theorem dX8_write_70 : uD 1 cX8_write 70 (.iconst 1) 71 := ⟨by decide +kernel, rfl⟩
theorem dX8_write_71 : uD 1 cX8_write 71 (.iadd) 72 := ⟨by decide +kernel, rfl⟩
theorem dX8_write_72 : uD 1 cX8_write 72 (.iastore) 73 := ⟨by decide +kernel, rfl⟩
theorem dX8_write_73 : uD 2 cX8_write 73 (.iload 4) 75 := ⟨by decide +kernel, rfl⟩
theorem dX8_write_75 : uD 1 cX8_write 75 (.ireturn) 76 := ⟨by decide +kernel, rfl⟩
theorem dX8_wouldCache_0 : uD 1 cX8_wouldCache 0 (.aload_n 0) 1 := ⟨by decide +kernel, rfl⟩
theorem dX8_wouldCache_1 : uD 1 cX8_wouldCache 1 (.iconst 0) 2 := ⟨by decide +kernel, rfl⟩
theorem dX8_wouldCache_2 : uD 3 cX8_wouldCache 2 (.putfield 49) 5 := ⟨by decide +kernel, rfl⟩
theorem dX8_wouldCache_5 : uD 1 cX8_wouldCache 5 (.aload_n 0) 6 := ⟨by decide +kernel, rfl⟩
theorem dX8_wouldCache_6 : uD 1 cX8_wouldCache 6 (.iload_n 1) 7 := ⟨by decide +kernel, rfl⟩
theorem dX8_wouldCache_7 : uD 1 cX8_wouldCache 7 (.iload_n 2) 8 := ⟨by decide +kernel, rfl⟩
theorem dX8_wouldCache_8 : uD 1 cX8_wouldCache 8 (.iload_n 3) 9 := ⟨by decide +kernel, rfl⟩
theorem dX8_wouldCache_9 : uD 3 cX8_wouldCache 9 (.invokevirtual 206) 12 := ⟨by decide +kernel, rfl⟩
theorem dX8_wouldCache_12 : uJ cX8_wouldCache 12 (fun o => .ifCond .ne o) 17 15 := ⟨5, by decide +kernel, by decide, rfl⟩
theorem dX8_wouldCache_15 : uD 1 cX8_wouldCache 15 (.iconst 0) 16 := ⟨by decide +kernel, rfl⟩
theorem dX8_wouldCache_16 : uD 1 cX8_wouldCache 16 (.ireturn) 17 := ⟨by decide +kernel, rfl⟩
theorem dX8_wouldCache_17 : uD 1 cX8_wouldCache 17 (.iconst 0) 18 := ⟨by decide +kernel, rfl⟩
theorem dX8_wouldCache_18 : uD 2 cX8_wouldCache 18 (.istore 4) 20 := ⟨by decide +kernel, rfl⟩
theorem dX8_wouldCache_20 : uD 2 cX8_wouldCache 20 (.iload 4) 22 := ⟨by decide +kernel, rfl⟩
theorem dX8_wouldCache_22 : uD 2 cX8_wouldCache 22 (.bipush 109) 24 := ⟨by decide +kernel, rfl⟩
theorem dX8_wouldCache_24 : uJ cX8_wouldCache 24 (fun o => .if_icmp .ge o) 47 27 := ⟨23, by decide +kernel, by decide, rfl⟩
theorem dX8_wouldCache_27 : uD 1 cX8_wouldCache 27 (.aload_n 0) 28 := ⟨by decide +kernel, rfl⟩
theorem dX8_wouldCache_28 : uD 3 cX8_wouldCache 28 (.getfield 19) 31 := ⟨by decide +kernel, rfl⟩
theorem dX8_wouldCache_31 : uD 2 cX8_wouldCache 31 (.iload 4) 33 := ⟨by decide +kernel, rfl⟩
theorem dX8_wouldCache_33 : uD 1 cX8_wouldCache 33 (.aload_n 0) 34 := ⟨by decide +kernel, rfl⟩
theorem dX8_wouldCache_34 : uD 3 cX8_wouldCache 34 (.getfield 7) 37 := ⟨by decide +kernel, rfl⟩
theorem dX8_wouldCache_37 : uD 2 cX8_wouldCache 37 (.iload 4) 39 := ⟨by decide +kernel, rfl⟩
theorem dX8_wouldCache_39 : uD 1 cX8_wouldCache 39 (.iaload) 40 := ⟨by decide +kernel, rfl⟩
theorem dX8_wouldCache_40 : uD 1 cX8_wouldCache 40 (.iastore) 41 := ⟨by decide +kernel, rfl⟩
theorem dX8_wouldCache_41 : uD 3 cX8_wouldCache 41 (.iinc 4 1) 44 := ⟨by decide +kernel, rfl⟩
theorem dX8_wouldCache_44 : uJ cX8_wouldCache 44 (fun o => .goto o) 20 47 := ⟨(-24), by decide +kernel, by decide, rfl⟩
theorem dX8_wouldCache_47 : uD 1 cX8_wouldCache 47 (.aload_n 0) 48 := ⟨by decide +kernel, rfl⟩
theorem dX8_wouldCache_48 : uD 1 cX8_wouldCache 48 (.iload_n 1) 49 := ⟨by decide +kernel, rfl⟩
theorem dX8_wouldCache_49 : uD 1 cX8_wouldCache 49 (.iload_n 2) 50 := ⟨by decide +kernel, rfl⟩
theorem dX8_wouldCache_50 : uD 1 cX8_wouldCache 50 (.iload_n 3) 51 := ⟨by decide +kernel, rfl⟩
theorem dX8_wouldCache_51 : uD 3 cX8_wouldCache 51 (.invokevirtual 209) 54 := ⟨by decide +kernel, rfl⟩
theorem dX8_wouldCache_54 : uD 2 cX8_wouldCache 54 (.istore 4) 56 := ⟨by decide +kernel, rfl⟩
theorem dX8_wouldCache_56 : uD 1 cX8_wouldCache 56 (.iconst 0) 57 := ⟨by decide +kernel, rfl⟩
theorem dX8_wouldCache_57 : uD 2 cX8_wouldCache 57 (.istore 5) 59 := ⟨by decide +kernel, rfl⟩
theorem dX8_wouldCache_59 : uD 2 cX8_wouldCache 59 (.iload 5) 61 := ⟨by decide +kernel, rfl⟩
theorem dX8_wouldCache_61 : uD 2 cX8_wouldCache 61 (.bipush 109) 63 := ⟨by decide +kernel, rfl⟩
theorem dX8_wouldCache_63 : uJ cX8_wouldCache 63 (fun o => .if_icmp .ge o) 86 66 := ⟨23, by decide +kernel, by decide, rfl⟩
theorem dX8_wouldCache_66 : uD 1 cX8_wouldCache 66 (.aload_n 0) 67 := ⟨by decide +kernel, rfl⟩
theorem dX8_wouldCache_67 : uD 3 cX8_wouldCache 67 (.getfield 7) 70 := ⟨by decide +kernel, rfl⟩
theorem dX8_wouldCache_70 : uD 2 cX8_wouldCache 70 (.iload 5) 72 := ⟨by decide +kernel, rfl⟩
theorem dX8_wouldCache_72 : uD 1 cX8_wouldCache 72 (.aload_n 0) 73 := ⟨by decide +kernel, rfl⟩
theorem dX8_wouldCache_73 : uD 3 cX8_wouldCache 73 (.getfield 19) 76 := ⟨by decide +kernel, rfl⟩
theorem dX8_wouldCache_76 : uD 2 cX8_wouldCache 76 (.iload 5) 78 := ⟨by decide +kernel, rfl⟩
theorem dX8_wouldCache_78 : uD 1 cX8_wouldCache 78 (.iaload) 79 := ⟨by decide +kernel, rfl⟩
theorem dX8_wouldCache_79 : uD 1 cX8_wouldCache 79 (.iastore) 80 := ⟨by decide +kernel, rfl⟩
theorem dX8_wouldCache_80 : uD 3 cX8_wouldCache 80 (.iinc 5 1) 83 := ⟨by decide +kernel, rfl⟩
theorem dX8_wouldCache_83 : uJ cX8_wouldCache 83 (fun o => .goto o) 59 86 := ⟨(-24), by decide +kernel, by decide, rfl⟩
theorem dX8_wouldCache_86 : uD 2 cX8_wouldCache 86 (.iload 4) 88 := ⟨by decide +kernel, rfl⟩
theorem dX8_wouldCache_88 : uD 1 cX8_wouldCache 88 (.ireturn) 89 := ⟨by decide +kernel, rfl⟩
theorem dX8_clean_0 : uD 1 cX8_clean 0 (.aload_n 0) 1 := ⟨by decide +kernel, rfl⟩
theorem dX8_clean_1 : uD 1 cX8_clean 1 (.iconst 0) 2 := ⟨by decide +kernel, rfl⟩
theorem dX8_clean_2 : uD 3 cX8_clean 2 (.putfield 49) 5 := ⟨by decide +kernel, rfl⟩
theorem dX8_clean_5 : uD 1 cX8_clean 5 (.aload_n 0) 6 := ⟨by decide +kernel, rfl⟩
theorem dX8_clean_6 : uD 1 cX8_clean 6 (.aload_n 0) 7 := ⟨by decide +kernel, rfl⟩
theorem dX8_clean_7 : uD 1 cX8_clean 7 (.iload_n 1) 8 := ⟨by decide +kernel, rfl⟩
theorem dX8_clean_8 : uD 3 cX8_clean 8 (.invokevirtual 178) 11 := ⟨by decide +kernel, rfl⟩
theorem dX8_clean_11 : uD 1 cX8_clean 11 (.iconst 1) 12 := ⟨by decide +kernel, rfl⟩
theorem dX8_clean_12 : uD 3 cX8_clean 12 (.invokevirtual 55) 15 := ⟨by decide +kernel, rfl⟩
theorem dX8_clean_15 : uJ cX8_clean 15 (fun o => .ifCond .eq o) 50 18 := ⟨35, by decide +kernel, by decide, rfl⟩
theorem dX8_clean_18 : uD 1 cX8_clean 18 (.aload_n 0) 19 := ⟨by decide +kernel, rfl⟩
theorem dX8_clean_19 : uD 1 cX8_clean 19 (.aload_n 0) 20 := ⟨by decide +kernel, rfl⟩
theorem dX8_clean_20 : uD 3 cX8_clean 20 (.getfield 7) 23 := ⟨by decide +kernel, rfl⟩
theorem dX8_clean_23 : uD 2 cX8_clean 23 (.bipush 27) 25 := ⟨by decide +kernel, rfl⟩
theorem dX8_clean_25 : uD 1 cX8_clean 25 (.iaload) 26 := ⟨by decide +kernel, rfl⟩
theorem dX8_clean_26 : uD 1 cX8_clean 26 (.iconst 1) 27 := ⟨by decide +kernel, rfl⟩
theorem dX8_clean_27 : uJ cX8_clean 27 (fun o => .if_icmp .ne o) 42 30 := ⟨15, by decide +kernel, by decide, rfl⟩
theorem dX8_clean_30 : uD 1 cX8_clean 30 (.aload_n 0) 31 := ⟨by decide +kernel, rfl⟩
theorem dX8_clean_31 : uD 1 cX8_clean 31 (.iload_n 1) 32 := ⟨by decide +kernel, rfl⟩
theorem dX8_clean_32 : uD 3 cX8_clean 32 (.invokevirtual 169) 35 := ⟨by decide +kernel, rfl⟩
theorem dX8_clean_35 : uJ cX8_clean 35 (fun o => .ifCond .ne o) 42 38 := ⟨7, by decide +kernel, by decide, rfl⟩
theorem dX8_clean_38 : uD 1 cX8_clean 38 (.iconst 1) 39 := ⟨by decide +kernel, rfl⟩
theorem dX8_clean_39 : uJ cX8_clean 39 (fun o => .goto o) 43 42 := ⟨4, by decide +kernel, by decide, rfl⟩
theorem dX8_clean_42 : uD 1 cX8_clean 42 (.iconst 0) 43 := ⟨by decide +kernel, rfl⟩
theorem dX8_clean_43 : uD 1 cX8_clean 43 (.iconst 2) 44 := ⟨by decide +kernel, rfl⟩
theorem dX8_clean_44 : uD 3 cX8_clean 44 (.invokevirtual 55) 47 := ⟨by decide +kernel, rfl⟩
theorem dX8_clean_47 : uJ cX8_clean 47 (fun o => .ifCond .ne o) 52 50 := ⟨5, by decide +kernel, by decide, rfl⟩
theorem dX8_clean_50 : uD 1 cX8_clean 50 (.iconst 0) 51 := ⟨by decide +kernel, rfl⟩
theorem dX8_clean_51 : uD 1 cX8_clean 51 (.ireturn) 52 := ⟨by decide +kernel, rfl⟩
theorem dX8_clean_52 : uD 1 cX8_clean 52 (.aload_n 0) 53 := ⟨by decide +kernel, rfl⟩
theorem dX8_clean_53 : uD 1 cX8_clean 53 (.iload_n 1) 54 := ⟨by decide +kernel, rfl⟩
theorem dX8_clean_54 : uD 3 cX8_clean 54 (.invokevirtual 181) 57 := ⟨by decide +kernel, rfl⟩
theorem dX8_clean_57 : uD 1 cX8_clean 57 (.istore_n 2) 58 := ⟨by decide +kernel, rfl⟩
theorem dX8_clean_58 : uD 1 cX8_clean 58 (.aload_n 0) 59 := ⟨by decide +kernel, rfl⟩
theorem dX8_clean_59 : uD 1 cX8_clean 59 (.iload_n 2) 60 := ⟨by decide +kernel, rfl⟩
theorem dX8_clean_60 : uD 3 cX8_clean 60 (.invokevirtual 212) 63 := ⟨by decide +kernel, rfl⟩
theorem dX8_clean_63 : uD 1 cX8_clean 63 (.aload_n 0) 64 := ⟨by decide +kernel, rfl⟩
theorem dX8_clean_64 : uD 3 cX8_clean 64 (.getfield 7) 67 := ⟨by decide +kernel, rfl⟩
theorem dX8_clean_67 : uD 2 cX8_clean 67 (.bipush 35) 69 := ⟨by decide +kernel, rfl⟩
theorem dX8_clean_69 : uD 1 cX8_clean 69 (.dup2) 70 := ⟨by decide +kernel, rfl⟩
theorem dX8_clean_70 : uD 1 cX8_clean 70 (.iaload) 71 := ⟨by decide +kernel, rfl⟩
theorem dX8_clean_71 : uD 1 cX8_clean 71 (.iload_n 2) 72 := ⟨by decide +kernel, rfl⟩
theorem dX8_clean_72 : uD 3 cX8_clean 72 (.invokestatic 184) 75 := ⟨by decide +kernel, rfl⟩
theorem dX8_clean_75 : uD 1 cX8_clean 75 (.iadd) 76 := ⟨by decide +kernel, rfl⟩
theorem dX8_clean_76 : uD 1 cX8_clean 76 (.iastore) 77 := ⟨by decide +kernel, rfl⟩
theorem dX8_clean_77 : uD 1 cX8_clean 77 (.iload_n 2) 78 := ⟨by decide +kernel, rfl⟩
theorem dX8_clean_78 : uD 3 cX8_clean 78 (.invokestatic 184) 81 := ⟨by decide +kernel, rfl⟩
theorem dX8_clean_81 : uD 1 cX8_clean 81 (.ireturn) 82 := ⟨by decide +kernel, rfl⟩
theorem dX8_setFailed_0 : uD 1 cX8_setFailed 0 (.aload_n 0) 1 := ⟨by decide +kernel, rfl⟩
theorem dX8_setFailed_1 : uD 1 cX8_setFailed 1 (.iconst 0) 2 := ⟨by decide +kernel, rfl⟩
theorem dX8_setFailed_2 : uD 3 cX8_setFailed 2 (.putfield 49) 5 := ⟨by decide +kernel, rfl⟩
theorem dX8_setFailed_5 : uD 1 cX8_setFailed 5 (.aload_n 0) 6 := ⟨by decide +kernel, rfl⟩
theorem dX8_setFailed_6 : uD 1 cX8_setFailed 6 (.aload_n 0) 7 := ⟨by decide +kernel, rfl⟩
theorem dX8_setFailed_7 : uD 1 cX8_setFailed 7 (.iload_n 1) 8 := ⟨by decide +kernel, rfl⟩
theorem dX8_setFailed_8 : uD 3 cX8_setFailed 8 (.invokevirtual 178) 11 := ⟨by decide +kernel, rfl⟩
theorem dX8_setFailed_11 : uD 1 cX8_setFailed 11 (.iconst 1) 12 := ⟨by decide +kernel, rfl⟩
theorem dX8_setFailed_12 : uD 3 cX8_setFailed 12 (.invokevirtual 55) 15 := ⟨by decide +kernel, rfl⟩
theorem dX8_setFailed_15 : uJ cX8_setFailed 15 (fun o => .ifCond .ne o) 20 18 := ⟨5, by decide +kernel, by decide, rfl⟩
theorem dX8_setFailed_18 : uD 1 cX8_setFailed 18 (.iconst 0) 19 := ⟨by decide +kernel, rfl⟩
theorem dX8_setFailed_19 : uD 1 cX8_setFailed 19 (.ireturn) 20 := ⟨by decide +kernel, rfl⟩
theorem dX8_setFailed_20 : uD 1 cX8_setFailed 20 (.aload_n 0) 21 := ⟨by decide +kernel, rfl⟩
theorem dX8_setFailed_21 : uD 1 cX8_setFailed 21 (.iload_n 1) 22 := ⟨by decide +kernel, rfl⟩
theorem dX8_setFailed_22 : uD 3 cX8_setFailed 22 (.invokevirtual 169) 25 := ⟨by decide +kernel, rfl⟩
theorem dX8_setFailed_25 : uD 1 cX8_setFailed 25 (.istore_n 3) 26 := ⟨by decide +kernel, rfl⟩
theorem dX8_setFailed_26 : uD 1 cX8_setFailed 26 (.aload_n 0) 27 := ⟨by decide +kernel, rfl⟩
theorem dX8_setFailed_27 : uD 3 cX8_setFailed 27 (.getfield 7) 30 := ⟨by decide +kernel, rfl⟩
theorem dX8_setFailed_30 : uD 2 cX8_setFailed 30 (.bipush 25) 32 := ⟨by decide +kernel, rfl⟩
theorem dX8_setFailed_32 : uD 1 cX8_setFailed 32 (.iload_n 2) 33 := ⟨by decide +kernel, rfl⟩
theorem dX8_setFailed_33 : uJ cX8_setFailed 33 (fun o => .ifCond .eq o) 50 36 := ⟨17, by decide +kernel, by decide, rfl⟩
theorem dX8_setFailed_36 : uD 1 cX8_setFailed 36 (.aload_n 0) 37 := ⟨by decide +kernel, rfl⟩
theorem dX8_setFailed_37 : uD 3 cX8_setFailed 37 (.getfield 7) 40 := ⟨by decide +kernel, rfl⟩
theorem dX8_setFailed_40 : uD 2 cX8_setFailed 40 (.bipush 25) 42 := ⟨by decide +kernel, rfl⟩
theorem dX8_setFailed_42 : uD 1 cX8_setFailed 42 (.iaload) 43 := ⟨by decide +kernel, rfl⟩
theorem dX8_setFailed_43 : uD 1 cX8_setFailed 43 (.iconst 1) 44 := ⟨by decide +kernel, rfl⟩
theorem dX8_setFailed_44 : uD 1 cX8_setFailed 44 (.iload_n 1) 45 := ⟨by decide +kernel, rfl⟩
theorem dX8_setFailed_45 : uD 1 cX8_setFailed 45 (.ishl) 46 := ⟨by decide +kernel, rfl⟩
theorem dX8_setFailed_46 : uD 1 cX8_setFailed 46 (.ior) 47 := ⟨by decide +kernel, rfl⟩
theorem dX8_setFailed_47 : uJ cX8_setFailed 47 (fun o => .goto o) 63 50 := ⟨16, by decide +kernel, by decide, rfl⟩
theorem dX8_setFailed_50 : uD 1 cX8_setFailed 50 (.aload_n 0) 51 := ⟨by decide +kernel, rfl⟩
theorem dX8_setFailed_51 : uD 3 cX8_setFailed 51 (.getfield 7) 54 := ⟨by decide +kernel, rfl⟩
theorem dX8_setFailed_54 : uD 2 cX8_setFailed 54 (.bipush 25) 56 := ⟨by decide +kernel, rfl⟩
theorem dX8_setFailed_56 : uD 1 cX8_setFailed 56 (.iaload) 57 := ⟨by decide +kernel, rfl⟩
theorem dX8_setFailed_57 : uD 1 cX8_setFailed 57 (.iconst 1) 58 := ⟨by decide +kernel, rfl⟩
theorem dX8_setFailed_58 : uD 1 cX8_setFailed 58 (.iload_n 1) 59 := ⟨by decide +kernel, rfl⟩
theorem dX8_setFailed_59 : uD 1 cX8_setFailed 59 (.ishl) 60 := ⟨by decide +kernel, rfl⟩
theorem dX8_setFailed_60 : uD 1 cX8_setFailed 60 (.iconst (-1)) 61 := ⟨by decide +kernel, rfl⟩
theorem dX8_setFailed_61 : uD 1 cX8_setFailed 61 (.ixor) 62 := ⟨by decide +kernel, rfl⟩
theorem dX8_setFailed_62 : uD 1 cX8_setFailed 62 (.iand) 63 := ⟨by decide +kernel, rfl⟩
theorem dX8_setFailed_63 : uD 1 cX8_setFailed 63 (.iastore) 64 := ⟨by decide +kernel, rfl⟩
theorem dX8_setFailed_64 : uD 1 cX8_setFailed 64 (.iload_n 3) 65 := ⟨by decide +kernel, rfl⟩
theorem dX8_setFailed_65 : uD 1 cX8_setFailed 65 (.ireturn) 66 := ⟨by decide +kernel, rfl⟩
theorem dX8_setMode_0 : uD 1 cX8_setMode 0 (.aload_n 0) 1 := ⟨by decide +kernel, rfl⟩
theorem dX8_setMode_1 : uD 1 cX8_setMode 1 (.iconst 0) 2 := ⟨by decide +kernel, rfl⟩
theorem dX8_setMode_2 : uD 3 cX8_setMode 2 (.putfield 49) 5 := ⟨by decide +kernel, rfl⟩
theorem dX8_setMode_5 : uD 1 cX8_setMode 5 (.iload_n 1) 6 := ⟨by decide +kernel, rfl⟩
theorem dX8_setMode_6 : uD 1 cX8_setMode 6 (.iconst 0) 7 := ⟨by decide +kernel, rfl⟩
theorem dX8_setMode_7 : uD 1 cX8_setMode 7 (.iconst 2) 8 := ⟨by decide +kernel, rfl⟩
theorem dX8_setMode_8 : uD 3 cX8_setMode 8 (.invokestatic 59) 11 := ⟨by decide +kernel, rfl⟩
theorem dX8_setMode_11 : uJ cX8_setMode 11 (fun o => .ifCond .eq o) 40 14 := ⟨29, by decide +kernel, by decide, rfl⟩
theorem dX8_setMode_14 : uD 1 cX8_setMode 14 (.iload_n 1) 15 := ⟨by decide +kernel, rfl⟩
theorem dX8_setMode_15 : uD 1 cX8_setMode 15 (.iconst 1) 16 := ⟨by decide +kernel, rfl⟩
theorem dX8_setMode_16 : uJ cX8_setMode 16 (fun o => .if_icmp .ne o) 32 19 := ⟨16, by decide +kernel, by decide, rfl⟩
theorem dX8_setMode_19 : uD 1 cX8_setMode 19 (.iload_n 2) 20 := ⟨by decide +kernel, rfl⟩
theorem dX8_setMode_20 : uD 1 cX8_setMode 20 (.iconst 1) 21 := ⟨by decide +kernel, rfl⟩
theorem dX8_setMode_21 : uD 2 cX8_setMode 21 (.bipush 99) 23 := ⟨by decide +kernel, rfl⟩
theorem dX8_setMode_23 : uD 3 cX8_setMode 23 (.invokestatic 59) 26 := ⟨by decide +kernel, rfl⟩
theorem dX8_setMode_26 : uJ cX8_setMode 26 (fun o => .ifCond .eq o) 40 29 := ⟨14, by decide +kernel, by decide, rfl⟩
theorem dX8_setMode_29 : uJ cX8_setMode 29 (fun o => .goto o) 36 32 := ⟨7, by decide +kernel, by decide, rfl⟩
theorem dX8_setMode_32 : uD 1 cX8_setMode 32 (.iload_n 2) 33 := ⟨by decide +kernel, rfl⟩
theorem dX8_setMode_33 : uJ cX8_setMode 33 (fun o => .ifCond .ne o) 40 36 := ⟨7, by decide +kernel, by decide, rfl⟩
theorem dX8_setMode_36 : uD 1 cX8_setMode 36 (.iconst 1) 37 := ⟨by decide +kernel, rfl⟩
theorem dX8_setMode_37 : uJ cX8_setMode 37 (fun o => .goto o) 41 40 := ⟨4, by decide +kernel, by decide, rfl⟩
theorem dX8_setMode_40 : uD 1 cX8_setMode 40 (.iconst 0) 41 := ⟨by decide +kernel, rfl⟩
theorem dX8_setMode_41 : uD 1 cX8_setMode 41 (.istore_n 3) 42 := ⟨by decide +kernel, rfl⟩
theorem dX8_setMode_42 : uD 1 cX8_setMode 42 (.aload_n 0) 43 := ⟨by decide +kernel, rfl⟩
theorem dX8_setMode_43 : uD 1 cX8_setMode 43 (.iload_n 3) 44 := ⟨by decide +kernel, rfl⟩
theorem dX8_setMode_44 : uD 1 cX8_setMode 44 (.iconst 1) 45 := ⟨by decide +kernel, rfl⟩
theorem dX8_setMode_45 : uD 3 cX8_setMode 45 (.invokevirtual 55) 48 := ⟨by decide +kernel, rfl⟩
theorem dX8_setMode_48 : uJ cX8_setMode 48 (fun o => .ifCond .ne o) 53 51 := ⟨5, by decide +kernel, by decide, rfl⟩
theorem dX8_setMode_51 : uD 1 cX8_setMode 51 (.iconst 0) 52 := ⟨by decide +kernel, rfl⟩
theorem dX8_setMode_52 : uD 1 cX8_setMode 52 (.ireturn) 53 := ⟨by decide +kernel, rfl⟩
theorem dX8_setMode_53 : uD 1 cX8_setMode 53 (.aload_n 0) 54 := ⟨by decide +kernel, rfl⟩
theorem dX8_setMode_54 : uD 3 cX8_setMode 54 (.getfield 7) 57 := ⟨by decide +kernel, rfl⟩
theorem dX8_setMode_57 : uD 2 cX8_setMode 57 (.bipush 7) 59 := ⟨by decide +kernel, rfl⟩
theorem dX8_setMode_59 : uD 1 cX8_setMode 59 (.iaload) 60 := ⟨by decide +kernel, rfl⟩
theorem dX8_setMode_60 : uD 2 cX8_setMode 60 (.istore 4) 62 := ⟨by decide +kernel, rfl⟩
theorem dX8_setMode_62 : uD 1 cX8_setMode 62 (.aload_n 0) 63 := ⟨by decide +kernel, rfl⟩
theorem dX8_setMode_63 : uD 3 cX8_setMode 63 (.getfield 7) 66 := ⟨by decide +kernel, rfl⟩
theorem dX8_setMode_66 : uD 2 cX8_setMode 66 (.bipush 7) 68 := ⟨by decide +kernel, rfl⟩
theorem dX8_setMode_68 : uD 1 cX8_setMode 68 (.iload_n 1) 69 := ⟨by decide +kernel, rfl⟩
theorem dX8_setMode_69 : uD 1 cX8_setMode 69 (.iastore) 70 := ⟨by decide +kernel, rfl⟩
theorem dX8_setMode_70 : uD 1 cX8_setMode 70 (.aload_n 0) 71 := ⟨by decide +kernel, rfl⟩
theorem dX8_setMode_71 : uD 3 cX8_setMode 71 (.getfield 7) 74 := ⟨by decide +kernel, rfl⟩
theorem dX8_setMode_74 : uD 2 cX8_setMode 74 (.bipush 8) 76 := ⟨by decide +kernel, rfl⟩
theorem dX8_setMode_76 : uD 1 cX8_setMode 76 (.iload_n 2) 77 := ⟨by decide +kernel, rfl⟩
theorem dX8_setMode_77 : uD 1 cX8_setMode 77 (.iastore) 78 := ⟨by decide +kernel, rfl⟩
theorem dX8_setMode_78 : uD 2 cX8_setMode 78 (.iload 4) 80 := ⟨by decide +kernel, rfl⟩
theorem dX8_setMode_80 : uD 1 cX8_setMode 80 (.ireturn) 81 := ⟨by decide +kernel, rfl⟩
theorem dX8_setPower_0 : uD 1 cX8_setPower 0 (.aload_n 0) 1 := ⟨by decide +kernel, rfl⟩
theorem dX8_setPower_1 : uD 1 cX8_setPower 1 (.iconst 0) 2 := ⟨by decide +kernel, rfl⟩
theorem dX8_setPower_2 : uD 3 cX8_setPower 2 (.putfield 49) 5 := ⟨by decide +kernel, rfl⟩
theorem dX8_setPower_5 : uD 1 cX8_setPower 5 (.aload_n 0) 6 := ⟨by decide +kernel, rfl⟩
theorem dX8_setPower_6 : uD 3 cX8_setPower 6 (.getfield 7) 9 := ⟨by decide +kernel, rfl⟩
theorem dX8_setPower_9 : uD 2 cX8_setPower 9 (.bipush 27) 11 := ⟨by decide +kernel, rfl⟩
theorem dX8_setPower_11 : uD 1 cX8_setPower 11 (.iaload) 12 := ⟨by decide +kernel, rfl⟩
theorem dX8_setPower_12 : uD 1 cX8_setPower 12 (.iconst 1) 13 := ⟨by decide +kernel, rfl⟩
theorem dX8_setPower_13 : uJ cX8_setPower 13 (fun o => .if_icmp .ne o) 20 16 := ⟨7, by decide +kernel, by decide, rfl⟩
theorem dX8_setPower_16 : uD 1 cX8_setPower 16 (.iconst 1) 17 := ⟨by decide +kernel, rfl⟩
theorem dX8_setPower_17 : uJ cX8_setPower 17 (fun o => .goto o) 21 20 := ⟨4, by decide +kernel, by decide, rfl⟩
theorem dX8_setPower_20 : uD 1 cX8_setPower 20 (.iconst 0) 21 := ⟨by decide +kernel, rfl⟩
theorem dX8_setPower_21 : uD 1 cX8_setPower 21 (.istore_n 2) 22 := ⟨by decide +kernel, rfl⟩
theorem dX8_setPower_22 : uD 1 cX8_setPower 22 (.aload_n 0) 23 := ⟨by decide +kernel, rfl⟩
theorem dX8_setPower_23 : uD 3 cX8_setPower 23 (.getfield 7) 26 := ⟨by decide +kernel, rfl⟩
theorem dX8_setPower_26 : uD 2 cX8_setPower 26 (.bipush 27) 28 := ⟨by decide +kernel, rfl⟩
theorem dX8_setPower_28 : uD 1 cX8_setPower 28 (.iload_n 1) 29 := ⟨by decide +kernel, rfl⟩
theorem dX8_setPower_29 : uJ cX8_setPower 29 (fun o => .ifCond .eq o) 36 32 := ⟨7, by decide +kernel, by decide, rfl⟩
theorem dX8_setPower_32 : uD 1 cX8_setPower 32 (.iconst 1) 33 := ⟨by decide +kernel, rfl⟩
theorem dX8_setPower_33 : uJ cX8_setPower 33 (fun o => .goto o) 37 36 := ⟨4, by decide +kernel, by decide, rfl⟩
theorem dX8_setPower_36 : uD 1 cX8_setPower 36 (.iconst 0) 37 := ⟨by decide +kernel, rfl⟩
theorem dX8_setPower_37 : uD 1 cX8_setPower 37 (.iastore) 38 := ⟨by decide +kernel, rfl⟩
theorem dX8_setPower_38 : uD 1 cX8_setPower 38 (.iload_n 2) 39 := ⟨by decide +kernel, rfl⟩
theorem dX8_setPower_39 : uD 1 cX8_setPower 39 (.ireturn) 40 := ⟨by decide +kernel, rfl⟩
theorem dX8_drains_0 : uD 1 cX8_drains 0 (.aload_n 0) 1 := ⟨by decide +kernel, rfl⟩
theorem dX8_drains_1 : uD 3 cX8_drains 1 (.getfield 7) 4 := ⟨by decide +kernel, rfl⟩
theorem dX8_drains_4 : uD 2 cX8_drains 4 (.bipush 28) 6 := ⟨by decide +kernel, rfl⟩
theorem dX8_drains_6 : uD 1 cX8_drains 6 (.iaload) 7 := ⟨by decide +kernel, rfl⟩
theorem dX8_drains_7 : uD 1 cX8_drains 7 (.aload_n 0) 8 := ⟨by decide +kernel, rfl⟩
theorem dX8_drains_8 : uD 3 cX8_drains 8 (.getfield 7) 11 := ⟨by decide +kernel, rfl⟩
theorem dX8_drains_11 : uD 1 cX8_drains 11 (.iconst 4) 12 := ⟨by decide +kernel, rfl⟩
theorem dX8_drains_12 : uD 1 cX8_drains 12 (.iaload) 13 := ⟨by decide +kernel, rfl⟩
theorem dX8_drains_13 : uD 1 cX8_drains 13 (.idiv) 14 := ⟨by decide +kernel, rfl⟩
theorem dX8_drains_14 : uD 1 cX8_drains 14 (.istore_n 2) 15 := ⟨by decide +kernel, rfl⟩
theorem dX8_drains_15 : uD 1 cX8_drains 15 (.aload_n 0) 16 := ⟨by decide +kernel, rfl⟩
theorem dX8_drains_16 : uD 3 cX8_drains 16 (.getfield 7) 19 := ⟨by decide +kernel, rfl⟩
theorem dX8_drains_19 : uD 1 cX8_drains 19 (.iconst 1) 20 := ⟨by decide +kernel, rfl⟩
theorem dX8_drains_20 : uD 1 cX8_drains 20 (.dup2) 21 := ⟨by decide +kernel, rfl⟩
theorem dX8_drains_21 : uD 1 cX8_drains 21 (.iaload) 22 := ⟨by decide +kernel, rfl⟩
theorem dX8_drains_22 : uD 1 cX8_drains 22 (.iload_n 1) 23 := ⟨by decide +kernel, rfl⟩
theorem dX8_drains_23 : uD 1 cX8_drains 23 (.isub) 24 := ⟨by decide +kernel, rfl⟩
theorem dX8_drains_24 : uD 1 cX8_drains 24 (.iastore) 25 := ⟨by decide +kernel, rfl⟩
theorem dX8_drains_25 : uD 1 cX8_drains 25 (.aload_n 0) 26 := ⟨by decide +kernel, rfl⟩
theorem dX8_drains_26 : uD 3 cX8_drains 26 (.getfield 7) 29 := ⟨by decide +kernel, rfl⟩
theorem dX8_drains_29 : uD 2 cX8_drains 29 (.bipush 28) 31 := ⟨by decide +kernel, rfl⟩
theorem dX8_drains_31 : uD 1 cX8_drains 31 (.dup2) 32 := ⟨by decide +kernel, rfl⟩
theorem dX8_drains_32 : uD 1 cX8_drains 32 (.iaload) 33 := ⟨by decide +kernel, rfl⟩
theorem dX8_drains_33 : uD 1 cX8_drains 33 (.iload_n 1) 34 := ⟨by decide +kernel, rfl⟩
theorem dX8_drains_34 : uD 1 cX8_drains 34 (.iadd) 35 := ⟨by decide +kernel, rfl⟩
theorem dX8_drains_35 : uD 1 cX8_drains 35 (.iastore) 36 := ⟨by decide +kernel, rfl⟩
theorem dX8_drains_36 : uD 1 cX8_drains 36 (.aload_n 0) 37 := ⟨by decide +kernel, rfl⟩
theorem dX8_drains_37 : uD 3 cX8_drains 37 (.getfield 7) 40 := ⟨by decide +kernel, rfl⟩
theorem dX8_drains_40 : uD 1 cX8_drains 40 (.iconst 0) 41 := ⟨by decide +kernel, rfl⟩
theorem dX8_drains_41 : uD 1 cX8_drains 41 (.dup2) 42 := ⟨by decide +kernel, rfl⟩
theorem dX8_drains_42 : uD 1 cX8_drains 42 (.iaload) 43 := ⟨by decide +kernel, rfl⟩
theorem dX8_drains_43 : uD 1 cX8_drains 43 (.aload_n 0) 44 := ⟨by decide +kernel, rfl⟩
theorem dX8_drains_44 : uD 3 cX8_drains 44 (.getfield 7) 47 := ⟨by decide +kernel, rfl⟩
theorem dX8_drains_47 : uD 2 cX8_drains 47 (.bipush 28) 49 := ⟨by decide +kernel, rfl⟩
theorem dX8_drains_49 : uD 1 cX8_drains 49 (.iaload) 50 := ⟨by decide +kernel, rfl⟩
theorem dX8_drains_50 : uD 1 cX8_drains 50 (.aload_n 0) 51 := ⟨by decide +kernel, rfl⟩
theorem dX8_drains_51 : uD 3 cX8_drains 51 (.getfield 7) 54 := ⟨by decide +kernel, rfl⟩
theorem dX8_drains_54 : uD 1 cX8_drains 54 (.iconst 4) 55 := ⟨by decide +kernel, rfl⟩
theorem dX8_drains_55 : uD 1 cX8_drains 55 (.iaload) 56 := ⟨by decide +kernel, rfl⟩
theorem dX8_drains_56 : uD 1 cX8_drains 56 (.idiv) 57 := ⟨by decide +kernel, rfl⟩
theorem dX8_drains_57 : uD 1 cX8_drains 57 (.iload_n 2) 58 := ⟨by decide +kernel, rfl⟩
theorem dX8_drains_58 : uD 1 cX8_drains 58 (.isub) 59 := ⟨by decide +kernel, rfl⟩
theorem dX8_drains_59 : uD 1 cX8_drains 59 (.isub) 60 := ⟨by decide +kernel, rfl⟩
theorem dX8_drains_60 : uD 1 cX8_drains 60 (.iastore) 61 := ⟨by decide +kernel, rfl⟩
theorem dX8_drains_61 : uD 1 cX8_drains 61 (.aload_n 0) 62 := ⟨by decide +kernel, rfl⟩
theorem dX8_drains_62 : uD 3 cX8_drains 62 (.getfield 7) 65 := ⟨by decide +kernel, rfl⟩
theorem dX8_drains_65 : uD 1 cX8_drains 65 (.iconst 0) 66 := ⟨by decide +kernel, rfl⟩
theorem dX8_drains_66 : uD 1 cX8_drains 66 (.iaload) 67 := ⟨by decide +kernel, rfl⟩
theorem dX8_drains_67 : uD 1 cX8_drains 67 (.iconst 1) 68 := ⟨by decide +kernel, rfl⟩
theorem dX8_drains_68 : uJ cX8_drains 68 (fun o => .if_icmp .ge o) 78 71 := ⟨10, by decide +kernel, by decide, rfl⟩
theorem dX8_drains_71 : uD 1 cX8_drains 71 (.aload_n 0) 72 := ⟨by decide +kernel, rfl⟩
theorem dX8_drains_72 : uD 3 cX8_drains 72 (.getfield 7) 75 := ⟨by decide +kernel, rfl⟩
theorem dX8_drains_75 : uD 1 cX8_drains 75 (.iconst 0) 76 := ⟨by decide +kernel, rfl⟩
theorem dX8_drains_76 : uD 1 cX8_drains 76 (.iconst 1) 77 := ⟨by decide +kernel, rfl⟩
theorem dX8_drains_77 : uD 1 cX8_drains 77 (.iastore) 78 := ⟨by decide +kernel, rfl⟩
theorem dX8_drains_78 : uD 1 cX8_drains 78 (.aload_n 0) 79 := ⟨by decide +kernel, rfl⟩
theorem dX8_drains_79 : uD 3 cX8_drains 79 (.getfield 7) 82 := ⟨by decide +kernel, rfl⟩
theorem dX8_drains_82 : uD 1 cX8_drains 82 (.iconst 1) 83 := ⟨by decide +kernel, rfl⟩
theorem dX8_drains_83 : uD 1 cX8_drains 83 (.iaload) 84 := ⟨by decide +kernel, rfl⟩
theorem dX8_drains_84 : uD 1 cX8_drains 84 (.aload_n 0) 85 := ⟨by decide +kernel, rfl⟩
theorem dX8_drains_85 : uD 3 cX8_drains 85 (.getfield 7) 88 := ⟨by decide +kernel, rfl⟩
theorem dX8_drains_88 : uD 1 cX8_drains 88 (.iconst 0) 89 := ⟨by decide +kernel, rfl⟩
theorem dX8_drains_89 : uD 1 cX8_drains 89 (.iaload) 90 := ⟨by decide +kernel, rfl⟩
theorem dX8_drains_90 : uJ cX8_drains 90 (fun o => .if_icmp .le o) 105 93 := ⟨15, by decide +kernel, by decide, rfl⟩
theorem dX8_drains_93 : uD 1 cX8_drains 93 (.aload_n 0) 94 := ⟨by decide +kernel, rfl⟩
theorem dX8_drains_94 : uD 3 cX8_drains 94 (.getfield 7) 97 := ⟨by decide +kernel, rfl⟩
theorem dX8_drains_97 : uD 1 cX8_drains 97 (.iconst 1) 98 := ⟨by decide +kernel, rfl⟩
theorem dX8_drains_98 : uD 1 cX8_drains 98 (.aload_n 0) 99 := ⟨by decide +kernel, rfl⟩
theorem dX8_drains_99 : uD 3 cX8_drains 99 (.getfield 7) 102 := ⟨by decide +kernel, rfl⟩
theorem dX8_drains_102 : uD 1 cX8_drains 102 (.iconst 0) 103 := ⟨by decide +kernel, rfl⟩
theorem dX8_drains_103 : uD 1 cX8_drains 103 (.iaload) 104 := ⟨by decide +kernel, rfl⟩
theorem dX8_drains_104 : uD 1 cX8_drains 104 (.iastore) 105 := ⟨by decide +kernel, rfl⟩
theorem dX8_drains_105 : uD 1 cX8_drains 105 (.return_) 106 := ⟨by decide +kernel, rfl⟩
theorem dX8_minuteWithout_0 : uD 1 cX8_minuteWithout 0 (.aload_n 0) 1 := ⟨by decide +kernel, rfl⟩
theorem dX8_minuteWithout_1 : uD 1 cX8_minuteWithout 1 (.aload_n 0) 2 := ⟨by decide +kernel, rfl⟩
theorem dX8_minuteWithout_2 : uD 3 cX8_minuteWithout 2 (.getfield 7) 5 := ⟨by decide +kernel, rfl⟩
theorem dX8_minuteWithout_5 : uD 1 cX8_minuteWithout 5 (.iconst 3) 6 := ⟨by decide +kernel, rfl⟩
theorem dX8_minuteWithout_6 : uD 1 cX8_minuteWithout 6 (.iaload) 7 := ⟨by decide +kernel, rfl⟩
theorem dX8_minuteWithout_7 : uD 1 cX8_minuteWithout 7 (.aload_n 0) 8 := ⟨by decide +kernel, rfl⟩
theorem dX8_minuteWithout_8 : uD 3 cX8_minuteWithout 8 (.getfield 7) 11 := ⟨by decide +kernel, rfl⟩
theorem dX8_minuteWithout_11 : uD 1 cX8_minuteWithout 11 (.iconst 1) 12 := ⟨by decide +kernel, rfl⟩
theorem dX8_minuteWithout_12 : uD 1 cX8_minuteWithout 12 (.iaload) 13 := ⟨by decide +kernel, rfl⟩
theorem dX8_minuteWithout_13 : uJ cX8_minuteWithout 13 (fun o => .if_icmp .ge o) 25 16 := ⟨12, by decide +kernel, by decide, rfl⟩
theorem dX8_minuteWithout_16 : uD 1 cX8_minuteWithout 16 (.aload_n 0) 17 := ⟨by decide +kernel, rfl⟩
theorem dX8_minuteWithout_17 : uD 3 cX8_minuteWithout 17 (.getfield 7) 20 := ⟨by decide +kernel, rfl⟩
theorem dX8_minuteWithout_20 : uD 1 cX8_minuteWithout 20 (.iconst 3) 21 := ⟨by decide +kernel, rfl⟩
theorem dX8_minuteWithout_21 : uD 1 cX8_minuteWithout 21 (.iaload) 22 := ⟨by decide +kernel, rfl⟩
theorem dX8_minuteWithout_22 : uJ cX8_minuteWithout 22 (fun o => .goto o) 31 25 := ⟨9, by decide +kernel, by decide, rfl⟩
theorem dX8_minuteWithout_25 : uD 1 cX8_minuteWithout 25 (.aload_n 0) 26 := ⟨by decide +kernel, rfl⟩
theorem dX8_minuteWithout_26 : uD 3 cX8_minuteWithout 26 (.getfield 7) 29 := ⟨by decide +kernel, rfl⟩
theorem dX8_minuteWithout_29 : uD 1 cX8_minuteWithout 29 (.iconst 1) 30 := ⟨by decide +kernel, rfl⟩
theorem dX8_minuteWithout_30 : uD 1 cX8_minuteWithout 30 (.iaload) 31 := ⟨by decide +kernel, rfl⟩
theorem dX8_minuteWithout_31 : uD 3 cX8_minuteWithout 31 (.invokevirtual 215) 34 := ⟨by decide +kernel, rfl⟩
theorem dX8_minuteWithout_34 : uD 1 cX8_minuteWithout 34 (.return_) 35 := ⟨by decide +kernel, rfl⟩
theorem dX8_advance_0 : uD 1 cX8_advance 0 (.aload_n 0) 1 := ⟨by decide +kernel, rfl⟩
theorem dX8_advance_1 : uD 1 cX8_advance 1 (.iconst 0) 2 := ⟨by decide +kernel, rfl⟩
theorem dX8_advance_2 : uD 3 cX8_advance 2 (.putfield 49) 5 := ⟨by decide +kernel, rfl⟩
theorem dX8_advance_5 : uD 1 cX8_advance 5 (.aload_n 0) 6 := ⟨by decide +kernel, rfl⟩
theorem dX8_advance_6 : uD 1 cX8_advance 6 (.iload_n 1) 7 := ⟨by decide +kernel, rfl⟩
theorem dX8_advance_7 : uD 1 cX8_advance 7 (.iconst 1) 8 := ⟨by decide +kernel, rfl⟩
theorem dX8_advance_8 : uD 3 cX8_advance 8 (.sipush 1000) 11 := ⟨by decide +kernel, rfl⟩
theorem dX8_advance_11 : uD 3 cX8_advance 11 (.invokestatic 59) 14 := ⟨by decide +kernel, rfl⟩
theorem dX8_advance_14 : uD 1 cX8_advance 14 (.iconst 1) 15 := ⟨by decide +kernel, rfl⟩
theorem dX8_advance_15 : uD 3 cX8_advance 15 (.invokevirtual 55) 18 := ⟨by decide +kernel, rfl⟩
theorem dX8_advance_18 : uJ cX8_advance 18 (fun o => .ifCond .ne o) 23 21 := ⟨5, by decide +kernel, by decide, rfl⟩
theorem dX8_advance_21 : uD 1 cX8_advance 21 (.iconst 0) 22 := ⟨by decide +kernel, rfl⟩
theorem dX8_advance_22 : uD 1 cX8_advance 22 (.ireturn) 23 := ⟨by decide +kernel, rfl⟩
theorem dX8_advance_23 : uD 1 cX8_advance 23 (.iconst 0) 24 := ⟨by decide +kernel, rfl⟩
theorem dX8_advance_24 : uD 1 cX8_advance 24 (.istore_n 2) 25 := ⟨by decide +kernel, rfl⟩
theorem dX8_advance_25 : uD 1 cX8_advance 25 (.iconst 0) 26 := ⟨by decide +kernel, rfl⟩
theorem dX8_advance_26 : uD 1 cX8_advance 26 (.istore_n 3) 27 := ⟨by decide +kernel, rfl⟩
theorem dX8_advance_27 : uD 1 cX8_advance 27 (.iload_n 3) 28 := ⟨by decide +kernel, rfl⟩
theorem dX8_advance_28 : uD 1 cX8_advance 28 (.iload_n 1) 29 := ⟨by decide +kernel, rfl⟩
theorem dX8_advance_29 : uJ cX8_advance 29 (fun o => .if_icmp .ge o) 176 32 := ⟨147, by decide +kernel, by decide, rfl⟩
theorem dX8_advance_32 : uD 1 cX8_advance 32 (.aload_n 0) 33 := ⟨by decide +kernel, rfl⟩
theorem dX8_advance_33 : uD 3 cX8_advance 33 (.getfield 7) 36 := ⟨by decide +kernel, rfl⟩
theorem dX8_advance_36 : uD 2 cX8_advance 36 (.bipush 26) 38 := ⟨by decide +kernel, rfl⟩
theorem dX8_advance_38 : uD 1 cX8_advance 38 (.dup2) 39 := ⟨by decide +kernel, rfl⟩
theorem dX8_advance_39 : uD 1 cX8_advance 39 (.iaload) 40 := ⟨by decide +kernel, rfl⟩
theorem dX8_advance_40 : uD 1 cX8_advance 40 (.iconst 1) 41 := ⟨by decide +kernel, rfl⟩
theorem dX8_advance_41 : uD 1 cX8_advance 41 (.iadd) 42 := ⟨by decide +kernel, rfl⟩
theorem dX8_advance_42 : uD 1 cX8_advance 42 (.iastore) 43 := ⟨by decide +kernel, rfl⟩
theorem dX8_advance_43 : uD 1 cX8_advance 43 (.aload_n 0) 44 := ⟨by decide +kernel, rfl⟩
theorem dX8_advance_44 : uD 3 cX8_advance 44 (.getfield 7) 47 := ⟨by decide +kernel, rfl⟩
theorem dX8_advance_47 : uD 2 cX8_advance 47 (.bipush 27) 49 := ⟨by decide +kernel, rfl⟩
theorem dX8_advance_49 : uD 1 cX8_advance 49 (.iaload) 50 := ⟨by decide +kernel, rfl⟩
theorem dX8_advance_50 : uD 1 cX8_advance 50 (.iconst 1) 51 := ⟨by decide +kernel, rfl⟩
theorem dX8_advance_51 : uJ cX8_advance 51 (fun o => .if_icmp .ne o) 107 54 := ⟨56, by decide +kernel, by decide, rfl⟩
theorem dX8_advance_54 : uD 1 cX8_advance 54 (.aload_n 0) 55 := ⟨by decide +kernel, rfl⟩
theorem dX8_advance_55 : uD 3 cX8_advance 55 (.getfield 7) 58 := ⟨by decide +kernel, rfl⟩
theorem dX8_advance_58 : uD 1 cX8_advance 58 (.iconst 1) 59 := ⟨by decide +kernel, rfl⟩
theorem dX8_advance_59 : uD 1 cX8_advance 59 (.aload_n 0) 60 := ⟨by decide +kernel, rfl⟩
theorem dX8_advance_60 : uD 3 cX8_advance 60 (.getfield 7) 63 := ⟨by decide +kernel, rfl⟩
theorem dX8_advance_63 : uD 1 cX8_advance 63 (.iconst 1) 64 := ⟨by decide +kernel, rfl⟩
theorem dX8_advance_64 : uD 1 cX8_advance 64 (.iaload) 65 := ⟨by decide +kernel, rfl⟩
theorem dX8_advance_65 : uD 1 cX8_advance 65 (.aload_n 0) 66 := ⟨by decide +kernel, rfl⟩
theorem dX8_advance_66 : uD 3 cX8_advance 66 (.getfield 7) 69 := ⟨by decide +kernel, rfl⟩
theorem dX8_advance_69 : uD 1 cX8_advance 69 (.iconst 2) 70 := ⟨by decide +kernel, rfl⟩
theorem dX8_advance_70 : uD 1 cX8_advance 70 (.iaload) 71 := ⟨by decide +kernel, rfl⟩
theorem dX8_advance_71 : uD 1 cX8_advance 71 (.iadd) 72 := ⟨by decide +kernel, rfl⟩
theorem dX8_advance_72 : uD 1 cX8_advance 72 (.aload_n 0) 73 := ⟨by decide +kernel, rfl⟩
theorem dX8_advance_73 : uD 3 cX8_advance 73 (.getfield 7) 76 := ⟨by decide +kernel, rfl⟩
theorem dX8_advance_76 : uD 1 cX8_advance 76 (.iconst 0) 77 := ⟨by decide +kernel, rfl⟩
theorem dX8_advance_77 : uD 1 cX8_advance 77 (.iaload) 78 := ⟨by decide +kernel, rfl⟩
theorem dX8_advance_78 : uJ cX8_advance 78 (fun o => .if_icmp .ge o) 97 81 := ⟨19, by decide +kernel, by decide, rfl⟩
theorem dX8_advance_81 : uD 1 cX8_advance 81 (.aload_n 0) 82 := ⟨by decide +kernel, rfl⟩
theorem dX8_advance_82 : uD 3 cX8_advance 82 (.getfield 7) 85 := ⟨by decide +kernel, rfl⟩
theorem dX8_advance_85 : uD 1 cX8_advance 85 (.iconst 1) 86 := ⟨by decide +kernel, rfl⟩
theorem dX8_advance_86 : uD 1 cX8_advance 86 (.iaload) 87 := ⟨by decide +kernel, rfl⟩
theorem dX8_advance_87 : uD 1 cX8_advance 87 (.aload_n 0) 88 := ⟨by decide +kernel, rfl⟩
theorem dX8_advance_88 : uD 3 cX8_advance 88 (.getfield 7) 91 := ⟨by decide +kernel, rfl⟩
theorem dX8_advance_91 : uD 1 cX8_advance 91 (.iconst 2) 92 := ⟨by decide +kernel, rfl⟩
theorem dX8_advance_92 : uD 1 cX8_advance 92 (.iaload) 93 := ⟨by decide +kernel, rfl⟩
theorem dX8_advance_93 : uD 1 cX8_advance 93 (.iadd) 94 := ⟨by decide +kernel, rfl⟩
theorem dX8_advance_94 : uJ cX8_advance 94 (fun o => .goto o) 103 97 := ⟨9, by decide +kernel, by decide, rfl⟩
theorem dX8_advance_97 : uD 1 cX8_advance 97 (.aload_n 0) 98 := ⟨by decide +kernel, rfl⟩
theorem dX8_advance_98 : uD 3 cX8_advance 98 (.getfield 7) 101 := ⟨by decide +kernel, rfl⟩
theorem dX8_advance_101 : uD 1 cX8_advance 101 (.iconst 0) 102 := ⟨by decide +kernel, rfl⟩
theorem dX8_advance_102 : uD 1 cX8_advance 102 (.iaload) 103 := ⟨by decide +kernel, rfl⟩
theorem dX8_advance_103 : uD 1 cX8_advance 103 (.iastore) 104 := ⟨by decide +kernel, rfl⟩
theorem dX8_advance_104 : uJ cX8_advance 104 (fun o => .goto o) 111 107 := ⟨7, by decide +kernel, by decide, rfl⟩
theorem dX8_advance_107 : uD 1 cX8_advance 107 (.aload_n 0) 108 := ⟨by decide +kernel, rfl⟩
theorem dX8_advance_108 : uD 3 cX8_advance 108 (.invokevirtual 218) 111 := ⟨by decide +kernel, rfl⟩
theorem dX8_advance_111 : uD 1 cX8_advance 111 (.aload_n 0) 112 := ⟨by decide +kernel, rfl⟩
theorem dX8_advance_112 : uD 3 cX8_advance 112 (.getfield 7) 115 := ⟨by decide +kernel, rfl⟩
theorem dX8_advance_115 : uD 2 cX8_advance 115 (.bipush 27) 117 := ⟨by decide +kernel, rfl⟩
theorem dX8_advance_117 : uD 1 cX8_advance 117 (.iaload) 118 := ⟨by decide +kernel, rfl⟩
theorem dX8_advance_118 : uD 1 cX8_advance 118 (.iconst 1) 119 := ⟨by decide +kernel, rfl⟩
theorem dX8_advance_119 : uJ cX8_advance 119 (fun o => .if_icmp .eq o) 170 122 := ⟨51, by decide +kernel, by decide, rfl⟩
theorem dX8_advance_122 : uD 1 cX8_advance 122 (.aload_n 0) 123 := ⟨by decide +kernel, rfl⟩
theorem dX8_advance_123 : uD 3 cX8_advance 123 (.getfield 7) 126 := ⟨by decide +kernel, rfl⟩
theorem dX8_advance_126 : uD 1 cX8_advance 126 (.iconst 1) 127 := ⟨by decide +kernel, rfl⟩
theorem dX8_advance_127 : uD 1 cX8_advance 127 (.iaload) 128 := ⟨by decide +kernel, rfl⟩
theorem dX8_advance_128 : uJ cX8_advance 128 (fun o => .ifCond .le o) 134 131 := ⟨6, by decide +kernel, by decide, rfl⟩
theorem dX8_advance_131 : uJ cX8_advance 131 (fun o => .goto o) 170 134 := ⟨39, by decide +kernel, by decide, rfl⟩
theorem dX8_advance_134 : uD 1 cX8_advance 134 (.iload_n 2) 135 := ⟨by decide +kernel, rfl⟩
theorem dX8_advance_135 : uD 1 cX8_advance 135 (.aload_n 0) 136 := ⟨by decide +kernel, rfl⟩
theorem dX8_advance_136 : uD 1 cX8_advance 136 (.aload_n 0) 137 := ⟨by decide +kernel, rfl⟩
theorem dX8_advance_137 : uD 3 cX8_advance 137 (.invokevirtual 221) 140 := ⟨by decide +kernel, rfl⟩
theorem dX8_advance_140 : uD 3 cX8_advance 140 (.invokevirtual 187) 143 := ⟨by decide +kernel, rfl⟩
theorem dX8_advance_143 : uD 1 cX8_advance 143 (.iadd) 144 := ⟨by decide +kernel, rfl⟩
theorem dX8_advance_144 : uD 1 cX8_advance 144 (.istore_n 2) 145 := ⟨by decide +kernel, rfl⟩
theorem dX8_advance_145 : uD 1 cX8_advance 145 (.aload_n 0) 146 := ⟨by decide +kernel, rfl⟩
theorem dX8_advance_146 : uD 3 cX8_advance 146 (.getfield 7) 149 := ⟨by decide +kernel, rfl⟩
theorem dX8_advance_149 : uD 2 cX8_advance 149 (.bipush 32) 151 := ⟨by decide +kernel, rfl⟩
theorem dX8_advance_151 : uD 1 cX8_advance 151 (.dup2) 152 := ⟨by decide +kernel, rfl⟩
theorem dX8_advance_152 : uD 1 cX8_advance 152 (.iaload) 153 := ⟨by decide +kernel, rfl⟩
theorem dX8_advance_153 : uD 1 cX8_advance 153 (.aload_n 0) 154 := ⟨by decide +kernel, rfl⟩
theorem dX8_advance_154 : uD 3 cX8_advance 154 (.getfield 7) 157 := ⟨by decide +kernel, rfl⟩
theorem dX8_advance_157 : uD 2 cX8_advance 157 (.bipush 36) 159 := ⟨by decide +kernel, rfl⟩
theorem dX8_advance_159 : uD 1 cX8_advance 159 (.iaload) 160 := ⟨by decide +kernel, rfl⟩
theorem dX8_advance_160 : uD 1 cX8_advance 160 (.iadd) 161 := ⟨by decide +kernel, rfl⟩
theorem dX8_advance_161 : uD 1 cX8_advance 161 (.iastore) 162 := ⟨by decide +kernel, rfl⟩
theorem dX8_advance_162 : uD 1 cX8_advance 162 (.aload_n 0) 163 := ⟨by decide +kernel, rfl⟩
theorem dX8_advance_163 : uD 3 cX8_advance 163 (.getfield 7) 166 := ⟨by decide +kernel, rfl⟩
theorem dX8_advance_166 : uD 2 cX8_advance 166 (.bipush 36) 168 := ⟨by decide +kernel, rfl⟩
theorem dX8_advance_168 : uD 1 cX8_advance 168 (.iconst 0) 169 := ⟨by decide +kernel, rfl⟩
theorem dX8_advance_169 : uD 1 cX8_advance 169 (.iastore) 170 := ⟨by decide +kernel, rfl⟩
theorem dX8_advance_170 : uD 3 cX8_advance 170 (.iinc 3 1) 173 := ⟨by decide +kernel, rfl⟩
theorem dX8_advance_173 : uJ cX8_advance 173 (fun o => .goto o) 27 176 := ⟨(-146), by decide +kernel, by decide, rfl⟩
theorem dX8_advance_176 : uD 1 cX8_advance 176 (.aload_n 0) 177 := ⟨by decide +kernel, rfl⟩
theorem dX8_advance_177 : uD 3 cX8_advance 177 (.getfield 7) 180 := ⟨by decide +kernel, rfl⟩
theorem dX8_advance_180 : uD 2 cX8_advance 180 (.bipush 34) 182 := ⟨by decide +kernel, rfl⟩
theorem dX8_advance_182 : uD 1 cX8_advance 182 (.dup2) 183 := ⟨by decide +kernel, rfl⟩
theorem dX8_advance_183 : uD 1 cX8_advance 183 (.iaload) 184 := ⟨by decide +kernel, rfl⟩
theorem dX8_advance_184 : uD 1 cX8_advance 184 (.iload_n 2) 185 := ⟨by decide +kernel, rfl⟩
theorem dX8_advance_185 : uD 1 cX8_advance 185 (.iadd) 186 := ⟨by decide +kernel, rfl⟩
theorem dX8_advance_186 : uD 1 cX8_advance 186 (.iastore) 187 := ⟨by decide +kernel, rfl⟩
theorem dX8_advance_187 : uD 1 cX8_advance 187 (.iload_n 2) 188 := ⟨by decide +kernel, rfl⟩
theorem dX8_advance_188 : uD 1 cX8_advance 188 (.ireturn) 189 := ⟨by decide +kernel, rfl⟩
theorem dX8_flushes_0 : uD 1 cX8_flushes 0 (.aload_n 0) 1 := ⟨by decide +kernel, rfl⟩
theorem dX8_flushes_1 : uD 1 cX8_flushes 1 (.iload_n 1) 2 := ⟨by decide +kernel, rfl⟩
theorem dX8_flushes_2 : uD 3 cX8_flushes 2 (.invokevirtual 187) 5 := ⟨by decide +kernel, rfl⟩
theorem dX8_flushes_5 : uD 1 cX8_flushes 5 (.istore_n 2) 6 := ⟨by decide +kernel, rfl⟩
theorem dX8_flushes_6 : uD 1 cX8_flushes 6 (.aload_n 0) 7 := ⟨by decide +kernel, rfl⟩
theorem dX8_flushes_7 : uD 1 cX8_flushes 7 (.aload_n 0) 8 := ⟨by decide +kernel, rfl⟩
theorem dX8_flushes_8 : uD 1 cX8_flushes 8 (.iload_n 1) 9 := ⟨by decide +kernel, rfl⟩
theorem dX8_flushes_9 : uD 3 cX8_flushes 9 (.invokevirtual 175) 12 := ⟨by decide +kernel, rfl⟩
theorem dX8_flushes_12 : uD 3 cX8_flushes 12 (.invokevirtual 215) 15 := ⟨by decide +kernel, rfl⟩
theorem dX8_flushes_15 : uD 1 cX8_flushes 15 (.aload_n 0) 16 := ⟨by decide +kernel, rfl⟩
theorem dX8_flushes_16 : uD 3 cX8_flushes 16 (.getfield 7) 19 := ⟨by decide +kernel, rfl⟩
theorem dX8_flushes_19 : uD 2 cX8_flushes 19 (.bipush 31) 21 := ⟨by decide +kernel, rfl⟩
theorem dX8_flushes_21 : uD 1 cX8_flushes 21 (.dup2) 22 := ⟨by decide +kernel, rfl⟩
theorem dX8_flushes_22 : uD 1 cX8_flushes 22 (.iaload) 23 := ⟨by decide +kernel, rfl⟩
theorem dX8_flushes_23 : uD 1 cX8_flushes 23 (.iload_n 1) 24 := ⟨by decide +kernel, rfl⟩
theorem dX8_flushes_24 : uD 3 cX8_flushes 24 (.invokestatic 184) 27 := ⟨by decide +kernel, rfl⟩
theorem dX8_flushes_27 : uD 1 cX8_flushes 27 (.iadd) 28 := ⟨by decide +kernel, rfl⟩
theorem dX8_flushes_28 : uD 1 cX8_flushes 28 (.iastore) 29 := ⟨by decide +kernel, rfl⟩
theorem dX8_flushes_29 : uD 1 cX8_flushes 29 (.aload_n 0) 30 := ⟨by decide +kernel, rfl⟩
theorem dX8_flushes_30 : uD 3 cX8_flushes 30 (.getfield 7) 33 := ⟨by decide +kernel, rfl⟩
theorem dX8_flushes_33 : uD 2 cX8_flushes 33 (.bipush 33) 35 := ⟨by decide +kernel, rfl⟩
theorem dX8_flushes_35 : uD 1 cX8_flushes 35 (.dup2) 36 := ⟨by decide +kernel, rfl⟩
theorem dX8_flushes_36 : uD 1 cX8_flushes 36 (.iaload) 37 := ⟨by decide +kernel, rfl⟩
theorem dX8_flushes_37 : uD 1 cX8_flushes 37 (.iload_n 2) 38 := ⟨by decide +kernel, rfl⟩
theorem dX8_flushes_38 : uD 1 cX8_flushes 38 (.iadd) 39 := ⟨by decide +kernel, rfl⟩
theorem dX8_flushes_39 : uD 1 cX8_flushes 39 (.iastore) 40 := ⟨by decide +kernel, rfl⟩
theorem dX8_flushes_40 : uD 1 cX8_flushes 40 (.aload_n 0) 41 := ⟨by decide +kernel, rfl⟩
theorem dX8_flushes_41 : uD 1 cX8_flushes 41 (.iload_n 1) 42 := ⟨by decide +kernel, rfl⟩
theorem dX8_flushes_42 : uD 3 cX8_flushes 42 (.invokevirtual 212) 45 := ⟨by decide +kernel, rfl⟩
theorem dX8_flushes_45 : uD 1 cX8_flushes 45 (.iload_n 2) 46 := ⟨by decide +kernel, rfl⟩
theorem dX8_flushes_46 : uD 1 cX8_flushes 46 (.ireturn) 47 := ⟨by decide +kernel, rfl⟩
theorem dX8_flush_0 : uD 1 cX8_flush 0 (.aload_n 0) 1 := ⟨by decide +kernel, rfl⟩
theorem dX8_flush_1 : uD 1 cX8_flush 1 (.iconst 0) 2 := ⟨by decide +kernel, rfl⟩
theorem dX8_flush_2 : uD 3 cX8_flush 2 (.putfield 49) 5 := ⟨by decide +kernel, rfl⟩
theorem dX8_flush_5 : uD 1 cX8_flush 5 (.aload_n 0) 6 := ⟨by decide +kernel, rfl⟩
theorem dX8_flush_6 : uD 1 cX8_flush 6 (.aload_n 0) 7 := ⟨by decide +kernel, rfl⟩
theorem dX8_flush_7 : uD 3 cX8_flush 7 (.getfield 7) 10 := ⟨by decide +kernel, rfl⟩
theorem dX8_flush_10 : uD 2 cX8_flush 10 (.bipush 27) 12 := ⟨by decide +kernel, rfl⟩
theorem dX8_flush_12 : uD 1 cX8_flush 12 (.iaload) 13 := ⟨by decide +kernel, rfl⟩
theorem dX8_flush_13 : uJ cX8_flush 13 (fun o => .ifCond .ne o) 20 16 := ⟨7, by decide +kernel, by decide, rfl⟩
theorem dX8_flush_16 : uD 1 cX8_flush 16 (.iconst 1) 17 := ⟨by decide +kernel, rfl⟩
theorem dX8_flush_17 : uJ cX8_flush 17 (fun o => .goto o) 21 20 := ⟨4, by decide +kernel, by decide, rfl⟩
theorem dX8_flush_20 : uD 1 cX8_flush 20 (.iconst 0) 21 := ⟨by decide +kernel, rfl⟩
theorem dX8_flush_21 : uD 1 cX8_flush 21 (.iconst 1) 22 := ⟨by decide +kernel, rfl⟩
theorem dX8_flush_22 : uD 3 cX8_flush 22 (.invokevirtual 55) 25 := ⟨by decide +kernel, rfl⟩
theorem dX8_flush_25 : uJ cX8_flush 25 (fun o => .ifCond .ne o) 30 28 := ⟨5, by decide +kernel, by decide, rfl⟩
theorem dX8_flush_28 : uD 1 cX8_flush 28 (.iconst 0) 29 := ⟨by decide +kernel, rfl⟩
theorem dX8_flush_29 : uD 1 cX8_flush 29 (.ireturn) 30 := ⟨by decide +kernel, rfl⟩
theorem dX8_flush_30 : uD 1 cX8_flush 30 (.aload_n 0) 31 := ⟨by decide +kernel, rfl⟩
theorem dX8_flush_31 : uD 1 cX8_flush 31 (.aload_n 0) 32 := ⟨by decide +kernel, rfl⟩
theorem dX8_flush_32 : uD 3 cX8_flush 32 (.getfield 7) 35 := ⟨by decide +kernel, rfl⟩
theorem dX8_flush_35 : uD 2 cX8_flush 35 (.bipush 25) 37 := ⟨by decide +kernel, rfl⟩
theorem dX8_flush_37 : uD 1 cX8_flush 37 (.iaload) 38 := ⟨by decide +kernel, rfl⟩
theorem dX8_flush_38 : uD 3 cX8_flush 38 (.invokevirtual 224) 41 := ⟨by decide +kernel, rfl⟩
theorem dX8_flush_41 : uD 1 cX8_flush 41 (.aload_n 0) 42 := ⟨by decide +kernel, rfl⟩
theorem dX8_flush_42 : uD 1 cX8_flush 42 (.aload_n 0) 43 := ⟨by decide +kernel, rfl⟩
theorem dX8_flush_43 : uD 1 cX8_flush 43 (.aload_n 0) 44 := ⟨by decide +kernel, rfl⟩
theorem dX8_flush_44 : uD 3 cX8_flush 44 (.getfield 7) 47 := ⟨by decide +kernel, rfl⟩
theorem dX8_flush_47 : uD 1 cX8_flush 47 (.iconst 1) 48 := ⟨by decide +kernel, rfl⟩
theorem dX8_flush_48 : uD 1 cX8_flush 48 (.iaload) 49 := ⟨by decide +kernel, rfl⟩
theorem dX8_flush_49 : uD 3 cX8_flush 49 (.invokevirtual 227) 52 := ⟨by decide +kernel, rfl⟩
theorem dX8_flush_52 : uD 3 cX8_flush 52 (.invokevirtual 230) 55 := ⟨by decide +kernel, rfl⟩
theorem dX8_flush_55 : uD 1 cX8_flush 55 (.ireturn) 56 := ⟨by decide +kernel, rfl⟩
theorem dX8_flushDevice_0 : uD 1 cX8_flushDevice 0 (.aload_n 0) 1 := ⟨by decide +kernel, rfl⟩
theorem dX8_flushDevice_1 : uD 1 cX8_flushDevice 1 (.iconst 0) 2 := ⟨by decide +kernel, rfl⟩
theorem dX8_flushDevice_2 : uD 3 cX8_flushDevice 2 (.putfield 49) 5 := ⟨by decide +kernel, rfl⟩
theorem dX8_flushDevice_5 : uD 1 cX8_flushDevice 5 (.aload_n 0) 6 := ⟨by decide +kernel, rfl⟩
theorem dX8_flushDevice_6 : uD 1 cX8_flushDevice 6 (.aload_n 0) 7 := ⟨by decide +kernel, rfl⟩
theorem dX8_flushDevice_7 : uD 1 cX8_flushDevice 7 (.iload_n 1) 8 := ⟨by decide +kernel, rfl⟩
theorem dX8_flushDevice_8 : uD 3 cX8_flushDevice 8 (.invokevirtual 178) 11 := ⟨by decide +kernel, rfl⟩
theorem dX8_flushDevice_11 : uD 1 cX8_flushDevice 11 (.iconst 1) 12 := ⟨by decide +kernel, rfl⟩
theorem dX8_flushDevice_12 : uD 3 cX8_flushDevice 12 (.invokevirtual 55) 15 := ⟨by decide +kernel, rfl⟩
theorem dX8_flushDevice_15 : uJ cX8_flushDevice 15 (fun o => .ifCond .eq o) 67 18 := ⟨52, by decide +kernel, by decide, rfl⟩
theorem dX8_flushDevice_18 : uD 1 cX8_flushDevice 18 (.aload_n 0) 19 := ⟨by decide +kernel, rfl⟩
theorem dX8_flushDevice_19 : uD 1 cX8_flushDevice 19 (.aload_n 0) 20 := ⟨by decide +kernel, rfl⟩
theorem dX8_flushDevice_20 : uD 3 cX8_flushDevice 20 (.getfield 7) 23 := ⟨by decide +kernel, rfl⟩
theorem dX8_flushDevice_23 : uD 2 cX8_flushDevice 23 (.bipush 27) 25 := ⟨by decide +kernel, rfl⟩
theorem dX8_flushDevice_25 : uD 1 cX8_flushDevice 25 (.iaload) 26 := ⟨by decide +kernel, rfl⟩
theorem dX8_flushDevice_26 : uJ cX8_flushDevice 26 (fun o => .ifCond .ne o) 59 29 := ⟨33, by decide +kernel, by decide, rfl⟩
theorem dX8_flushDevice_29 : uD 1 cX8_flushDevice 29 (.aload_n 0) 30 := ⟨by decide +kernel, rfl⟩
theorem dX8_flushDevice_30 : uD 1 cX8_flushDevice 30 (.iload_n 1) 31 := ⟨by decide +kernel, rfl⟩
theorem dX8_flushDevice_31 : uD 3 cX8_flushDevice 31 (.invokevirtual 169) 34 := ⟨by decide +kernel, rfl⟩
theorem dX8_flushDevice_34 : uJ cX8_flushDevice 34 (fun o => .ifCond .ne o) 59 37 := ⟨25, by decide +kernel, by decide, rfl⟩
theorem dX8_flushDevice_37 : uD 1 cX8_flushDevice 37 (.aload_n 0) 38 := ⟨by decide +kernel, rfl⟩
theorem dX8_flushDevice_38 : uD 1 cX8_flushDevice 38 (.aload_n 0) 39 := ⟨by decide +kernel, rfl⟩
theorem dX8_flushDevice_39 : uD 1 cX8_flushDevice 39 (.iload_n 1) 40 := ⟨by decide +kernel, rfl⟩
theorem dX8_flushDevice_40 : uD 3 cX8_flushDevice 40 (.invokevirtual 181) 43 := ⟨by decide +kernel, rfl⟩
theorem dX8_flushDevice_43 : uD 3 cX8_flushDevice 43 (.invokevirtual 175) 46 := ⟨by decide +kernel, rfl⟩
theorem dX8_flushDevice_46 : uD 1 cX8_flushDevice 46 (.aload_n 0) 47 := ⟨by decide +kernel, rfl⟩
theorem dX8_flushDevice_47 : uD 3 cX8_flushDevice 47 (.getfield 7) 50 := ⟨by decide +kernel, rfl⟩
theorem dX8_flushDevice_50 : uD 1 cX8_flushDevice 50 (.iconst 1) 51 := ⟨by decide +kernel, rfl⟩
theorem dX8_flushDevice_51 : uD 1 cX8_flushDevice 51 (.iaload) 52 := ⟨by decide +kernel, rfl⟩
theorem dX8_flushDevice_52 : uJ cX8_flushDevice 52 (fun o => .if_icmp .gt o) 59 55 := ⟨7, by decide +kernel, by decide, rfl⟩
theorem dX8_flushDevice_55 : uD 1 cX8_flushDevice 55 (.iconst 1) 56 := ⟨by decide +kernel, rfl⟩
theorem dX8_flushDevice_56 : uJ cX8_flushDevice 56 (fun o => .goto o) 60 59 := ⟨4, by decide +kernel, by decide, rfl⟩
theorem dX8_flushDevice_59 : uD 1 cX8_flushDevice 59 (.iconst 0) 60 := ⟨by decide +kernel, rfl⟩
theorem dX8_flushDevice_60 : uD 1 cX8_flushDevice 60 (.iconst 2) 61 := ⟨by decide +kernel, rfl⟩
theorem dX8_flushDevice_61 : uD 3 cX8_flushDevice 61 (.invokevirtual 55) 64 := ⟨by decide +kernel, rfl⟩
theorem dX8_flushDevice_64 : uJ cX8_flushDevice 64 (fun o => .ifCond .ne o) 69 67 := ⟨5, by decide +kernel, by decide, rfl⟩
theorem dX8_flushDevice_67 : uD 1 cX8_flushDevice 67 (.iconst 0) 68 := ⟨by decide +kernel, rfl⟩
theorem dX8_flushDevice_68 : uD 1 cX8_flushDevice 68 (.ireturn) 69 := ⟨by decide +kernel, rfl⟩
theorem dX8_flushDevice_69 : uD 1 cX8_flushDevice 69 (.aload_n 0) 70 := ⟨by decide +kernel, rfl⟩
theorem dX8_flushDevice_70 : uD 1 cX8_flushDevice 70 (.aload_n 0) 71 := ⟨by decide +kernel, rfl⟩
theorem dX8_flushDevice_71 : uD 1 cX8_flushDevice 71 (.iload_n 1) 72 := ⟨by decide +kernel, rfl⟩
theorem dX8_flushDevice_72 : uD 3 cX8_flushDevice 72 (.invokevirtual 181) 75 := ⟨by decide +kernel, rfl⟩
theorem dX8_flushDevice_75 : uD 3 cX8_flushDevice 75 (.invokevirtual 230) 78 := ⟨by decide +kernel, rfl⟩
theorem dX8_flushDevice_78 : uD 1 cX8_flushDevice 78 (.ireturn) 79 := ⟨by decide +kernel, rfl⟩
theorem dX8_greater_0 : uD 1 cX8_greater 0 (.lload_n 0) 1 := ⟨by decide +kernel, rfl⟩
theorem dX8_greater_1 : uD 1 cX8_greater 1 (.lload_n 2) 2 := ⟨by decide +kernel, rfl⟩
theorem dX8_greater_2 : uD 1 cX8_greater 2 (.lcmp) 3 := ⟨by decide +kernel, rfl⟩
theorem dX8_greater_3 : uJ cX8_greater 3 (fun o => .ifCond .le o) 10 6 := ⟨7, by decide +kernel, by decide, rfl⟩
theorem dX8_greater_6 : uD 1 cX8_greater 6 (.lload_n 0) 7 := ⟨by decide +kernel, rfl⟩
theorem dX8_greater_7 : uJ cX8_greater 7 (fun o => .goto o) 11 10 := ⟨4, by decide +kernel, by decide, rfl⟩
theorem dX8_greater_10 : uD 1 cX8_greater 10 (.lload_n 2) 11 := ⟨by decide +kernel, rfl⟩
theorem dX8_greater_11 : uD 1 cX8_greater 11 (.lreturn) 12 := ⟨by decide +kernel, rfl⟩
theorem dX8_merges_0 : uD 1 cX8_merges 0 (.iconst 0) 1 := ⟨by decide +kernel, rfl⟩
theorem dX8_merges_1 : uD 1 cX8_merges 1 (.istore_n 1) 2 := ⟨by decide +kernel, rfl⟩
theorem dX8_merges_2 : uD 1 cX8_merges 2 (.iload_n 1) 3 := ⟨by decide +kernel, rfl⟩
theorem dX8_merges_3 : uD 3 cX8_merges 3 (.sipush 500) 6 := ⟨by decide +kernel, rfl⟩
theorem dX8_merges_6 : uJ cX8_merges 6 (fun o => .if_icmp .gt o) 83 9 := ⟨77, by decide +kernel, by decide, rfl⟩
theorem dX8_merges_9 : uD 1 cX8_merges 9 (.aload_n 0) 10 := ⟨by decide +kernel, rfl⟩
theorem dX8_merges_10 : uD 3 cX8_merges 10 (.getfield 33) 13 := ⟨by decide +kernel, rfl⟩
theorem dX8_merges_13 : uD 1 cX8_merges 13 (.iconst 3) 14 := ⟨by decide +kernel, rfl⟩
theorem dX8_merges_14 : uD 1 cX8_merges 14 (.iload_n 1) 15 := ⟨by decide +kernel, rfl⟩
theorem dX8_merges_15 : uD 1 cX8_merges 15 (.imul) 16 := ⟨by decide +kernel, rfl⟩
theorem dX8_merges_16 : uD 1 cX8_merges 16 (.aload_n 0) 17 := ⟨by decide +kernel, rfl⟩
theorem dX8_merges_17 : uD 3 cX8_merges 17 (.getfield 33) 20 := ⟨by decide +kernel, rfl⟩
theorem dX8_merges_20 : uD 1 cX8_merges 20 (.iconst 3) 21 := ⟨by decide +kernel, rfl⟩
theorem dX8_merges_21 : uD 1 cX8_merges 21 (.iload_n 1) 22 := ⟨by decide +kernel, rfl⟩
theorem dX8_merges_22 : uD 1 cX8_merges 22 (.imul) 23 := ⟨by decide +kernel, rfl⟩
theorem dX8_merges_23 : uD 1 cX8_merges 23 (.laload) 24 := ⟨by decide +kernel, rfl⟩
theorem dX8_merges_24 : uD 1 cX8_merges 24 (.aload_n 0) 25 := ⟨by decide +kernel, rfl⟩
theorem dX8_merges_25 : uD 3 cX8_merges 25 (.getfield 33) 28 := ⟨by decide +kernel, rfl⟩
theorem dX8_merges_28 : uD 1 cX8_merges 28 (.iconst 3) 29 := ⟨by decide +kernel, rfl⟩
theorem dX8_merges_29 : uD 1 cX8_merges 29 (.iload_n 1) 30 := ⟨by decide +kernel, rfl⟩
theorem dX8_merges_30 : uD 1 cX8_merges 30 (.imul) 31 := ⟨by decide +kernel, rfl⟩
theorem dX8_merges_31 : uD 1 cX8_merges 31 (.iconst 1) 32 := ⟨by decide +kernel, rfl⟩
theorem dX8_merges_32 : uD 1 cX8_merges 32 (.iadd) 33 := ⟨by decide +kernel, rfl⟩
theorem dX8_merges_33 : uD 1 cX8_merges 33 (.laload) 34 := ⟨by decide +kernel, rfl⟩
theorem dX8_merges_34 : uD 1 cX8_merges 34 (.aload_n 0) 35 := ⟨by decide +kernel, rfl⟩
theorem dX8_merges_35 : uD 3 cX8_merges 35 (.getfield 33) 38 := ⟨by decide +kernel, rfl⟩
theorem dX8_merges_38 : uD 1 cX8_merges 38 (.iconst 3) 39 := ⟨by decide +kernel, rfl⟩
theorem dX8_merges_39 : uD 1 cX8_merges 39 (.iload_n 1) 40 := ⟨by decide +kernel, rfl⟩
theorem dX8_merges_40 : uD 1 cX8_merges 40 (.imul) 41 := ⟨by decide +kernel, rfl⟩
theorem dX8_merges_41 : uD 1 cX8_merges 41 (.iconst 2) 42 := ⟨by decide +kernel, rfl⟩
theorem dX8_merges_42 : uD 1 cX8_merges 42 (.iadd) 43 := ⟨by decide +kernel, rfl⟩
theorem dX8_merges_43 : uD 1 cX8_merges 43 (.laload) 44 := ⟨by decide +kernel, rfl⟩
theorem dX8_merges_44 : uD 3 cX8_merges 44 (.invokestatic 233) 47 := ⟨by decide +kernel, rfl⟩
theorem dX8_merges_47 : uD 3 cX8_merges 47 (.invokestatic 233) 50 := ⟨by decide +kernel, rfl⟩
theorem dX8_merges_50 : uD 1 cX8_merges 50 (.lastore) 51 := ⟨by decide +kernel, rfl⟩
theorem dX8_merges_51 : uD 1 cX8_merges 51 (.aload_n 0) 52 := ⟨by decide +kernel, rfl⟩
theorem dX8_merges_52 : uD 3 cX8_merges 52 (.getfield 33) 55 := ⟨by decide +kernel, rfl⟩
theorem dX8_merges_55 : uD 1 cX8_merges 55 (.iconst 3) 56 := ⟨by decide +kernel, rfl⟩
theorem dX8_merges_56 : uD 1 cX8_merges 56 (.iload_n 1) 57 := ⟨by decide +kernel, rfl⟩
theorem dX8_merges_57 : uD 1 cX8_merges 57 (.imul) 58 := ⟨by decide +kernel, rfl⟩
theorem dX8_merges_58 : uD 1 cX8_merges 58 (.iconst 1) 59 := ⟨by decide +kernel, rfl⟩
theorem dX8_merges_59 : uD 1 cX8_merges 59 (.iadd) 60 := ⟨by decide +kernel, rfl⟩
theorem dX8_merges_60 : uD 3 cX8_merges 60 (.ldc2_w 237) 63 := ⟨by decide +kernel, rfl⟩
theorem dX8_merges_63 : uD 1 cX8_merges 63 (.lastore) 64 := ⟨by decide +kernel, rfl⟩
theorem dX8_merges_64 : uD 1 cX8_merges 64 (.aload_n 0) 65 := ⟨by decide +kernel, rfl⟩
theorem dX8_merges_65 : uD 3 cX8_merges 65 (.getfield 33) 68 := ⟨by decide +kernel, rfl⟩
theorem dX8_merges_68 : uD 1 cX8_merges 68 (.iconst 3) 69 := ⟨by decide +kernel, rfl⟩
theorem dX8_merges_69 : uD 1 cX8_merges 69 (.iload_n 1) 70 := ⟨by decide +kernel, rfl⟩
theorem dX8_merges_70 : uD 1 cX8_merges 70 (.imul) 71 := ⟨by decide +kernel, rfl⟩
theorem dX8_merges_71 : uD 1 cX8_merges 71 (.iconst 2) 72 := ⟨by decide +kernel, rfl⟩
theorem dX8_merges_72 : uD 1 cX8_merges 72 (.iadd) 73 := ⟨by decide +kernel, rfl⟩
theorem dX8_merges_73 : uD 3 cX8_merges 73 (.ldc2_w 237) 76 := ⟨by decide +kernel, rfl⟩
theorem dX8_merges_76 : uD 1 cX8_merges 76 (.lastore) 77 := ⟨by decide +kernel, rfl⟩
theorem dX8_merges_77 : uD 3 cX8_merges 77 (.iinc 1 1) 80 := ⟨by decide +kernel, rfl⟩
theorem dX8_merges_80 : uJ cX8_merges 80 (fun o => .goto o) 2 83 := ⟨(-78), by decide +kernel, by decide, rfl⟩
theorem dX8_merges_83 : uD 1 cX8_merges 83 (.return_) 84 := ⟨by decide +kernel, rfl⟩
theorem dX8_takesBlock_0 : uD 2 cX8_takesBlock 0 (.bipush 10) 2 := ⟨by decide +kernel, rfl⟩
theorem dX8_takesBlock_2 : uD 1 cX8_takesBlock 2 (.iconst 3) 3 := ⟨by decide +kernel, rfl⟩
theorem dX8_takesBlock_3 : uD 1 cX8_takesBlock 3 (.aload_n 0) 4 := ⟨by decide +kernel, rfl⟩
theorem dX8_takesBlock_4 : uD 1 cX8_takesBlock 4 (.iload_n 1) 5 := ⟨by decide +kernel, rfl⟩
theorem dX8_takesBlock_5 : uD 3 cX8_takesBlock 5 (.invokevirtual 166) 8 := ⟨by decide +kernel, rfl⟩
theorem dX8_takesBlock_8 : uD 1 cX8_takesBlock 8 (.imul) 9 := ⟨by decide +kernel, rfl⟩
theorem dX8_takesBlock_9 : uD 1 cX8_takesBlock 9 (.iadd) 10 := ⟨by decide +kernel, rfl⟩
theorem dX8_takesBlock_10 : uD 1 cX8_takesBlock 10 (.istore_n 3) 11 := ⟨by decide +kernel, rfl⟩
theorem dX8_takesBlock_11 : uD 1 cX8_takesBlock 11 (.aload_n 0) 12 := ⟨by decide +kernel, rfl⟩
theorem dX8_takesBlock_12 : uD 1 cX8_takesBlock 12 (.iload_n 1) 13 := ⟨by decide +kernel, rfl⟩
theorem dX8_takesBlock_13 : uD 1 cX8_takesBlock 13 (.iconst 1) 14 := ⟨by decide +kernel, rfl⟩
theorem dX8_takesBlock_14 : uD 3 cX8_takesBlock 14 (.invokevirtual 160) 17 := ⟨by decide +kernel, rfl⟩
theorem dX8_takesBlock_17 : uD 1 cX8_takesBlock 17 (.i2l) 18 := ⟨by decide +kernel, rfl⟩
theorem dX8_takesBlock_18 : uD 2 cX8_takesBlock 18 (.bipush 24) 20 := ⟨by decide +kernel, rfl⟩
theorem dX8_takesBlock_20 : uD 1 cX8_takesBlock 20 (.lshl) 21 := ⟨by decide +kernel, rfl⟩
theorem dX8_takesBlock_21 : uD 1 cX8_takesBlock 21 (.lconst 1) 22 := ⟨by decide +kernel, rfl⟩
theorem dX8_takesBlock_22 : uD 1 cX8_takesBlock 22 (.iload_n 1) 23 := ⟨by decide +kernel, rfl⟩
theorem dX8_takesBlock_23 : uD 1 cX8_takesBlock 23 (.lshl) 24 := ⟨by decide +kernel, rfl⟩
theorem dX8_takesBlock_24 : uD 1 cX8_takesBlock 24 (.lsub) 25 := ⟨by decide +kernel, rfl⟩
theorem dX8_takesBlock_25 : uD 2 cX8_takesBlock 25 (.lstore 4) 27 := ⟨by decide +kernel, rfl⟩
theorem dX8_takesBlock_27 : uD 1 cX8_takesBlock 27 (.iconst 0) 28 := ⟨by decide +kernel, rfl⟩
theorem dX8_takesBlock_28 : uD 2 cX8_takesBlock 28 (.istore 6) 30 := ⟨by decide +kernel, rfl⟩
theorem dX8_takesBlock_30 : uD 2 cX8_takesBlock 30 (.iload 6) 32 := ⟨by decide +kernel, rfl⟩
theorem dX8_takesBlock_32 : uD 3 cX8_takesBlock 32 (.sipush 1503) 35 := ⟨by decide +kernel, rfl⟩
theorem dX8_takesBlock_35 : uJ cX8_takesBlock 35 (fun o => .if_icmp .ge o) 54 38 := ⟨19, by decide +kernel, by decide, rfl⟩
theorem dX8_takesBlock_38 : uD 1 cX8_takesBlock 38 (.aload_n 0) 39 := ⟨by decide +kernel, rfl⟩
theorem dX8_takesBlock_39 : uD 3 cX8_takesBlock 39 (.getfield 37) 42 := ⟨by decide +kernel, rfl⟩
theorem dX8_takesBlock_42 : uD 2 cX8_takesBlock 42 (.iload 6) 44 := ⟨by decide +kernel, rfl⟩
theorem dX8_takesBlock_44 : uD 3 cX8_takesBlock 44 (.ldc2_w 237) 47 := ⟨by decide +kernel, rfl⟩
theorem dX8_takesBlock_47 : uD 1 cX8_takesBlock 47 (.lastore) 48 := ⟨by decide +kernel, rfl⟩
theorem dX8_takesBlock_48 : uD 3 cX8_takesBlock 48 (.iinc 6 1) 51 := ⟨by decide +kernel, rfl⟩
theorem dX8_takesBlock_51 : uJ cX8_takesBlock 51 (fun o => .goto o) 30 54 := ⟨(-21), by decide +kernel, by decide, rfl⟩
theorem dX8_takesBlock_54 : uD 1 cX8_takesBlock 54 (.iconst 0) 55 := ⟨by decide +kernel, rfl⟩
theorem dX8_takesBlock_55 : uD 2 cX8_takesBlock 55 (.istore 6) 57 := ⟨by decide +kernel, rfl⟩
theorem dX8_takesBlock_57 : uD 2 cX8_takesBlock 57 (.iload 6) 59 := ⟨by decide +kernel, rfl⟩
theorem dX8_takesBlock_59 : uD 3 cX8_takesBlock 59 (.sipush 500) 62 := ⟨by decide +kernel, rfl⟩
theorem dX8_takesBlock_62 : uJ cX8_takesBlock 62 (fun o => .if_icmp .gt o) 290 65 := ⟨228, by decide +kernel, by decide, rfl⟩
theorem dX8_takesBlock_65 : uD 1 cX8_takesBlock 65 (.aload_n 0) 66 := ⟨by decide +kernel, rfl⟩
theorem dX8_takesBlock_66 : uD 3 cX8_takesBlock 66 (.getfield 37) 69 := ⟨by decide +kernel, rfl⟩
theorem dX8_takesBlock_69 : uD 1 cX8_takesBlock 69 (.iconst 3) 70 := ⟨by decide +kernel, rfl⟩
theorem dX8_takesBlock_70 : uD 2 cX8_takesBlock 70 (.iload 6) 72 := ⟨by decide +kernel, rfl⟩
theorem dX8_takesBlock_72 : uD 1 cX8_takesBlock 72 (.imul) 73 := ⟨by decide +kernel, rfl⟩
theorem dX8_takesBlock_73 : uD 1 cX8_takesBlock 73 (.aload_n 0) 74 := ⟨by decide +kernel, rfl⟩
theorem dX8_takesBlock_74 : uD 3 cX8_takesBlock 74 (.getfield 37) 77 := ⟨by decide +kernel, rfl⟩
theorem dX8_takesBlock_77 : uD 1 cX8_takesBlock 77 (.iconst 3) 78 := ⟨by decide +kernel, rfl⟩
theorem dX8_takesBlock_78 : uD 2 cX8_takesBlock 78 (.iload 6) 80 := ⟨by decide +kernel, rfl⟩
theorem dX8_takesBlock_80 : uD 1 cX8_takesBlock 80 (.imul) 81 := ⟨by decide +kernel, rfl⟩
theorem dX8_takesBlock_81 : uD 1 cX8_takesBlock 81 (.laload) 82 := ⟨by decide +kernel, rfl⟩
theorem dX8_takesBlock_82 : uD 1 cX8_takesBlock 82 (.aload_n 0) 83 := ⟨by decide +kernel, rfl⟩
theorem dX8_takesBlock_83 : uD 3 cX8_takesBlock 83 (.getfield 33) 86 := ⟨by decide +kernel, rfl⟩
theorem dX8_takesBlock_86 : uD 1 cX8_takesBlock 86 (.iconst 3) 87 := ⟨by decide +kernel, rfl⟩
theorem dX8_takesBlock_87 : uD 2 cX8_takesBlock 87 (.iload 6) 89 := ⟨by decide +kernel, rfl⟩
theorem dX8_takesBlock_89 : uD 1 cX8_takesBlock 89 (.imul) 90 := ⟨by decide +kernel, rfl⟩
theorem dX8_takesBlock_90 : uD 1 cX8_takesBlock 90 (.laload) 91 := ⟨by decide +kernel, rfl⟩
theorem dX8_takesBlock_91 : uD 3 cX8_takesBlock 91 (.invokestatic 233) 94 := ⟨by decide +kernel, rfl⟩
theorem dX8_takesBlock_94 : uD 1 cX8_takesBlock 94 (.lastore) 95 := ⟨by decide +kernel, rfl⟩
theorem dX8_takesBlock_95 : uD 1 cX8_takesBlock 95 (.aload_n 0) 96 := ⟨by decide +kernel, rfl⟩
theorem dX8_takesBlock_96 : uD 3 cX8_takesBlock 96 (.getfield 37) 99 := ⟨by decide +kernel, rfl⟩
theorem dX8_takesBlock_99 : uD 1 cX8_takesBlock 99 (.iconst 3) 100 := ⟨by decide +kernel, rfl⟩
theorem dX8_takesBlock_100 : uD 2 cX8_takesBlock 100 (.iload 6) 102 := ⟨by decide +kernel, rfl⟩
theorem dX8_takesBlock_102 : uD 1 cX8_takesBlock 102 (.imul) 103 := ⟨by decide +kernel, rfl⟩
theorem dX8_takesBlock_103 : uD 1 cX8_takesBlock 103 (.iconst 1) 104 := ⟨by decide +kernel, rfl⟩
theorem dX8_takesBlock_104 : uD 1 cX8_takesBlock 104 (.iadd) 105 := ⟨by decide +kernel, rfl⟩
theorem dX8_takesBlock_105 : uD 1 cX8_takesBlock 105 (.aload_n 0) 106 := ⟨by decide +kernel, rfl⟩
theorem dX8_takesBlock_106 : uD 3 cX8_takesBlock 106 (.getfield 37) 109 := ⟨by decide +kernel, rfl⟩
theorem dX8_takesBlock_109 : uD 1 cX8_takesBlock 109 (.iconst 3) 110 := ⟨by decide +kernel, rfl⟩
theorem dX8_takesBlock_110 : uD 2 cX8_takesBlock 110 (.iload 6) 112 := ⟨by decide +kernel, rfl⟩
theorem dX8_takesBlock_112 : uD 1 cX8_takesBlock 112 (.imul) 113 := ⟨by decide +kernel, rfl⟩
theorem dX8_takesBlock_113 : uD 1 cX8_takesBlock 113 (.iconst 1) 114 := ⟨by decide +kernel, rfl⟩
theorem dX8_takesBlock_114 : uD 1 cX8_takesBlock 114 (.iadd) 115 := ⟨by decide +kernel, rfl⟩
theorem dX8_takesBlock_115 : uD 1 cX8_takesBlock 115 (.laload) 116 := ⟨by decide +kernel, rfl⟩
theorem dX8_takesBlock_116 : uD 1 cX8_takesBlock 116 (.aload_n 0) 117 := ⟨by decide +kernel, rfl⟩
theorem dX8_takesBlock_117 : uD 3 cX8_takesBlock 117 (.getfield 33) 120 := ⟨by decide +kernel, rfl⟩
theorem dX8_takesBlock_120 : uD 1 cX8_takesBlock 120 (.iconst 3) 121 := ⟨by decide +kernel, rfl⟩
theorem dX8_takesBlock_121 : uD 2 cX8_takesBlock 121 (.iload 6) 123 := ⟨by decide +kernel, rfl⟩
theorem dX8_takesBlock_123 : uD 1 cX8_takesBlock 123 (.imul) 124 := ⟨by decide +kernel, rfl⟩
theorem dX8_takesBlock_124 : uD 1 cX8_takesBlock 124 (.iconst 1) 125 := ⟨by decide +kernel, rfl⟩
theorem dX8_takesBlock_125 : uD 1 cX8_takesBlock 125 (.iadd) 126 := ⟨by decide +kernel, rfl⟩
theorem dX8_takesBlock_126 : uD 1 cX8_takesBlock 126 (.laload) 127 := ⟨by decide +kernel, rfl⟩
theorem dX8_takesBlock_127 : uD 1 cX8_takesBlock 127 (.aload_n 0) 128 := ⟨by decide +kernel, rfl⟩
theorem dX8_takesBlock_128 : uD 3 cX8_takesBlock 128 (.getfield 33) 131 := ⟨by decide +kernel, rfl⟩
theorem dX8_takesBlock_131 : uD 1 cX8_takesBlock 131 (.iconst 3) 132 := ⟨by decide +kernel, rfl⟩
theorem dX8_takesBlock_132 : uD 2 cX8_takesBlock 132 (.iload 6) 134 := ⟨by decide +kernel, rfl⟩
theorem dX8_takesBlock_134 : uD 1 cX8_takesBlock 134 (.imul) 135 := ⟨by decide +kernel, rfl⟩
theorem dX8_takesBlock_135 : uD 1 cX8_takesBlock 135 (.iconst 2) 136 := ⟨by decide +kernel, rfl⟩
theorem dX8_takesBlock_136 : uD 1 cX8_takesBlock 136 (.iadd) 137 := ⟨by decide +kernel, rfl⟩
theorem dX8_takesBlock_137 : uD 1 cX8_takesBlock 137 (.laload) 138 := ⟨by decide +kernel, rfl⟩
theorem dX8_takesBlock_138 : uD 3 cX8_takesBlock 138 (.invokestatic 233) 141 := ⟨by decide +kernel, rfl⟩
theorem dX8_takesBlock_141 : uD 3 cX8_takesBlock 141 (.invokestatic 233) 144 := ⟨by decide +kernel, rfl⟩
theorem dX8_takesBlock_144 : uD 1 cX8_takesBlock 144 (.lastore) 145 := ⟨by decide +kernel, rfl⟩
theorem dX8_takesBlock_145 : uD 1 cX8_takesBlock 145 (.iconst 0) 146 := ⟨by decide +kernel, rfl⟩
theorem dX8_takesBlock_146 : uD 2 cX8_takesBlock 146 (.istore 7) 148 := ⟨by decide +kernel, rfl⟩
theorem dX8_takesBlock_148 : uD 2 cX8_takesBlock 148 (.iload 7) 150 := ⟨by decide +kernel, rfl⟩
theorem dX8_takesBlock_150 : uD 1 cX8_takesBlock 150 (.iconst 3) 151 := ⟨by decide +kernel, rfl⟩
theorem dX8_takesBlock_151 : uJ cX8_takesBlock 151 (fun o => .if_icmp .ge o) 284 154 := ⟨133, by decide +kernel, by decide, rfl⟩
theorem dX8_takesBlock_154 : uD 2 cX8_takesBlock 154 (.iload 6) 156 := ⟨by decide +kernel, rfl⟩
theorem dX8_takesBlock_156 : uD 1 cX8_takesBlock 156 (.aload_n 0) 157 := ⟨by decide +kernel, rfl⟩
theorem dX8_takesBlock_157 : uD 3 cX8_takesBlock 157 (.getfield 7) 160 := ⟨by decide +kernel, rfl⟩
theorem dX8_takesBlock_160 : uD 1 cX8_takesBlock 160 (.iload_n 3) 161 := ⟨by decide +kernel, rfl⟩
theorem dX8_takesBlock_161 : uD 1 cX8_takesBlock 161 (.iconst 2) 162 := ⟨by decide +kernel, rfl⟩
theorem dX8_takesBlock_162 : uD 1 cX8_takesBlock 162 (.iadd) 163 := ⟨by decide +kernel, rfl⟩
theorem dX8_takesBlock_163 : uD 1 cX8_takesBlock 163 (.iaload) 164 := ⟨by decide +kernel, rfl⟩
theorem dX8_takesBlock_164 : uD 1 cX8_takesBlock 164 (.iadd) 165 := ⟨by decide +kernel, rfl⟩
theorem dX8_takesBlock_165 : uD 2 cX8_takesBlock 165 (.iload 7) 167 := ⟨by decide +kernel, rfl⟩
theorem dX8_takesBlock_167 : uD 1 cX8_takesBlock 167 (.iconst 2) 168 := ⟨by decide +kernel, rfl⟩
theorem dX8_takesBlock_168 : uJ cX8_takesBlock 168 (fun o => .if_icmp .ne o) 179 171 := ⟨11, by decide +kernel, by decide, rfl⟩
theorem dX8_takesBlock_171 : uD 1 cX8_takesBlock 171 (.iload_n 2) 172 := ⟨by decide +kernel, rfl⟩
theorem dX8_takesBlock_172 : uJ cX8_takesBlock 172 (fun o => .ifCond .eq o) 179 175 := ⟨7, by decide +kernel, by decide, rfl⟩
theorem dX8_takesBlock_175 : uD 1 cX8_takesBlock 175 (.iconst 0) 176 := ⟨by decide +kernel, rfl⟩
theorem dX8_takesBlock_176 : uJ cX8_takesBlock 176 (fun o => .goto o) 187 179 := ⟨11, by decide +kernel, by decide, rfl⟩
theorem dX8_takesBlock_179 : uD 1 cX8_takesBlock 179 (.aload_n 0) 180 := ⟨by decide +kernel, rfl⟩
theorem dX8_takesBlock_180 : uD 3 cX8_takesBlock 180 (.getfield 7) 183 := ⟨by decide +kernel, rfl⟩
theorem dX8_takesBlock_183 : uD 1 cX8_takesBlock 183 (.iload_n 3) 184 := ⟨by decide +kernel, rfl⟩
theorem dX8_takesBlock_184 : uD 1 cX8_takesBlock 184 (.iconst 1) 185 := ⟨by decide +kernel, rfl⟩
theorem dX8_takesBlock_185 : uD 1 cX8_takesBlock 185 (.iadd) 186 := ⟨by decide +kernel, rfl⟩
theorem dX8_takesBlock_186 : uD 1 cX8_takesBlock 186 (.iaload) 187 := ⟨by decide +kernel, rfl⟩
theorem dX8_takesBlock_187 : uD 1 cX8_takesBlock 187 (.iadd) 188 := ⟨by decide +kernel, rfl⟩
theorem dX8_takesBlock_188 : uD 2 cX8_takesBlock 188 (.iload 7) 190 := ⟨by decide +kernel, rfl⟩
theorem dX8_takesBlock_190 : uJ cX8_takesBlock 190 (fun o => .ifCond .ne o) 204 193 := ⟨14, by decide +kernel, by decide, rfl⟩
theorem dX8_takesBlock_193 : uD 1 cX8_takesBlock 193 (.aload_n 0) 194 := ⟨by decide +kernel, rfl⟩
theorem dX8_takesBlock_194 : uD 3 cX8_takesBlock 194 (.getfield 7) 197 := ⟨by decide +kernel, rfl⟩
theorem dX8_takesBlock_197 : uD 1 cX8_takesBlock 197 (.iload_n 3) 198 := ⟨by decide +kernel, rfl⟩
theorem dX8_takesBlock_198 : uD 1 cX8_takesBlock 198 (.iconst 0) 199 := ⟨by decide +kernel, rfl⟩
theorem dX8_takesBlock_199 : uD 1 cX8_takesBlock 199 (.iadd) 200 := ⟨by decide +kernel, rfl⟩
theorem dX8_takesBlock_200 : uD 1 cX8_takesBlock 200 (.iaload) 201 := ⟨by decide +kernel, rfl⟩
theorem dX8_takesBlock_201 : uJ cX8_takesBlock 201 (fun o => .goto o) 205 204 := ⟨4, by decide +kernel, by decide, rfl⟩
theorem dX8_takesBlock_204 : uD 1 cX8_takesBlock 204 (.iconst 0) 205 := ⟨by decide +kernel, rfl⟩
theorem dX8_takesBlock_205 : uD 1 cX8_takesBlock 205 (.iadd) 206 := ⟨by decide +kernel, rfl⟩
theorem dX8_takesBlock_206 : uD 2 cX8_takesBlock 206 (.istore 8) 208 := ⟨by decide +kernel, rfl⟩
theorem dX8_takesBlock_208 : uD 1 cX8_takesBlock 208 (.aload_n 0) 209 := ⟨by decide +kernel, rfl⟩
theorem dX8_takesBlock_209 : uD 3 cX8_takesBlock 209 (.getfield 33) 212 := ⟨by decide +kernel, rfl⟩
theorem dX8_takesBlock_212 : uD 1 cX8_takesBlock 212 (.iconst 3) 213 := ⟨by decide +kernel, rfl⟩
theorem dX8_takesBlock_213 : uD 2 cX8_takesBlock 213 (.iload 6) 215 := ⟨by decide +kernel, rfl⟩
theorem dX8_takesBlock_215 : uD 1 cX8_takesBlock 215 (.imul) 216 := ⟨by decide +kernel, rfl⟩
theorem dX8_takesBlock_216 : uD 2 cX8_takesBlock 216 (.iload 7) 218 := ⟨by decide +kernel, rfl⟩
theorem dX8_takesBlock_218 : uD 1 cX8_takesBlock 218 (.iadd) 219 := ⟨by decide +kernel, rfl⟩
theorem dX8_takesBlock_219 : uD 1 cX8_takesBlock 219 (.laload) 220 := ⟨by decide +kernel, rfl⟩
theorem dX8_takesBlock_220 : uD 3 cX8_takesBlock 220 (.ldc2_w 237) 223 := ⟨by decide +kernel, rfl⟩
theorem dX8_takesBlock_223 : uD 1 cX8_takesBlock 223 (.lcmp) 224 := ⟨by decide +kernel, rfl⟩
theorem dX8_takesBlock_224 : uJ cX8_takesBlock 224 (fun o => .ifCond .eq o) 278 227 := ⟨54, by decide +kernel, by decide, rfl⟩
theorem dX8_takesBlock_227 : uD 2 cX8_takesBlock 227 (.iload 8) 229 := ⟨by decide +kernel, rfl⟩
theorem dX8_takesBlock_229 : uD 3 cX8_takesBlock 229 (.sipush 500) 232 := ⟨by decide +kernel, rfl⟩
theorem dX8_takesBlock_232 : uJ cX8_takesBlock 232 (fun o => .if_icmp .le o) 238 235 := ⟨6, by decide +kernel, by decide, rfl⟩
theorem dX8_takesBlock_235 : uJ cX8_takesBlock 235 (fun o => .goto o) 278 238 := ⟨43, by decide +kernel, by decide, rfl⟩
theorem dX8_takesBlock_238 : uD 1 cX8_takesBlock 238 (.aload_n 0) 239 := ⟨by decide +kernel, rfl⟩
theorem dX8_takesBlock_239 : uD 3 cX8_takesBlock 239 (.getfield 37) 242 := ⟨by decide +kernel, rfl⟩
theorem dX8_takesBlock_242 : uD 1 cX8_takesBlock 242 (.iconst 3) 243 := ⟨by decide +kernel, rfl⟩
theorem dX8_takesBlock_243 : uD 2 cX8_takesBlock 243 (.iload 8) 245 := ⟨by decide +kernel, rfl⟩
theorem dX8_takesBlock_245 : uD 1 cX8_takesBlock 245 (.imul) 246 := ⟨by decide +kernel, rfl⟩
theorem dX8_takesBlock_246 : uD 1 cX8_takesBlock 246 (.iconst 2) 247 := ⟨by decide +kernel, rfl⟩
theorem dX8_takesBlock_247 : uD 1 cX8_takesBlock 247 (.iadd) 248 := ⟨by decide +kernel, rfl⟩
theorem dX8_takesBlock_248 : uD 1 cX8_takesBlock 248 (.aload_n 0) 249 := ⟨by decide +kernel, rfl⟩
theorem dX8_takesBlock_249 : uD 3 cX8_takesBlock 249 (.getfield 37) 252 := ⟨by decide +kernel, rfl⟩
theorem dX8_takesBlock_252 : uD 1 cX8_takesBlock 252 (.iconst 3) 253 := ⟨by decide +kernel, rfl⟩
theorem dX8_takesBlock_253 : uD 2 cX8_takesBlock 253 (.iload 8) 255 := ⟨by decide +kernel, rfl⟩
theorem dX8_takesBlock_255 : uD 1 cX8_takesBlock 255 (.imul) 256 := ⟨by decide +kernel, rfl⟩
theorem dX8_takesBlock_256 : uD 1 cX8_takesBlock 256 (.iconst 2) 257 := ⟨by decide +kernel, rfl⟩
theorem dX8_takesBlock_257 : uD 1 cX8_takesBlock 257 (.iadd) 258 := ⟨by decide +kernel, rfl⟩
theorem dX8_takesBlock_258 : uD 1 cX8_takesBlock 258 (.laload) 259 := ⟨by decide +kernel, rfl⟩
theorem dX8_takesBlock_259 : uD 1 cX8_takesBlock 259 (.aload_n 0) 260 := ⟨by decide +kernel, rfl⟩
theorem dX8_takesBlock_260 : uD 3 cX8_takesBlock 260 (.getfield 33) 263 := ⟨by decide +kernel, rfl⟩
theorem dX8_takesBlock_263 : uD 1 cX8_takesBlock 263 (.iconst 3) 264 := ⟨by decide +kernel, rfl⟩
theorem dX8_takesBlock_264 : uD 2 cX8_takesBlock 264 (.iload 6) 266 := ⟨by decide +kernel, rfl⟩
theorem dX8_takesBlock_266 : uD 1 cX8_takesBlock 266 (.imul) 267 := ⟨by decide +kernel, rfl⟩
theorem dX8_takesBlock_267 : uD 2 cX8_takesBlock 267 (.iload 7) 269 := ⟨by decide +kernel, rfl⟩
theorem dX8_takesBlock_269 : uD 1 cX8_takesBlock 269 (.iadd) 270 := ⟨by decide +kernel, rfl⟩
theorem dX8_takesBlock_270 : uD 1 cX8_takesBlock 270 (.laload) 271 := ⟨by decide +kernel, rfl⟩
theorem dX8_takesBlock_271 : uD 2 cX8_takesBlock 271 (.lload 4) 273 := ⟨by decide +kernel, rfl⟩
theorem dX8_takesBlock_273 : uD 1 cX8_takesBlock 273 (.ladd) 274 := ⟨by decide +kernel, rfl⟩
theorem dX8_takesBlock_274 : uD 3 cX8_takesBlock 274 (.invokestatic 233) 277 := ⟨by decide +kernel, rfl⟩
theorem dX8_takesBlock_277 : uD 1 cX8_takesBlock 277 (.lastore) 278 := ⟨by decide +kernel, rfl⟩
theorem dX8_takesBlock_278 : uD 3 cX8_takesBlock 278 (.iinc 7 1) 281 := ⟨by decide +kernel, rfl⟩
theorem dX8_takesBlock_281 : uJ cX8_takesBlock 281 (fun o => .goto o) 148 284 := ⟨(-133), by decide +kernel, by decide, rfl⟩
theorem dX8_takesBlock_284 : uD 3 cX8_takesBlock 284 (.iinc 6 1) 287 := ⟨by decide +kernel, rfl⟩
theorem dX8_takesBlock_287 : uJ cX8_takesBlock 287 (fun o => .goto o) 57 290 := ⟨(-230), by decide +kernel, by decide, rfl⟩
theorem dX8_takesBlock_290 : uD 1 cX8_takesBlock 290 (.iconst 0) 291 := ⟨by decide +kernel, rfl⟩
theorem dX8_takesBlock_291 : uD 2 cX8_takesBlock 291 (.istore 6) 293 := ⟨by decide +kernel, rfl⟩
theorem dX8_takesBlock_293 : uD 2 cX8_takesBlock 293 (.iload 6) 295 := ⟨by decide +kernel, rfl⟩
theorem dX8_takesBlock_295 : uD 3 cX8_takesBlock 295 (.sipush 1503) 298 := ⟨by decide +kernel, rfl⟩
theorem dX8_takesBlock_298 : uJ cX8_takesBlock 298 (fun o => .if_icmp .ge o) 321 301 := ⟨23, by decide +kernel, by decide, rfl⟩
theorem dX8_takesBlock_301 : uD 1 cX8_takesBlock 301 (.aload_n 0) 302 := ⟨by decide +kernel, rfl⟩
theorem dX8_takesBlock_302 : uD 3 cX8_takesBlock 302 (.getfield 33) 305 := ⟨by decide +kernel, rfl⟩
theorem dX8_takesBlock_305 : uD 2 cX8_takesBlock 305 (.iload 6) 307 := ⟨by decide +kernel, rfl⟩
theorem dX8_takesBlock_307 : uD 1 cX8_takesBlock 307 (.aload_n 0) 308 := ⟨by decide +kernel, rfl⟩
theorem dX8_takesBlock_308 : uD 3 cX8_takesBlock 308 (.getfield 37) 311 := ⟨by decide +kernel, rfl⟩
theorem dX8_takesBlock_311 : uD 2 cX8_takesBlock 311 (.iload 6) 313 := ⟨by decide +kernel, rfl⟩
theorem dX8_takesBlock_313 : uD 1 cX8_takesBlock 313 (.laload) 314 := ⟨by decide +kernel, rfl⟩
theorem dX8_takesBlock_314 : uD 1 cX8_takesBlock 314 (.lastore) 315 := ⟨by decide +kernel, rfl⟩
theorem dX8_takesBlock_315 : uD 3 cX8_takesBlock 315 (.iinc 6 1) 318 := ⟨by decide +kernel, rfl⟩
theorem dX8_takesBlock_318 : uJ cX8_takesBlock 318 (fun o => .goto o) 293 321 := ⟨(-25), by decide +kernel, by decide, rfl⟩
theorem dX8_takesBlock_321 : uD 1 cX8_takesBlock 321 (.return_) 322 := ⟨by decide +kernel, rfl⟩
theorem dX8_weighs_0 : uD 1 cX8_weighs 0 (.iconst 0) 1 := ⟨by decide +kernel, rfl⟩
theorem dX8_weighs_1 : uD 1 cX8_weighs 1 (.istore_n 2) 2 := ⟨by decide +kernel, rfl⟩
theorem dX8_weighs_2 : uD 1 cX8_weighs 2 (.iload_n 2) 3 := ⟨by decide +kernel, rfl⟩
theorem dX8_weighs_3 : uD 3 cX8_weighs 3 (.sipush 1503) 6 := ⟨by decide +kernel, rfl⟩
theorem dX8_weighs_6 : uJ cX8_weighs 6 (fun o => .if_icmp .ge o) 24 9 := ⟨18, by decide +kernel, by decide, rfl⟩
theorem dX8_weighs_9 : uD 1 cX8_weighs 9 (.aload_n 0) 10 := ⟨by decide +kernel, rfl⟩
theorem dX8_weighs_10 : uD 3 cX8_weighs 10 (.getfield 33) 13 := ⟨by decide +kernel, rfl⟩
theorem dX8_weighs_13 : uD 1 cX8_weighs 13 (.iload_n 2) 14 := ⟨by decide +kernel, rfl⟩
theorem dX8_weighs_14 : uD 3 cX8_weighs 14 (.ldc2_w 237) 17 := ⟨by decide +kernel, rfl⟩
theorem dX8_weighs_17 : uD 1 cX8_weighs 17 (.lastore) 18 := ⟨by decide +kernel, rfl⟩
theorem dX8_weighs_18 : uD 3 cX8_weighs 18 (.iinc 2 1) 21 := ⟨by decide +kernel, rfl⟩
theorem dX8_weighs_21 : uJ cX8_weighs 21 (fun o => .goto o) 2 24 := ⟨(-19), by decide +kernel, by decide, rfl⟩
theorem dX8_weighs_24 : uD 1 cX8_weighs 24 (.aload_n 0) 25 := ⟨by decide +kernel, rfl⟩
theorem dX8_weighs_25 : uD 3 cX8_weighs 25 (.getfield 33) 28 := ⟨by decide +kernel, rfl⟩
theorem dX8_weighs_28 : uD 1 cX8_weighs 28 (.iconst 0) 29 := ⟨by decide +kernel, rfl⟩
theorem dX8_weighs_29 : uD 1 cX8_weighs 29 (.lconst 0) 30 := ⟨by decide +kernel, rfl⟩
theorem dX8_weighs_30 : uD 1 cX8_weighs 30 (.lastore) 31 := ⟨by decide +kernel, rfl⟩
theorem dX8_weighs_31 : uD 1 cX8_weighs 31 (.iconst 0) 32 := ⟨by decide +kernel, rfl⟩
theorem dX8_weighs_32 : uD 1 cX8_weighs 32 (.istore_n 2) 33 := ⟨by decide +kernel, rfl⟩
theorem dX8_weighs_33 : uD 1 cX8_weighs 33 (.iload_n 2) 34 := ⟨by decide +kernel, rfl⟩
theorem dX8_weighs_34 : uD 1 cX8_weighs 34 (.aload_n 0) 35 := ⟨by decide +kernel, rfl⟩
theorem dX8_weighs_35 : uD 3 cX8_weighs 35 (.getfield 7) 38 := ⟨by decide +kernel, rfl⟩
theorem dX8_weighs_38 : uD 2 cX8_weighs 38 (.bipush 36) 40 := ⟨by decide +kernel, rfl⟩
theorem dX8_weighs_40 : uD 1 cX8_weighs 40 (.iaload) 41 := ⟨by decide +kernel, rfl⟩
theorem dX8_weighs_41 : uJ cX8_weighs 41 (fun o => .if_icmp .ge o) 128 44 := ⟨87, by decide +kernel, by decide, rfl⟩
theorem dX8_weighs_44 : uD 1 cX8_weighs 44 (.iload_n 2) 45 := ⟨by decide +kernel, rfl⟩
theorem dX8_weighs_45 : uJ cX8_weighs 45 (fun o => .ifCond .le o) 67 48 := ⟨22, by decide +kernel, by decide, rfl⟩
theorem dX8_weighs_48 : uD 1 cX8_weighs 48 (.aload_n 0) 49 := ⟨by decide +kernel, rfl⟩
theorem dX8_weighs_49 : uD 1 cX8_weighs 49 (.iload_n 2) 50 := ⟨by decide +kernel, rfl⟩
theorem dX8_weighs_50 : uD 1 cX8_weighs 50 (.iconst 1) 51 := ⟨by decide +kernel, rfl⟩
theorem dX8_weighs_51 : uD 1 cX8_weighs 51 (.isub) 52 := ⟨by decide +kernel, rfl⟩
theorem dX8_weighs_52 : uD 3 cX8_weighs 52 (.invokevirtual 166) 55 := ⟨by decide +kernel, rfl⟩
theorem dX8_weighs_55 : uD 1 cX8_weighs 55 (.aload_n 0) 56 := ⟨by decide +kernel, rfl⟩
theorem dX8_weighs_56 : uD 1 cX8_weighs 56 (.iload_n 2) 57 := ⟨by decide +kernel, rfl⟩
theorem dX8_weighs_57 : uD 3 cX8_weighs 57 (.invokevirtual 166) 60 := ⟨by decide +kernel, rfl⟩
theorem dX8_weighs_60 : uJ cX8_weighs 60 (fun o => .if_icmp .ne o) 67 63 := ⟨7, by decide +kernel, by decide, rfl⟩
theorem dX8_weighs_63 : uD 1 cX8_weighs 63 (.iconst 1) 64 := ⟨by decide +kernel, rfl⟩
theorem dX8_weighs_64 : uJ cX8_weighs 64 (fun o => .goto o) 68 67 := ⟨4, by decide +kernel, by decide, rfl⟩
theorem dX8_weighs_67 : uD 1 cX8_weighs 67 (.iconst 0) 68 := ⟨by decide +kernel, rfl⟩
theorem dX8_weighs_68 : uD 1 cX8_weighs 68 (.istore_n 3) 69 := ⟨by decide +kernel, rfl⟩
theorem dX8_weighs_69 : uD 1 cX8_weighs 69 (.iload_n 3) 70 := ⟨by decide +kernel, rfl⟩
theorem dX8_weighs_70 : uJ cX8_weighs 70 (fun o => .ifCond .ne o) 77 73 := ⟨7, by decide +kernel, by decide, rfl⟩
theorem dX8_weighs_73 : uD 1 cX8_weighs 73 (.aload_n 0) 74 := ⟨by decide +kernel, rfl⟩
theorem dX8_weighs_74 : uD 3 cX8_weighs 74 (.invokevirtual 239) 77 := ⟨by decide +kernel, rfl⟩
theorem dX8_weighs_77 : uD 1 cX8_weighs 77 (.iload_n 1) 78 := ⟨by decide +kernel, rfl⟩
theorem dX8_weighs_78 : uD 1 cX8_weighs 78 (.aload_n 0) 79 := ⟨by decide +kernel, rfl⟩
theorem dX8_weighs_79 : uD 1 cX8_weighs 79 (.iload_n 2) 80 := ⟨by decide +kernel, rfl⟩
theorem dX8_weighs_80 : uD 3 cX8_weighs 80 (.invokevirtual 166) 83 := ⟨by decide +kernel, rfl⟩
theorem dX8_weighs_83 : uD 3 cX8_weighs 83 (.invokestatic 144) 86 := ⟨by decide +kernel, rfl⟩
theorem dX8_weighs_86 : uJ cX8_weighs 86 (fun o => .ifCond .ne o) 122 89 := ⟨36, by decide +kernel, by decide, rfl⟩
theorem dX8_weighs_89 : uD 1 cX8_weighs 89 (.aload_n 0) 90 := ⟨by decide +kernel, rfl⟩
theorem dX8_weighs_90 : uD 1 cX8_weighs 90 (.iload_n 2) 91 := ⟨by decide +kernel, rfl⟩
theorem dX8_weighs_91 : uD 1 cX8_weighs 91 (.iload_n 3) 92 := ⟨by decide +kernel, rfl⟩
theorem dX8_weighs_92 : uJ cX8_weighs 92 (fun o => .ifCond .eq o) 118 95 := ⟨26, by decide +kernel, by decide, rfl⟩
theorem dX8_weighs_95 : uD 1 cX8_weighs 95 (.aload_n 0) 96 := ⟨by decide +kernel, rfl⟩
theorem dX8_weighs_96 : uD 1 cX8_weighs 96 (.iload_n 2) 97 := ⟨by decide +kernel, rfl⟩
theorem dX8_weighs_97 : uD 1 cX8_weighs 97 (.iconst 1) 98 := ⟨by decide +kernel, rfl⟩
theorem dX8_weighs_98 : uD 1 cX8_weighs 98 (.isub) 99 := ⟨by decide +kernel, rfl⟩
theorem dX8_weighs_99 : uD 1 cX8_weighs 99 (.iconst 0) 100 := ⟨by decide +kernel, rfl⟩
theorem dX8_weighs_100 : uD 3 cX8_weighs 100 (.invokevirtual 160) 103 := ⟨by decide +kernel, rfl⟩
theorem dX8_weighs_103 : uD 1 cX8_weighs 103 (.iconst 1) 104 := ⟨by decide +kernel, rfl⟩
theorem dX8_weighs_104 : uD 1 cX8_weighs 104 (.iadd) 105 := ⟨by decide +kernel, rfl⟩
theorem dX8_weighs_105 : uD 1 cX8_weighs 105 (.aload_n 0) 106 := ⟨by decide +kernel, rfl⟩
theorem dX8_weighs_106 : uD 1 cX8_weighs 106 (.iload_n 2) 107 := ⟨by decide +kernel, rfl⟩
theorem dX8_weighs_107 : uD 1 cX8_weighs 107 (.iconst 0) 108 := ⟨by decide +kernel, rfl⟩
theorem dX8_weighs_108 : uD 3 cX8_weighs 108 (.invokevirtual 160) 111 := ⟨by decide +kernel, rfl⟩
theorem dX8_weighs_111 : uJ cX8_weighs 111 (fun o => .if_icmp .ne o) 118 114 := ⟨7, by decide +kernel, by decide, rfl⟩
theorem dX8_weighs_114 : uD 1 cX8_weighs 114 (.iconst 1) 115 := ⟨by decide +kernel, rfl⟩
theorem dX8_weighs_115 : uJ cX8_weighs 115 (fun o => .goto o) 119 118 := ⟨4, by decide +kernel, by decide, rfl⟩
theorem dX8_weighs_118 : uD 1 cX8_weighs 118 (.iconst 0) 119 := ⟨by decide +kernel, rfl⟩
theorem dX8_weighs_119 : uD 3 cX8_weighs 119 (.invokevirtual 242) 122 := ⟨by decide +kernel, rfl⟩
theorem dX8_weighs_122 : uD 3 cX8_weighs 122 (.iinc 2 1) 125 := ⟨by decide +kernel, rfl⟩
theorem dX8_weighs_125 : uJ cX8_weighs 125 (fun o => .goto o) 33 128 := ⟨(-92), by decide +kernel, by decide, rfl⟩
theorem dX8_weighs_128 : uD 1 cX8_weighs 128 (.aload_n 0) 129 := ⟨by decide +kernel, rfl⟩
theorem dX8_weighs_129 : uD 3 cX8_weighs 129 (.invokevirtual 239) 132 := ⟨by decide +kernel, rfl⟩
theorem dX8_weighs_132 : uD 1 cX8_weighs 132 (.iconst 0) 133 := ⟨by decide +kernel, rfl⟩
theorem dX8_weighs_133 : uD 1 cX8_weighs 133 (.istore_n 2) 134 := ⟨by decide +kernel, rfl⟩
theorem dX8_weighs_134 : uD 1 cX8_weighs 134 (.iload_n 2) 135 := ⟨by decide +kernel, rfl⟩
theorem dX8_weighs_135 : uD 3 cX8_weighs 135 (.sipush 500) 138 := ⟨by decide +kernel, rfl⟩
theorem dX8_weighs_138 : uJ cX8_weighs 138 (fun o => .if_icmp .gt o) 161 141 := ⟨23, by decide +kernel, by decide, rfl⟩
theorem dX8_weighs_141 : uD 1 cX8_weighs 141 (.aload_n 0) 142 := ⟨by decide +kernel, rfl⟩
theorem dX8_weighs_142 : uD 3 cX8_weighs 142 (.getfield 40) 145 := ⟨by decide +kernel, rfl⟩
theorem dX8_weighs_145 : uD 1 cX8_weighs 145 (.iload_n 2) 146 := ⟨by decide +kernel, rfl⟩
theorem dX8_weighs_146 : uD 1 cX8_weighs 146 (.aload_n 0) 147 := ⟨by decide +kernel, rfl⟩
theorem dX8_weighs_147 : uD 3 cX8_weighs 147 (.getfield 33) 150 := ⟨by decide +kernel, rfl⟩
theorem dX8_weighs_150 : uD 1 cX8_weighs 150 (.iconst 3) 151 := ⟨by decide +kernel, rfl⟩
theorem dX8_weighs_151 : uD 1 cX8_weighs 151 (.iload_n 2) 152 := ⟨by decide +kernel, rfl⟩
theorem dX8_weighs_152 : uD 1 cX8_weighs 152 (.imul) 153 := ⟨by decide +kernel, rfl⟩
theorem dX8_weighs_153 : uD 1 cX8_weighs 153 (.laload) 154 := ⟨by decide +kernel, rfl⟩
theorem dX8_weighs_154 : uD 1 cX8_weighs 154 (.lastore) 155 := ⟨by decide +kernel, rfl⟩
theorem dX8_weighs_155 : uD 3 cX8_weighs 155 (.iinc 2 1) 158 := ⟨by decide +kernel, rfl⟩
theorem dX8_weighs_158 : uJ cX8_weighs 158 (fun o => .goto o) 134 161 := ⟨(-24), by decide +kernel, by decide, rfl⟩
theorem dX8_weighs_161 : uD 1 cX8_weighs 161 (.return_) 162 := ⟨by decide +kernel, rfl⟩
theorem dX8_valueBy_0 : uD 1 cX8_valueBy 0 (.aload_n 0) 1 := ⟨by decide +kernel, rfl⟩
theorem dX8_valueBy_1 : uD 3 cX8_valueBy 1 (.getfield 40) 4 := ⟨by decide +kernel, rfl⟩
theorem dX8_valueBy_4 : uD 1 cX8_valueBy 4 (.iload_n 1) 5 := ⟨by decide +kernel, rfl⟩
theorem dX8_valueBy_5 : uD 1 cX8_valueBy 5 (.laload) 6 := ⟨by decide +kernel, rfl⟩
theorem dX8_valueBy_6 : uD 3 cX8_valueBy 6 (.ldc2_w 237) 9 := ⟨by decide +kernel, rfl⟩
theorem dX8_valueBy_9 : uD 1 cX8_valueBy 9 (.lcmp) 10 := ⟨by decide +kernel, rfl⟩
theorem dX8_valueBy_10 : uJ cX8_valueBy 10 (fun o => .ifCond .ne o) 17 13 := ⟨7, by decide +kernel, by decide, rfl⟩
theorem dX8_valueBy_13 : uD 1 cX8_valueBy 13 (.iconst (-1)) 14 := ⟨by decide +kernel, rfl⟩
theorem dX8_valueBy_14 : uJ cX8_valueBy 14 (fun o => .goto o) 33 17 := ⟨19, by decide +kernel, by decide, rfl⟩
theorem dX8_valueBy_17 : uD 1 cX8_valueBy 17 (.aload_n 0) 18 := ⟨by decide +kernel, rfl⟩
theorem dX8_valueBy_18 : uD 3 cX8_valueBy 18 (.getfield 40) 21 := ⟨by decide +kernel, rfl⟩
theorem dX8_valueBy_21 : uD 1 cX8_valueBy 21 (.iload_n 1) 22 := ⟨by decide +kernel, rfl⟩
theorem dX8_valueBy_22 : uD 1 cX8_valueBy 22 (.laload) 23 := ⟨by decide +kernel, rfl⟩
theorem dX8_valueBy_23 : uD 3 cX8_valueBy 23 (.ldc2_w 246) 26 := ⟨by decide +kernel, rfl⟩
theorem dX8_valueBy_26 : uD 1 cX8_valueBy 26 (.ladd) 27 := ⟨by decide +kernel, rfl⟩
theorem dX8_valueBy_27 : uD 1 cX8_valueBy 27 (.lconst 1) 28 := ⟨by decide +kernel, rfl⟩
theorem dX8_valueBy_28 : uD 1 cX8_valueBy 28 (.lsub) 29 := ⟨by decide +kernel, rfl⟩
theorem dX8_valueBy_29 : uD 2 cX8_valueBy 29 (.bipush 24) 31 := ⟨by decide +kernel, rfl⟩
theorem dX8_valueBy_31 : uD 1 cX8_valueBy 31 (.lshr) 32 := ⟨by decide +kernel, rfl⟩
theorem dX8_valueBy_32 : uD 1 cX8_valueBy 32 (.l2i) 33 := ⟨by decide +kernel, rfl⟩
theorem dX8_valueBy_33 : uD 1 cX8_valueBy 33 (.ireturn) 34 := ⟨by decide +kernel, rfl⟩
theorem dX8_leastOf_0 : uD 1 cX8_leastOf 0 (.iconst 0) 1 := ⟨by decide +kernel, rfl⟩
theorem dX8_leastOf_1 : uD 1 cX8_leastOf 1 (.istore_n 2) 2 := ⟨by decide +kernel, rfl⟩
theorem dX8_leastOf_2 : uD 1 cX8_leastOf 2 (.iconst 1) 3 := ⟨by decide +kernel, rfl⟩
theorem dX8_leastOf_3 : uD 1 cX8_leastOf 3 (.istore_n 3) 4 := ⟨by decide +kernel, rfl⟩
theorem dX8_leastOf_4 : uD 1 cX8_leastOf 4 (.iload_n 3) 5 := ⟨by decide +kernel, rfl⟩
theorem dX8_leastOf_5 : uD 1 cX8_leastOf 5 (.iload_n 1) 6 := ⟨by decide +kernel, rfl⟩
theorem dX8_leastOf_6 : uJ cX8_leastOf 6 (fun o => .if_icmp .gt o) 34 9 := ⟨28, by decide +kernel, by decide, rfl⟩
theorem dX8_leastOf_9 : uD 1 cX8_leastOf 9 (.aload_n 0) 10 := ⟨by decide +kernel, rfl⟩
theorem dX8_leastOf_10 : uD 1 cX8_leastOf 10 (.iload_n 3) 11 := ⟨by decide +kernel, rfl⟩
theorem dX8_leastOf_11 : uD 3 cX8_leastOf 11 (.invokevirtual 248) 14 := ⟨by decide +kernel, rfl⟩
theorem dX8_leastOf_14 : uD 1 cX8_leastOf 14 (.aload_n 0) 15 := ⟨by decide +kernel, rfl⟩
theorem dX8_leastOf_15 : uD 1 cX8_leastOf 15 (.iload_n 2) 16 := ⟨by decide +kernel, rfl⟩
theorem dX8_leastOf_16 : uD 3 cX8_leastOf 16 (.invokevirtual 248) 19 := ⟨by decide +kernel, rfl⟩
theorem dX8_leastOf_19 : uJ cX8_leastOf 19 (fun o => .if_icmp .le o) 26 22 := ⟨7, by decide +kernel, by decide, rfl⟩
theorem dX8_leastOf_22 : uD 1 cX8_leastOf 22 (.iload_n 3) 23 := ⟨by decide +kernel, rfl⟩
theorem dX8_leastOf_23 : uJ cX8_leastOf 23 (fun o => .goto o) 27 26 := ⟨4, by decide +kernel, by decide, rfl⟩
theorem dX8_leastOf_26 : uD 1 cX8_leastOf 26 (.iload_n 2) 27 := ⟨by decide +kernel, rfl⟩
theorem dX8_leastOf_27 : uD 1 cX8_leastOf 27 (.istore_n 2) 28 := ⟨by decide +kernel, rfl⟩
theorem dX8_leastOf_28 : uD 3 cX8_leastOf 28 (.iinc 3 1) 31 := ⟨by decide +kernel, rfl⟩
theorem dX8_leastOf_31 : uJ cX8_leastOf 31 (fun o => .goto o) 4 34 := ⟨(-27), by decide +kernel, by decide, rfl⟩
theorem dX8_leastOf_34 : uD 1 cX8_leastOf 34 (.iload_n 2) 35 := ⟨by decide +kernel, rfl⟩
theorem dX8_leastOf_35 : uD 1 cX8_leastOf 35 (.ireturn) 36 := ⟨by decide +kernel, rfl⟩
theorem dX8_bestOf_0 : uD 1 cX8_bestOf 0 (.aload_n 0) 1 := ⟨by decide +kernel, rfl⟩
theorem dX8_bestOf_1 : uD 1 cX8_bestOf 1 (.iload_n 1) 2 := ⟨by decide +kernel, rfl⟩
theorem dX8_bestOf_2 : uD 3 cX8_bestOf 2 (.invokevirtual 251) 5 := ⟨by decide +kernel, rfl⟩
theorem dX8_bestOf_5 : uD 1 cX8_bestOf 5 (.istore_n 2) 6 := ⟨by decide +kernel, rfl⟩
theorem dX8_bestOf_6 : uD 1 cX8_bestOf 6 (.aload_n 0) 7 := ⟨by decide +kernel, rfl⟩
theorem dX8_bestOf_7 : uD 1 cX8_bestOf 7 (.iload_n 2) 8 := ⟨by decide +kernel, rfl⟩
theorem dX8_bestOf_8 : uD 3 cX8_bestOf 8 (.invokevirtual 248) 11 := ⟨by decide +kernel, rfl⟩
theorem dX8_bestOf_11 : uD 1 cX8_bestOf 11 (.i2l) 12 := ⟨by decide +kernel, rfl⟩
theorem dX8_bestOf_12 : uD 2 cX8_bestOf 12 (.bipush 24) 14 := ⟨by decide +kernel, rfl⟩
theorem dX8_bestOf_14 : uD 1 cX8_bestOf 14 (.lshl) 15 := ⟨by decide +kernel, rfl⟩
theorem dX8_bestOf_15 : uD 1 cX8_bestOf 15 (.aload_n 0) 16 := ⟨by decide +kernel, rfl⟩
theorem dX8_bestOf_16 : uD 3 cX8_bestOf 16 (.getfield 40) 19 := ⟨by decide +kernel, rfl⟩
theorem dX8_bestOf_19 : uD 1 cX8_bestOf 19 (.iload_n 2) 20 := ⟨by decide +kernel, rfl⟩
theorem dX8_bestOf_20 : uD 1 cX8_bestOf 20 (.laload) 21 := ⟨by decide +kernel, rfl⟩
theorem dX8_bestOf_21 : uD 1 cX8_bestOf 21 (.lsub) 22 := ⟨by decide +kernel, rfl⟩
theorem dX8_bestOf_22 : uD 1 cX8_bestOf 22 (.l2i) 23 := ⟨by decide +kernel, rfl⟩
theorem dX8_bestOf_23 : uD 1 cX8_bestOf 23 (.ireturn) 24 := ⟨by decide +kernel, rfl⟩
theorem dX8_valueWithin_0 : uD 1 cX8_valueWithin 0 (.aload_n 0) 1 := ⟨by decide +kernel, rfl⟩
theorem dX8_valueWithin_1 : uD 1 cX8_valueWithin 1 (.iload_n 1) 2 := ⟨by decide +kernel, rfl⟩
theorem dX8_valueWithin_2 : uD 3 cX8_valueWithin 2 (.invokevirtual 224) 5 := ⟨by decide +kernel, rfl⟩
theorem dX8_valueWithin_5 : uD 1 cX8_valueWithin 5 (.aload_n 0) 6 := ⟨by decide +kernel, rfl⟩
theorem dX8_valueWithin_6 : uD 1 cX8_valueWithin 6 (.aload_n 0) 7 := ⟨by decide +kernel, rfl⟩
theorem dX8_valueWithin_7 : uD 1 cX8_valueWithin 7 (.iload_n 2) 8 := ⟨by decide +kernel, rfl⟩
theorem dX8_valueWithin_8 : uD 3 cX8_valueWithin 8 (.invokevirtual 251) 11 := ⟨by decide +kernel, rfl⟩
theorem dX8_valueWithin_11 : uD 3 cX8_valueWithin 11 (.invokevirtual 248) 14 := ⟨by decide +kernel, rfl⟩
theorem dX8_valueWithin_14 : uD 1 cX8_valueWithin 14 (.ireturn) 15 := ⟨by decide +kernel, rfl⟩
theorem dX8_need_0 : uD 1 cX8_need 0 (.aload_n 0) 1 := ⟨by decide +kernel, rfl⟩
theorem dX8_need_1 : uD 1 cX8_need 1 (.iconst 0) 2 := ⟨by decide +kernel, rfl⟩
theorem dX8_need_2 : uD 3 cX8_need 2 (.putfield 49) 5 := ⟨by decide +kernel, rfl⟩
theorem dX8_need_5 : uD 1 cX8_need 5 (.aload_n 0) 6 := ⟨by decide +kernel, rfl⟩
theorem dX8_need_6 : uD 3 cX8_need 6 (.invokevirtual 254) 9 := ⟨by decide +kernel, rfl⟩
theorem dX8_need_9 : uD 1 cX8_need 9 (.ireturn) 10 := ⟨by decide +kernel, rfl⟩
theorem dX8_isSet_0 : uD 1 cX8_isSet 0 (.iload_n 1) 1 := ⟨by decide +kernel, rfl⟩
theorem dX8_isSet_1 : uD 1 cX8_isSet 1 (.aload_n 0) 2 := ⟨by decide +kernel, rfl⟩
theorem dX8_isSet_2 : uD 3 cX8_isSet 2 (.invokevirtual 221) 5 := ⟨by decide +kernel, rfl⟩
theorem dX8_isSet_5 : uD 1 cX8_isSet 5 (.iconst (-1)) 6 := ⟨by decide +kernel, rfl⟩
theorem dX8_isSet_6 : uD 1 cX8_isSet 6 (.ixor) 7 := ⟨by decide +kernel, rfl⟩
theorem dX8_isSet_7 : uD 1 cX8_isSet 7 (.iand) 8 := ⟨by decide +kernel, rfl⟩
theorem dX8_isSet_8 : uJ cX8_isSet 8 (fun o => .ifCond .ne o) 15 11 := ⟨7, by decide +kernel, by decide, rfl⟩
theorem dX8_isSet_11 : uD 1 cX8_isSet 11 (.iconst 1) 12 := ⟨by decide +kernel, rfl⟩
theorem dX8_isSet_12 : uJ cX8_isSet 12 (fun o => .goto o) 16 15 := ⟨4, by decide +kernel, by decide, rfl⟩
theorem dX8_isSet_15 : uD 1 cX8_isSet 15 (.iconst 0) 16 := ⟨by decide +kernel, rfl⟩
theorem dX8_isSet_16 : uD 1 cX8_isSet 16 (.ireturn) 17 := ⟨by decide +kernel, rfl⟩
theorem dX8_energyOf_0 : uD 1 cX8_energyOf 0 (.aload_n 0) 1 := ⟨by decide +kernel, rfl⟩
theorem dX8_energyOf_1 : uD 1 cX8_energyOf 1 (.iconst 0) 2 := ⟨by decide +kernel, rfl⟩
theorem dX8_energyOf_2 : uD 3 cX8_energyOf 2 (.putfield 49) 5 := ⟨by decide +kernel, rfl⟩
theorem dX8_energyOf_5 : uD 1 cX8_energyOf 5 (.aload_n 0) 6 := ⟨by decide +kernel, rfl⟩
theorem dX8_energyOf_6 : uD 1 cX8_energyOf 6 (.aload_n 0) 7 := ⟨by decide +kernel, rfl⟩
theorem dX8_energyOf_7 : uD 1 cX8_energyOf 7 (.iload_n 1) 8 := ⟨by decide +kernel, rfl⟩
theorem dX8_energyOf_8 : uD 3 cX8_energyOf 8 (.invokevirtual 257) 11 := ⟨by decide +kernel, rfl⟩
theorem dX8_energyOf_11 : uD 1 cX8_energyOf 11 (.iconst 1) 12 := ⟨by decide +kernel, rfl⟩
theorem dX8_energyOf_12 : uD 3 cX8_energyOf 12 (.invokevirtual 55) 15 := ⟨by decide +kernel, rfl⟩
theorem dX8_energyOf_15 : uJ cX8_energyOf 15 (fun o => .ifCond .eq o) 26 18 := ⟨11, by decide +kernel, by decide, rfl⟩
theorem dX8_energyOf_18 : uD 1 cX8_energyOf 18 (.aload_n 0) 19 := ⟨by decide +kernel, rfl⟩
theorem dX8_energyOf_19 : uD 1 cX8_energyOf 19 (.iload_n 1) 20 := ⟨by decide +kernel, rfl⟩
theorem dX8_energyOf_20 : uD 3 cX8_energyOf 20 (.invokevirtual 175) 23 := ⟨by decide +kernel, rfl⟩
theorem dX8_energyOf_23 : uJ cX8_energyOf 23 (fun o => .goto o) 27 26 := ⟨4, by decide +kernel, by decide, rfl⟩
theorem dX8_energyOf_26 : uD 1 cX8_energyOf 26 (.iconst 0) 27 := ⟨by decide +kernel, rfl⟩
theorem dX8_energyOf_27 : uD 1 cX8_energyOf 27 (.ireturn) 28 := ⟨by decide +kernel, rfl⟩
theorem dX8_valueOf_0 : uD 1 cX8_valueOf 0 (.aload_n 0) 1 := ⟨by decide +kernel, rfl⟩
theorem dX8_valueOf_1 : uD 1 cX8_valueOf 1 (.iconst 0) 2 := ⟨by decide +kernel, rfl⟩
theorem dX8_valueOf_2 : uD 3 cX8_valueOf 2 (.putfield 49) 5 := ⟨by decide +kernel, rfl⟩
theorem dX8_valueOf_5 : uD 1 cX8_valueOf 5 (.aload_n 0) 6 := ⟨by decide +kernel, rfl⟩
theorem dX8_valueOf_6 : uD 1 cX8_valueOf 6 (.aload_n 0) 7 := ⟨by decide +kernel, rfl⟩
theorem dX8_valueOf_7 : uD 1 cX8_valueOf 7 (.iload_n 1) 8 := ⟨by decide +kernel, rfl⟩
theorem dX8_valueOf_8 : uD 3 cX8_valueOf 8 (.invokevirtual 257) 11 := ⟨by decide +kernel, rfl⟩
theorem dX8_valueOf_11 : uD 1 cX8_valueOf 11 (.iconst 1) 12 := ⟨by decide +kernel, rfl⟩
theorem dX8_valueOf_12 : uD 3 cX8_valueOf 12 (.invokevirtual 55) 15 := ⟨by decide +kernel, rfl⟩
theorem dX8_valueOf_15 : uJ cX8_valueOf 15 (fun o => .ifCond .eq o) 26 18 := ⟨11, by decide +kernel, by decide, rfl⟩
theorem dX8_valueOf_18 : uD 1 cX8_valueOf 18 (.aload_n 0) 19 := ⟨by decide +kernel, rfl⟩
theorem dX8_valueOf_19 : uD 1 cX8_valueOf 19 (.iload_n 1) 20 := ⟨by decide +kernel, rfl⟩
theorem dX8_valueOf_20 : uD 3 cX8_valueOf 20 (.invokevirtual 187) 23 := ⟨by decide +kernel, rfl⟩
theorem dX8_valueOf_23 : uJ cX8_valueOf 23 (fun o => .goto o) 27 26 := ⟨4, by decide +kernel, by decide, rfl⟩
theorem dX8_valueOf_26 : uD 1 cX8_valueOf 26 (.iconst 0) 27 := ⟨by decide +kernel, rfl⟩
theorem dX8_valueOf_27 : uD 1 cX8_valueOf 27 (.ireturn) 28 := ⟨by decide +kernel, rfl⟩
theorem dX8_isEnergy_0 : uD 1 cX8_isEnergy 0 (.iload_n 1) 1 := ⟨by decide +kernel, rfl⟩
theorem dX8_isEnergy_1 : uD 1 cX8_isEnergy 1 (.iconst 0) 2 := ⟨by decide +kernel, rfl⟩
theorem dX8_isEnergy_2 : uD 3 cX8_isEnergy 2 (.sipush 500) 5 := ⟨by decide +kernel, rfl⟩
theorem dX8_isEnergy_5 : uD 3 cX8_isEnergy 5 (.invokestatic 59) 8 := ⟨by decide +kernel, rfl⟩
theorem dX8_isEnergy_8 : uD 1 cX8_isEnergy 8 (.ireturn) 9 := ⟨by decide +kernel, rfl⟩
theorem dX8_bestSet_0 : uD 1 cX8_bestSet 0 (.aload_n 0) 1 := ⟨by decide +kernel, rfl⟩
theorem dX8_bestSet_1 : uD 1 cX8_bestSet 1 (.iconst 0) 2 := ⟨by decide +kernel, rfl⟩
theorem dX8_bestSet_2 : uD 3 cX8_bestSet 2 (.putfield 49) 5 := ⟨by decide +kernel, rfl⟩
theorem dX8_bestSet_5 : uD 1 cX8_bestSet 5 (.aload_n 0) 6 := ⟨by decide +kernel, rfl⟩
theorem dX8_bestSet_6 : uD 1 cX8_bestSet 6 (.aload_n 0) 7 := ⟨by decide +kernel, rfl⟩
theorem dX8_bestSet_7 : uD 1 cX8_bestSet 7 (.iload_n 1) 8 := ⟨by decide +kernel, rfl⟩
theorem dX8_bestSet_8 : uD 3 cX8_bestSet 8 (.invokevirtual 260) 11 := ⟨by decide +kernel, rfl⟩
theorem dX8_bestSet_11 : uD 1 cX8_bestSet 11 (.iconst 1) 12 := ⟨by decide +kernel, rfl⟩
theorem dX8_bestSet_12 : uD 3 cX8_bestSet 12 (.invokevirtual 55) 15 := ⟨by decide +kernel, rfl⟩
theorem dX8_bestSet_15 : uJ cX8_bestSet 15 (fun o => .ifCond .ne o) 20 18 := ⟨5, by decide +kernel, by decide, rfl⟩
theorem dX8_bestSet_18 : uD 1 cX8_bestSet 18 (.iconst 0) 19 := ⟨by decide +kernel, rfl⟩
theorem dX8_bestSet_19 : uD 1 cX8_bestSet 19 (.ireturn) 20 := ⟨by decide +kernel, rfl⟩
theorem dX8_bestSet_20 : uD 1 cX8_bestSet 20 (.aload_n 0) 21 := ⟨by decide +kernel, rfl⟩
theorem dX8_bestSet_21 : uD 1 cX8_bestSet 21 (.aload_n 0) 22 := ⟨by decide +kernel, rfl⟩
theorem dX8_bestSet_22 : uD 3 cX8_bestSet 22 (.getfield 7) 25 := ⟨by decide +kernel, rfl⟩
theorem dX8_bestSet_25 : uD 2 cX8_bestSet 25 (.bipush 25) 27 := ⟨by decide +kernel, rfl⟩
theorem dX8_bestSet_27 : uD 1 cX8_bestSet 27 (.iaload) 28 := ⟨by decide +kernel, rfl⟩
theorem dX8_bestSet_28 : uD 3 cX8_bestSet 28 (.invokevirtual 224) 31 := ⟨by decide +kernel, rfl⟩
theorem dX8_bestSet_31 : uD 1 cX8_bestSet 31 (.aload_n 0) 32 := ⟨by decide +kernel, rfl⟩
theorem dX8_bestSet_32 : uD 1 cX8_bestSet 32 (.iload_n 1) 33 := ⟨by decide +kernel, rfl⟩
theorem dX8_bestSet_33 : uD 3 cX8_bestSet 33 (.invokevirtual 227) 36 := ⟨by decide +kernel, rfl⟩
theorem dX8_bestSet_36 : uD 1 cX8_bestSet 36 (.ireturn) 37 := ⟨by decide +kernel, rfl⟩
theorem dX8_bestValue_0 : uD 1 cX8_bestValue 0 (.aload_n 0) 1 := ⟨by decide +kernel, rfl⟩
theorem dX8_bestValue_1 : uD 1 cX8_bestValue 1 (.iconst 0) 2 := ⟨by decide +kernel, rfl⟩
theorem dX8_bestValue_2 : uD 3 cX8_bestValue 2 (.putfield 49) 5 := ⟨by decide +kernel, rfl⟩
theorem dX8_bestValue_5 : uD 1 cX8_bestValue 5 (.aload_n 0) 6 := ⟨by decide +kernel, rfl⟩
theorem dX8_bestValue_6 : uD 1 cX8_bestValue 6 (.aload_n 0) 7 := ⟨by decide +kernel, rfl⟩
theorem dX8_bestValue_7 : uD 1 cX8_bestValue 7 (.iload_n 1) 8 := ⟨by decide +kernel, rfl⟩
theorem dX8_bestValue_8 : uD 3 cX8_bestValue 8 (.invokevirtual 260) 11 := ⟨by decide +kernel, rfl⟩
theorem dX8_bestValue_11 : uD 1 cX8_bestValue 11 (.iconst 1) 12 := ⟨by decide +kernel, rfl⟩
theorem dX8_bestValue_12 : uD 3 cX8_bestValue 12 (.invokevirtual 55) 15 := ⟨by decide +kernel, rfl⟩
theorem dX8_bestValue_15 : uJ cX8_bestValue 15 (fun o => .ifCond .eq o) 33 18 := ⟨18, by decide +kernel, by decide, rfl⟩
theorem dX8_bestValue_18 : uD 1 cX8_bestValue 18 (.aload_n 0) 19 := ⟨by decide +kernel, rfl⟩
theorem dX8_bestValue_19 : uD 1 cX8_bestValue 19 (.aload_n 0) 20 := ⟨by decide +kernel, rfl⟩
theorem dX8_bestValue_20 : uD 3 cX8_bestValue 20 (.getfield 7) 23 := ⟨by decide +kernel, rfl⟩
theorem dX8_bestValue_23 : uD 2 cX8_bestValue 23 (.bipush 25) 25 := ⟨by decide +kernel, rfl⟩
theorem dX8_bestValue_25 : uD 1 cX8_bestValue 25 (.iaload) 26 := ⟨by decide +kernel, rfl⟩
theorem dX8_bestValue_26 : uD 1 cX8_bestValue 26 (.iload_n 1) 27 := ⟨by decide +kernel, rfl⟩
theorem dX8_bestValue_27 : uD 3 cX8_bestValue 27 (.invokevirtual 263) 30 := ⟨by decide +kernel, rfl⟩
theorem dX8_bestValue_30 : uJ cX8_bestValue 30 (fun o => .goto o) 34 33 := ⟨4, by decide +kernel, by decide, rfl⟩
theorem dX8_bestValue_33 : uD 1 cX8_bestValue 33 (.iconst 0) 34 := ⟨by decide +kernel, rfl⟩
theorem dX8_bestValue_34 : uD 1 cX8_bestValue 34 (.ireturn) 35 := ⟨by decide +kernel, rfl⟩
theorem dX8_greedyOf_0 : uD 1 cX8_greedyOf 0 (.iconst 0) 1 := ⟨by decide +kernel, rfl⟩
theorem dX8_greedyOf_1 : uD 1 cX8_greedyOf 1 (.istore_n 2) 2 := ⟨by decide +kernel, rfl⟩
theorem dX8_greedyOf_2 : uD 1 cX8_greedyOf 2 (.aload_n 0) 3 := ⟨by decide +kernel, rfl⟩
theorem dX8_greedyOf_3 : uD 3 cX8_greedyOf 3 (.invokevirtual 172) 6 := ⟨by decide +kernel, rfl⟩
theorem dX8_greedyOf_6 : uD 1 cX8_greedyOf 6 (.istore_n 3) 7 := ⟨by decide +kernel, rfl⟩
theorem dX8_greedyOf_7 : uD 1 cX8_greedyOf 7 (.iload_n 3) 8 := ⟨by decide +kernel, rfl⟩
theorem dX8_greedyOf_8 : uJ cX8_greedyOf 8 (fun o => .ifCond .eq o) 108 11 := ⟨100, by decide +kernel, by decide, rfl⟩
theorem dX8_greedyOf_11 : uD 1 cX8_greedyOf 11 (.iconst (-1)) 12 := ⟨by decide +kernel, rfl⟩
theorem dX8_greedyOf_12 : uD 2 cX8_greedyOf 12 (.istore 4) 14 := ⟨by decide +kernel, rfl⟩
theorem dX8_greedyOf_14 : uD 1 cX8_greedyOf 14 (.iconst 0) 15 := ⟨by decide +kernel, rfl⟩
theorem dX8_greedyOf_15 : uD 2 cX8_greedyOf 15 (.istore 5) 17 := ⟨by decide +kernel, rfl⟩
theorem dX8_greedyOf_17 : uD 2 cX8_greedyOf 17 (.iload 5) 19 := ⟨by decide +kernel, rfl⟩
theorem dX8_greedyOf_19 : uD 1 cX8_greedyOf 19 (.aload_n 0) 20 := ⟨by decide +kernel, rfl⟩
theorem dX8_greedyOf_20 : uD 3 cX8_greedyOf 20 (.getfield 7) 23 := ⟨by decide +kernel, rfl⟩
theorem dX8_greedyOf_23 : uD 2 cX8_greedyOf 23 (.bipush 36) 25 := ⟨by decide +kernel, rfl⟩
theorem dX8_greedyOf_25 : uD 1 cX8_greedyOf 25 (.iaload) 26 := ⟨by decide +kernel, rfl⟩
theorem dX8_greedyOf_26 : uJ cX8_greedyOf 26 (fun o => .if_icmp .ge o) 71 29 := ⟨45, by decide +kernel, by decide, rfl⟩
theorem dX8_greedyOf_29 : uD 1 cX8_greedyOf 29 (.iload_n 3) 30 := ⟨by decide +kernel, rfl⟩
theorem dX8_greedyOf_30 : uD 2 cX8_greedyOf 30 (.iload 5) 32 := ⟨by decide +kernel, rfl⟩
theorem dX8_greedyOf_32 : uD 3 cX8_greedyOf 32 (.invokestatic 144) 35 := ⟨by decide +kernel, rfl⟩
theorem dX8_greedyOf_35 : uJ cX8_greedyOf 35 (fun o => .ifCond .eq o) 65 38 := ⟨30, by decide +kernel, by decide, rfl⟩
theorem dX8_greedyOf_38 : uD 2 cX8_greedyOf 38 (.iload 4) 40 := ⟨by decide +kernel, rfl⟩
theorem dX8_greedyOf_40 : uD 1 cX8_greedyOf 40 (.iconst (-1)) 41 := ⟨by decide +kernel, rfl⟩
theorem dX8_greedyOf_41 : uJ cX8_greedyOf 41 (fun o => .if_icmp .eq o) 61 44 := ⟨20, by decide +kernel, by decide, rfl⟩
theorem dX8_greedyOf_44 : uD 1 cX8_greedyOf 44 (.aload_n 0) 45 := ⟨by decide +kernel, rfl⟩
theorem dX8_greedyOf_45 : uD 2 cX8_greedyOf 45 (.iload 5) 47 := ⟨by decide +kernel, rfl⟩
theorem dX8_greedyOf_47 : uD 1 cX8_greedyOf 47 (.iconst 1) 48 := ⟨by decide +kernel, rfl⟩
theorem dX8_greedyOf_48 : uD 3 cX8_greedyOf 48 (.invokevirtual 160) 51 := ⟨by decide +kernel, rfl⟩
theorem dX8_greedyOf_51 : uD 1 cX8_greedyOf 51 (.aload_n 0) 52 := ⟨by decide +kernel, rfl⟩
theorem dX8_greedyOf_52 : uD 2 cX8_greedyOf 52 (.iload 4) 54 := ⟨by decide +kernel, rfl⟩
theorem dX8_greedyOf_54 : uD 1 cX8_greedyOf 54 (.iconst 1) 55 := ⟨by decide +kernel, rfl⟩
theorem dX8_greedyOf_55 : uD 3 cX8_greedyOf 55 (.invokevirtual 160) 58 := ⟨by decide +kernel, rfl⟩
theorem dX8_greedyOf_58 : uJ cX8_greedyOf 58 (fun o => .if_icmp .le o) 65 61 := ⟨7, by decide +kernel, by decide, rfl⟩
theorem dX8_greedyOf_61 : uD 2 cX8_greedyOf 61 (.iload 5) 63 := ⟨by decide +kernel, rfl⟩
theorem dX8_greedyOf_63 : uD 2 cX8_greedyOf 63 (.istore 4) 65 := ⟨by decide +kernel, rfl⟩
theorem dX8_greedyOf_65 : uD 3 cX8_greedyOf 65 (.iinc 5 1) 68 := ⟨by decide +kernel, rfl⟩
theorem dX8_greedyOf_68 : uJ cX8_greedyOf 68 (fun o => .goto o) 17 71 := ⟨(-51), by decide +kernel, by decide, rfl⟩
theorem dX8_greedyOf_71 : uD 1 cX8_greedyOf 71 (.iload_n 3) 72 := ⟨by decide +kernel, rfl⟩
theorem dX8_greedyOf_72 : uD 1 cX8_greedyOf 72 (.iconst 1) 73 := ⟨by decide +kernel, rfl⟩
theorem dX8_greedyOf_73 : uD 2 cX8_greedyOf 73 (.iload 4) 75 := ⟨by decide +kernel, rfl⟩
theorem dX8_greedyOf_75 : uD 1 cX8_greedyOf 75 (.ishl) 76 := ⟨by decide +kernel, rfl⟩
theorem dX8_greedyOf_76 : uD 1 cX8_greedyOf 76 (.iconst (-1)) 77 := ⟨by decide +kernel, rfl⟩
theorem dX8_greedyOf_77 : uD 1 cX8_greedyOf 77 (.ixor) 78 := ⟨by decide +kernel, rfl⟩
theorem dX8_greedyOf_78 : uD 1 cX8_greedyOf 78 (.iand) 79 := ⟨by decide +kernel, rfl⟩
theorem dX8_greedyOf_79 : uD 1 cX8_greedyOf 79 (.istore_n 3) 80 := ⟨by decide +kernel, rfl⟩
theorem dX8_greedyOf_80 : uD 1 cX8_greedyOf 80 (.iload_n 2) 81 := ⟨by decide +kernel, rfl⟩
theorem dX8_greedyOf_81 : uD 1 cX8_greedyOf 81 (.aload_n 0) 82 := ⟨by decide +kernel, rfl⟩
theorem dX8_greedyOf_82 : uD 1 cX8_greedyOf 82 (.iload_n 2) 83 := ⟨by decide +kernel, rfl⟩
theorem dX8_greedyOf_83 : uD 1 cX8_greedyOf 83 (.iconst 1) 84 := ⟨by decide +kernel, rfl⟩
theorem dX8_greedyOf_84 : uD 2 cX8_greedyOf 84 (.iload 4) 86 := ⟨by decide +kernel, rfl⟩
theorem dX8_greedyOf_86 : uD 1 cX8_greedyOf 86 (.ishl) 87 := ⟨by decide +kernel, rfl⟩
theorem dX8_greedyOf_87 : uD 1 cX8_greedyOf 87 (.ior) 88 := ⟨by decide +kernel, rfl⟩
theorem dX8_greedyOf_88 : uD 3 cX8_greedyOf 88 (.invokevirtual 175) 91 := ⟨by decide +kernel, rfl⟩
theorem dX8_greedyOf_91 : uD 1 cX8_greedyOf 91 (.iload_n 1) 92 := ⟨by decide +kernel, rfl⟩
theorem dX8_greedyOf_92 : uJ cX8_greedyOf 92 (fun o => .if_icmp .gt o) 102 95 := ⟨10, by decide +kernel, by decide, rfl⟩
theorem dX8_greedyOf_95 : uD 1 cX8_greedyOf 95 (.iconst 1) 96 := ⟨by decide +kernel, rfl⟩
theorem dX8_greedyOf_96 : uD 2 cX8_greedyOf 96 (.iload 4) 98 := ⟨by decide +kernel, rfl⟩
theorem dX8_greedyOf_98 : uD 1 cX8_greedyOf 98 (.ishl) 99 := ⟨by decide +kernel, rfl⟩
theorem dX8_greedyOf_99 : uJ cX8_greedyOf 99 (fun o => .goto o) 103 102 := ⟨4, by decide +kernel, by decide, rfl⟩
theorem dX8_greedyOf_102 : uD 1 cX8_greedyOf 102 (.iconst 0) 103 := ⟨by decide +kernel, rfl⟩
theorem dX8_greedyOf_103 : uD 1 cX8_greedyOf 103 (.ior) 104 := ⟨by decide +kernel, rfl⟩
theorem dX8_greedyOf_104 : uD 1 cX8_greedyOf 104 (.istore_n 2) 105 := ⟨by decide +kernel, rfl⟩
theorem dX8_greedyOf_105 : uJ cX8_greedyOf 105 (fun o => .goto o) 7 108 := ⟨(-98), by decide +kernel, by decide, rfl⟩
theorem dX8_greedyOf_108 : uD 1 cX8_greedyOf 108 (.iload_n 2) 109 := ⟨by decide +kernel, rfl⟩
theorem dX8_greedyOf_109 : uD 1 cX8_greedyOf 109 (.ireturn) 110 := ⟨by decide +kernel, rfl⟩
theorem dX8_greedySet_0 : uD 1 cX8_greedySet 0 (.aload_n 0) 1 := ⟨by decide +kernel, rfl⟩
theorem dX8_greedySet_1 : uD 1 cX8_greedySet 1 (.iconst 0) 2 := ⟨by decide +kernel, rfl⟩
theorem dX8_greedySet_2 : uD 3 cX8_greedySet 2 (.putfield 49) 5 := ⟨by decide +kernel, rfl⟩
theorem dX8_greedySet_5 : uD 1 cX8_greedySet 5 (.aload_n 0) 6 := ⟨by decide +kernel, rfl⟩
theorem dX8_greedySet_6 : uD 1 cX8_greedySet 6 (.aload_n 0) 7 := ⟨by decide +kernel, rfl⟩
theorem dX8_greedySet_7 : uD 1 cX8_greedySet 7 (.iload_n 1) 8 := ⟨by decide +kernel, rfl⟩
theorem dX8_greedySet_8 : uD 3 cX8_greedySet 8 (.invokevirtual 260) 11 := ⟨by decide +kernel, rfl⟩
theorem dX8_greedySet_11 : uD 1 cX8_greedySet 11 (.iconst 1) 12 := ⟨by decide +kernel, rfl⟩
theorem dX8_greedySet_12 : uD 3 cX8_greedySet 12 (.invokevirtual 55) 15 := ⟨by decide +kernel, rfl⟩
theorem dX8_greedySet_15 : uJ cX8_greedySet 15 (fun o => .ifCond .eq o) 26 18 := ⟨11, by decide +kernel, by decide, rfl⟩
theorem dX8_greedySet_18 : uD 1 cX8_greedySet 18 (.aload_n 0) 19 := ⟨by decide +kernel, rfl⟩
theorem dX8_greedySet_19 : uD 1 cX8_greedySet 19 (.iload_n 1) 20 := ⟨by decide +kernel, rfl⟩
theorem dX8_greedySet_20 : uD 3 cX8_greedySet 20 (.invokevirtual 266) 23 := ⟨by decide +kernel, rfl⟩
theorem dX8_greedySet_23 : uJ cX8_greedySet 23 (fun o => .goto o) 27 26 := ⟨4, by decide +kernel, by decide, rfl⟩
theorem dX8_greedySet_26 : uD 1 cX8_greedySet 26 (.iconst 0) 27 := ⟨by decide +kernel, rfl⟩
theorem dX8_greedySet_27 : uD 1 cX8_greedySet 27 (.ireturn) 28 := ⟨by decide +kernel, rfl⟩
theorem dX8_quality_0 : uD 1 cX8_quality 0 (.aload_n 0) 1 := ⟨by decide +kernel, rfl⟩
theorem dX8_quality_1 : uD 1 cX8_quality 1 (.iconst 0) 2 := ⟨by decide +kernel, rfl⟩
theorem dX8_quality_2 : uD 3 cX8_quality 2 (.putfield 49) 5 := ⟨by decide +kernel, rfl⟩
theorem dX8_quality_5 : uD 1 cX8_quality 5 (.aload_n 0) 6 := ⟨by decide +kernel, rfl⟩
theorem dX8_quality_6 : uD 1 cX8_quality 6 (.aload_n 0) 7 := ⟨by decide +kernel, rfl⟩
theorem dX8_quality_7 : uD 1 cX8_quality 7 (.iload_n 1) 8 := ⟨by decide +kernel, rfl⟩
theorem dX8_quality_8 : uD 3 cX8_quality 8 (.invokevirtual 260) 11 := ⟨by decide +kernel, rfl⟩
theorem dX8_quality_11 : uD 1 cX8_quality 11 (.iconst 1) 12 := ⟨by decide +kernel, rfl⟩
theorem dX8_quality_12 : uD 3 cX8_quality 12 (.invokevirtual 55) 15 := ⟨by decide +kernel, rfl⟩
theorem dX8_quality_15 : uJ cX8_quality 15 (fun o => .ifCond .ne o) 20 18 := ⟨5, by decide +kernel, by decide, rfl⟩
theorem dX8_quality_18 : uD 1 cX8_quality 18 (.dconst 0) 19 := ⟨by decide +kernel, rfl⟩
theorem dX8_quality_19 : uD 1 cX8_quality 19 (.dreturn) 20 := ⟨by decide +kernel, rfl⟩
theorem dX8_quality_20 : uD 1 cX8_quality 20 (.aload_n 0) 21 := ⟨by decide +kernel, rfl⟩
theorem dX8_quality_21 : uD 1 cX8_quality 21 (.aload_n 0) 22 := ⟨by decide +kernel, rfl⟩
theorem dX8_quality_22 : uD 3 cX8_quality 22 (.getfield 7) 25 := ⟨by decide +kernel, rfl⟩
theorem dX8_quality_25 : uD 2 cX8_quality 25 (.bipush 25) 27 := ⟨by decide +kernel, rfl⟩
theorem dX8_quality_27 : uD 1 cX8_quality 27 (.iaload) 28 := ⟨by decide +kernel, rfl⟩
theorem dX8_quality_28 : uD 1 cX8_quality 28 (.iload_n 1) 29 := ⟨by decide +kernel, rfl⟩
theorem dX8_quality_29 : uD 3 cX8_quality 29 (.invokevirtual 263) 32 := ⟨by decide +kernel, rfl⟩
theorem dX8_quality_32 : uD 1 cX8_quality 32 (.istore_n 2) 33 := ⟨by decide +kernel, rfl⟩
theorem dX8_quality_33 : uD 1 cX8_quality 33 (.aload_n 0) 34 := ⟨by decide +kernel, rfl⟩
theorem dX8_quality_34 : uD 1 cX8_quality 34 (.iload_n 2) 35 := ⟨by decide +kernel, rfl⟩
theorem dX8_quality_35 : uJ cX8_quality 35 (fun o => .ifCond .le o) 42 38 := ⟨7, by decide +kernel, by decide, rfl⟩
theorem dX8_quality_38 : uD 1 cX8_quality 38 (.iconst 1) 39 := ⟨by decide +kernel, rfl⟩
theorem dX8_quality_39 : uJ cX8_quality 39 (fun o => .goto o) 43 42 := ⟨4, by decide +kernel, by decide, rfl⟩
theorem dX8_quality_42 : uD 1 cX8_quality 42 (.iconst 0) 43 := ⟨by decide +kernel, rfl⟩
theorem dX8_quality_43 : uD 1 cX8_quality 43 (.iconst 2) 44 := ⟨by decide +kernel, rfl⟩
theorem dX8_quality_44 : uD 3 cX8_quality 44 (.invokevirtual 55) 47 := ⟨by decide +kernel, rfl⟩
theorem dX8_quality_47 : uJ cX8_quality 47 (fun o => .ifCond .eq o) 66 50 := ⟨19, by decide +kernel, by decide, rfl⟩
theorem dX8_quality_50 : uD 1 cX8_quality 50 (.aload_n 0) 51 := ⟨by decide +kernel, rfl⟩
theorem dX8_quality_51 : uD 1 cX8_quality 51 (.aload_n 0) 52 := ⟨by decide +kernel, rfl⟩
theorem dX8_quality_52 : uD 1 cX8_quality 52 (.iload_n 1) 53 := ⟨by decide +kernel, rfl⟩
theorem dX8_quality_53 : uD 3 cX8_quality 53 (.invokevirtual 266) 56 := ⟨by decide +kernel, rfl⟩
theorem dX8_quality_56 : uD 3 cX8_quality 56 (.invokevirtual 187) 59 := ⟨by decide +kernel, rfl⟩
theorem dX8_quality_59 : uD 1 cX8_quality 59 (.i2d) 60 := ⟨by decide +kernel, rfl⟩
theorem dX8_quality_60 : uD 1 cX8_quality 60 (.iload_n 2) 61 := ⟨by decide +kernel, rfl⟩
theorem dX8_quality_61 : uD 1 cX8_quality 61 (.i2d) 62 := ⟨by decide +kernel, rfl⟩
theorem dX8_quality_62 : uD 1 cX8_quality 62 (.ddiv) 63 := ⟨by decide +kernel, rfl⟩
theorem dX8_quality_63 : uJ cX8_quality 63 (fun o => .goto o) 67 66 := ⟨4, by decide +kernel, by decide, rfl⟩
theorem dX8_quality_66 : uD 1 cX8_quality 66 (.dconst 0) 67 := ⟨by decide +kernel, rfl⟩
theorem dX8_quality_67 : uD 1 cX8_quality 67 (.dreturn) 68 := ⟨by decide +kernel, rfl⟩
theorem dX8_energyFor_0 : uD 1 cX8_energyFor 0 (.aload_n 0) 1 := ⟨by decide +kernel, rfl⟩
theorem dX8_energyFor_1 : uD 1 cX8_energyFor 1 (.iconst 0) 2 := ⟨by decide +kernel, rfl⟩
theorem dX8_energyFor_2 : uD 3 cX8_energyFor 2 (.putfield 49) 5 := ⟨by decide +kernel, rfl⟩
theorem dX8_energyFor_5 : uD 1 cX8_energyFor 5 (.aload_n 0) 6 := ⟨by decide +kernel, rfl⟩
theorem dX8_energyFor_6 : uD 1 cX8_energyFor 6 (.iload_n 1) 7 := ⟨by decide +kernel, rfl⟩
theorem dX8_energyFor_7 : uD 1 cX8_energyFor 7 (.iconst 0) 8 := ⟨by decide +kernel, rfl⟩
theorem dX8_energyFor_8 : uD 3 cX8_energyFor 8 (.sipush 2376) 11 := ⟨by decide +kernel, rfl⟩
theorem dX8_energyFor_11 : uD 3 cX8_energyFor 11 (.invokestatic 59) 14 := ⟨by decide +kernel, rfl⟩
theorem dX8_energyFor_14 : uD 1 cX8_energyFor 14 (.iconst 1) 15 := ⟨by decide +kernel, rfl⟩
theorem dX8_energyFor_15 : uD 3 cX8_energyFor 15 (.invokevirtual 55) 18 := ⟨by decide +kernel, rfl⟩
theorem dX8_energyFor_18 : uJ cX8_energyFor 18 (fun o => .ifCond .ne o) 23 21 := ⟨5, by decide +kernel, by decide, rfl⟩
theorem dX8_energyFor_21 : uD 1 cX8_energyFor 21 (.iconst 0) 22 := ⟨by decide +kernel, rfl⟩
theorem dX8_energyFor_22 : uD 1 cX8_energyFor 22 (.ireturn) 23 := ⟨by decide +kernel, rfl⟩
theorem dX8_energyFor_23 : uD 1 cX8_energyFor 23 (.aload_n 0) 24 := ⟨by decide +kernel, rfl⟩
theorem dX8_energyFor_24 : uD 1 cX8_energyFor 24 (.aload_n 0) 25 := ⟨by decide +kernel, rfl⟩
theorem dX8_energyFor_25 : uD 3 cX8_energyFor 25 (.getfield 7) 28 := ⟨by decide +kernel, rfl⟩
theorem dX8_energyFor_28 : uD 2 cX8_energyFor 28 (.bipush 25) 30 := ⟨by decide +kernel, rfl⟩
theorem dX8_energyFor_30 : uD 1 cX8_energyFor 30 (.iaload) 31 := ⟨by decide +kernel, rfl⟩
theorem dX8_energyFor_31 : uD 3 cX8_energyFor 31 (.invokevirtual 224) 34 := ⟨by decide +kernel, rfl⟩
theorem dX8_energyFor_34 : uD 1 cX8_energyFor 34 (.iconst 0) 35 := ⟨by decide +kernel, rfl⟩
theorem dX8_energyFor_35 : uD 1 cX8_energyFor 35 (.istore_n 2) 36 := ⟨by decide +kernel, rfl⟩
theorem dX8_energyFor_36 : uD 1 cX8_energyFor 36 (.iload_n 2) 37 := ⟨by decide +kernel, rfl⟩
theorem dX8_energyFor_37 : uD 3 cX8_energyFor 37 (.sipush 500) 40 := ⟨by decide +kernel, rfl⟩
theorem dX8_energyFor_40 : uJ cX8_energyFor 40 (fun o => .if_icmp .gt o) 60 43 := ⟨20, by decide +kernel, by decide, rfl⟩
theorem dX8_energyFor_43 : uD 1 cX8_energyFor 43 (.aload_n 0) 44 := ⟨by decide +kernel, rfl⟩
theorem dX8_energyFor_44 : uD 1 cX8_energyFor 44 (.iload_n 2) 45 := ⟨by decide +kernel, rfl⟩
theorem dX8_energyFor_45 : uD 3 cX8_energyFor 45 (.invokevirtual 248) 48 := ⟨by decide +kernel, rfl⟩
theorem dX8_energyFor_48 : uD 1 cX8_energyFor 48 (.iload_n 1) 49 := ⟨by decide +kernel, rfl⟩
theorem dX8_energyFor_49 : uJ cX8_energyFor 49 (fun o => .if_icmp .lt o) 54 52 := ⟨5, by decide +kernel, by decide, rfl⟩
theorem dX8_energyFor_52 : uD 1 cX8_energyFor 52 (.iload_n 2) 53 := ⟨by decide +kernel, rfl⟩
theorem dX8_energyFor_53 : uD 1 cX8_energyFor 53 (.ireturn) 54 := ⟨by decide +kernel, rfl⟩
theorem dX8_energyFor_54 : uD 3 cX8_energyFor 54 (.iinc 2 1) 57 := ⟨by decide +kernel, rfl⟩
theorem dX8_energyFor_57 : uJ cX8_energyFor 57 (fun o => .goto o) 36 60 := ⟨(-21), by decide +kernel, by decide, rfl⟩
theorem dX8_energyFor_60 : uD 1 cX8_energyFor 60 (.aload_n 0) 61 := ⟨by decide +kernel, rfl⟩
theorem dX8_energyFor_61 : uD 1 cX8_energyFor 61 (.iconst 2) 62 := ⟨by decide +kernel, rfl⟩
theorem dX8_energyFor_62 : uD 3 cX8_energyFor 62 (.putfield 49) 65 := ⟨by decide +kernel, rfl⟩
theorem dX8_energyFor_65 : uD 1 cX8_energyFor 65 (.iconst 0) 66 := ⟨by decide +kernel, rfl⟩
theorem dX8_energyFor_66 : uD 1 cX8_energyFor 66 (.ireturn) 67 := ⟨by decide +kernel, rfl⟩
theorem dX8_extra_0 : uD 1 cX8_extra 0 (.aload_n 0) 1 := ⟨by decide +kernel, rfl⟩
theorem dX8_extra_1 : uD 1 cX8_extra 1 (.iconst 0) 2 := ⟨by decide +kernel, rfl⟩
theorem dX8_extra_2 : uD 3 cX8_extra 2 (.putfield 49) 5 := ⟨by decide +kernel, rfl⟩
theorem dX8_extra_5 : uD 1 cX8_extra 5 (.aload_n 0) 6 := ⟨by decide +kernel, rfl⟩
theorem dX8_extra_6 : uD 1 cX8_extra 6 (.aload_n 0) 7 := ⟨by decide +kernel, rfl⟩
theorem dX8_extra_7 : uD 1 cX8_extra 7 (.iload_n 1) 8 := ⟨by decide +kernel, rfl⟩
theorem dX8_extra_8 : uD 3 cX8_extra 8 (.invokevirtual 190) 11 := ⟨by decide +kernel, rfl⟩
theorem dX8_extra_11 : uD 1 cX8_extra 11 (.iconst 1) 12 := ⟨by decide +kernel, rfl⟩
theorem dX8_extra_12 : uD 3 cX8_extra 12 (.invokevirtual 55) 15 := ⟨by decide +kernel, rfl⟩
theorem dX8_extra_15 : uJ cX8_extra 15 (fun o => .ifCond .eq o) 43 18 := ⟨28, by decide +kernel, by decide, rfl⟩
theorem dX8_extra_18 : uD 1 cX8_extra 18 (.aload_n 0) 19 := ⟨by decide +kernel, rfl⟩
theorem dX8_extra_19 : uD 1 cX8_extra 19 (.aload_n 0) 20 := ⟨by decide +kernel, rfl⟩
theorem dX8_extra_20 : uD 1 cX8_extra 20 (.aload_n 0) 21 := ⟨by decide +kernel, rfl⟩
theorem dX8_extra_21 : uD 1 cX8_extra 21 (.iload_n 1) 22 := ⟨by decide +kernel, rfl⟩
theorem dX8_extra_22 : uD 3 cX8_extra 22 (.invokevirtual 166) 25 := ⟨by decide +kernel, rfl⟩
theorem dX8_extra_25 : uD 3 cX8_extra 25 (.invokevirtual 169) 28 := ⟨by decide +kernel, rfl⟩
theorem dX8_extra_28 : uJ cX8_extra 28 (fun o => .ifCond .ne o) 35 31 := ⟨7, by decide +kernel, by decide, rfl⟩
theorem dX8_extra_31 : uD 1 cX8_extra 31 (.iconst 1) 32 := ⟨by decide +kernel, rfl⟩
theorem dX8_extra_32 : uJ cX8_extra 32 (fun o => .goto o) 36 35 := ⟨4, by decide +kernel, by decide, rfl⟩
theorem dX8_extra_35 : uD 1 cX8_extra 35 (.iconst 0) 36 := ⟨by decide +kernel, rfl⟩
theorem dX8_extra_36 : uD 1 cX8_extra 36 (.iconst 2) 37 := ⟨by decide +kernel, rfl⟩
theorem dX8_extra_37 : uD 3 cX8_extra 37 (.invokevirtual 55) 40 := ⟨by decide +kernel, rfl⟩
theorem dX8_extra_40 : uJ cX8_extra 40 (fun o => .ifCond .ne o) 45 43 := ⟨5, by decide +kernel, by decide, rfl⟩
theorem dX8_extra_43 : uD 1 cX8_extra 43 (.iconst 0) 44 := ⟨by decide +kernel, rfl⟩
theorem dX8_extra_44 : uD 1 cX8_extra 44 (.ireturn) 45 := ⟨by decide +kernel, rfl⟩
theorem dX8_extra_45 : uD 1 cX8_extra 45 (.aload_n 0) 46 := ⟨by decide +kernel, rfl⟩
theorem dX8_extra_46 : uD 1 cX8_extra 46 (.aload_n 0) 47 := ⟨by decide +kernel, rfl⟩
theorem dX8_extra_47 : uD 3 cX8_extra 47 (.getfield 7) 50 := ⟨by decide +kernel, rfl⟩
theorem dX8_extra_50 : uD 2 cX8_extra 50 (.bipush 25) 52 := ⟨by decide +kernel, rfl⟩
theorem dX8_extra_52 : uD 1 cX8_extra 52 (.iaload) 53 := ⟨by decide +kernel, rfl⟩
theorem dX8_extra_53 : uD 3 cX8_extra 53 (.invokevirtual 224) 56 := ⟨by decide +kernel, rfl⟩
theorem dX8_extra_56 : uD 1 cX8_extra 56 (.aload_n 0) 57 := ⟨by decide +kernel, rfl⟩
theorem dX8_extra_57 : uD 1 cX8_extra 57 (.aload_n 0) 58 := ⟨by decide +kernel, rfl⟩
theorem dX8_extra_58 : uD 3 cX8_extra 58 (.getfield 7) 61 := ⟨by decide +kernel, rfl⟩
theorem dX8_extra_61 : uD 1 cX8_extra 61 (.iconst 1) 62 := ⟨by decide +kernel, rfl⟩
theorem dX8_extra_62 : uD 1 cX8_extra 62 (.iaload) 63 := ⟨by decide +kernel, rfl⟩
theorem dX8_extra_63 : uD 3 cX8_extra 63 (.invokevirtual 227) 66 := ⟨by decide +kernel, rfl⟩
theorem dX8_extra_66 : uD 1 cX8_extra 66 (.istore_n 2) 67 := ⟨by decide +kernel, rfl⟩
theorem dX8_extra_67 : uD 1 cX8_extra 67 (.aload_n 0) 68 := ⟨by decide +kernel, rfl⟩
theorem dX8_extra_68 : uD 1 cX8_extra 68 (.iload_n 2) 69 := ⟨by decide +kernel, rfl⟩
theorem dX8_extra_69 : uD 1 cX8_extra 69 (.iconst 1) 70 := ⟨by decide +kernel, rfl⟩
theorem dX8_extra_70 : uD 1 cX8_extra 70 (.iload_n 1) 71 := ⟨by decide +kernel, rfl⟩
theorem dX8_extra_71 : uD 1 cX8_extra 71 (.ishl) 72 := ⟨by decide +kernel, rfl⟩
theorem dX8_extra_72 : uD 1 cX8_extra 72 (.ior) 73 := ⟨by decide +kernel, rfl⟩
theorem dX8_extra_73 : uD 3 cX8_extra 73 (.invokevirtual 175) 76 := ⟨by decide +kernel, rfl⟩
theorem dX8_extra_76 : uD 1 cX8_extra 76 (.aload_n 0) 77 := ⟨by decide +kernel, rfl⟩
theorem dX8_extra_77 : uD 1 cX8_extra 77 (.iload_n 2) 78 := ⟨by decide +kernel, rfl⟩
theorem dX8_extra_78 : uD 3 cX8_extra 78 (.invokevirtual 175) 81 := ⟨by decide +kernel, rfl⟩
theorem dX8_extra_81 : uD 1 cX8_extra 81 (.isub) 82 := ⟨by decide +kernel, rfl⟩
theorem dX8_extra_82 : uD 1 cX8_extra 82 (.ireturn) 83 := ⟨by decide +kernel, rfl⟩
theorem dX8_keeps_0 : uD 1 cX8_keeps 0 (.iconst 0) 1 := ⟨by decide +kernel, rfl⟩
theorem dX8_keeps_1 : uD 1 cX8_keeps 1 (.istore_n 1) 2 := ⟨by decide +kernel, rfl⟩
theorem dX8_keeps_2 : uD 1 cX8_keeps 2 (.iload_n 1) 3 := ⟨by decide +kernel, rfl⟩
theorem dX8_keeps_3 : uD 2 cX8_keeps 3 (.bipush 109) 5 := ⟨by decide +kernel, rfl⟩
theorem dX8_keeps_5 : uJ cX8_keeps 5 (fun o => .if_icmp .ge o) 26 8 := ⟨21, by decide +kernel, by decide, rfl⟩
theorem dX8_keeps_8 : uD 1 cX8_keeps 8 (.aload_n 0) 9 := ⟨by decide +kernel, rfl⟩
theorem dX8_keeps_9 : uD 3 cX8_keeps 9 (.getfield 19) 12 := ⟨by decide +kernel, rfl⟩
theorem dX8_keeps_12 : uD 1 cX8_keeps 12 (.iload_n 1) 13 := ⟨by decide +kernel, rfl⟩
theorem dX8_keeps_13 : uD 1 cX8_keeps 13 (.aload_n 0) 14 := ⟨by decide +kernel, rfl⟩
theorem dX8_keeps_14 : uD 3 cX8_keeps 14 (.getfield 7) 17 := ⟨by decide +kernel, rfl⟩
theorem dX8_keeps_17 : uD 1 cX8_keeps 17 (.iload_n 1) 18 := ⟨by decide +kernel, rfl⟩
theorem dX8_keeps_18 : uD 1 cX8_keeps 18 (.iaload) 19 := ⟨by decide +kernel, rfl⟩
theorem dX8_keeps_19 : uD 1 cX8_keeps 19 (.iastore) 20 := ⟨by decide +kernel, rfl⟩
theorem dX8_keeps_20 : uD 3 cX8_keeps 20 (.iinc 1 1) 23 := ⟨by decide +kernel, rfl⟩
theorem dX8_keeps_23 : uJ cX8_keeps 23 (fun o => .goto o) 2 26 := ⟨(-21), by decide +kernel, by decide, rfl⟩
theorem dX8_keeps_26 : uD 1 cX8_keeps 26 (.return_) 27 := ⟨by decide +kernel, rfl⟩
theorem dX8_comesBack_0 : uD 1 cX8_comesBack 0 (.iconst 0) 1 := ⟨by decide +kernel, rfl⟩
theorem dX8_comesBack_1 : uD 1 cX8_comesBack 1 (.istore_n 1) 2 := ⟨by decide +kernel, rfl⟩
theorem dX8_comesBack_2 : uD 1 cX8_comesBack 2 (.iload_n 1) 3 := ⟨by decide +kernel, rfl⟩
theorem dX8_comesBack_3 : uD 2 cX8_comesBack 3 (.bipush 109) 5 := ⟨by decide +kernel, rfl⟩
theorem dX8_comesBack_5 : uJ cX8_comesBack 5 (fun o => .if_icmp .ge o) 26 8 := ⟨21, by decide +kernel, by decide, rfl⟩
theorem dX8_comesBack_8 : uD 1 cX8_comesBack 8 (.aload_n 0) 9 := ⟨by decide +kernel, rfl⟩
theorem dX8_comesBack_9 : uD 3 cX8_comesBack 9 (.getfield 7) 12 := ⟨by decide +kernel, rfl⟩
theorem dX8_comesBack_12 : uD 1 cX8_comesBack 12 (.iload_n 1) 13 := ⟨by decide +kernel, rfl⟩
theorem dX8_comesBack_13 : uD 1 cX8_comesBack 13 (.aload_n 0) 14 := ⟨by decide +kernel, rfl⟩
theorem dX8_comesBack_14 : uD 3 cX8_comesBack 14 (.getfield 19) 17 := ⟨by decide +kernel, rfl⟩
theorem dX8_comesBack_17 : uD 1 cX8_comesBack 17 (.iload_n 1) 18 := ⟨by decide +kernel, rfl⟩
theorem dX8_comesBack_18 : uD 1 cX8_comesBack 18 (.iaload) 19 := ⟨by decide +kernel, rfl⟩
theorem dX8_comesBack_19 : uD 1 cX8_comesBack 19 (.iastore) 20 := ⟨by decide +kernel, rfl⟩
theorem dX8_comesBack_20 : uD 3 cX8_comesBack 20 (.iinc 1 1) 23 := ⟨by decide +kernel, rfl⟩
theorem dX8_comesBack_23 : uJ cX8_comesBack 23 (fun o => .goto o) 2 26 := ⟨(-21), by decide +kernel, by decide, rfl⟩
theorem dX8_comesBack_26 : uD 1 cX8_comesBack 26 (.return_) 27 := ⟨by decide +kernel, rfl⟩
theorem dX8_minutesLeft_0 : uD 1 cX8_minutesLeft 0 (.aload_n 0) 1 := ⟨by decide +kernel, rfl⟩
theorem dX8_minutesLeft_1 : uD 1 cX8_minutesLeft 1 (.iconst 0) 2 := ⟨by decide +kernel, rfl⟩
theorem dX8_minutesLeft_2 : uD 3 cX8_minutesLeft 2 (.putfield 49) 5 := ⟨by decide +kernel, rfl⟩
theorem dX8_minutesLeft_5 : uD 1 cX8_minutesLeft 5 (.aload_n 0) 6 := ⟨by decide +kernel, rfl⟩
theorem dX8_minutesLeft_6 : uD 3 cX8_minutesLeft 6 (.invokevirtual 254) 9 := ⟨by decide +kernel, rfl⟩
theorem dX8_minutesLeft_9 : uD 1 cX8_minutesLeft 9 (.istore_n 1) 10 := ⟨by decide +kernel, rfl⟩
theorem dX8_minutesLeft_10 : uD 1 cX8_minutesLeft 10 (.iload_n 1) 11 := ⟨by decide +kernel, rfl⟩
theorem dX8_minutesLeft_11 : uJ cX8_minutesLeft 11 (fun o => .ifCond .eq o) 24 14 := ⟨13, by decide +kernel, by decide, rfl⟩
theorem dX8_minutesLeft_14 : uD 1 cX8_minutesLeft 14 (.iload_n 1) 15 := ⟨by decide +kernel, rfl⟩
theorem dX8_minutesLeft_15 : uD 1 cX8_minutesLeft 15 (.aload_n 0) 16 := ⟨by decide +kernel, rfl⟩
theorem dX8_minutesLeft_16 : uD 3 cX8_minutesLeft 16 (.getfield 7) 19 := ⟨by decide +kernel, rfl⟩
theorem dX8_minutesLeft_19 : uD 1 cX8_minutesLeft 19 (.iconst 1) 20 := ⟨by decide +kernel, rfl⟩
theorem dX8_minutesLeft_20 : uD 1 cX8_minutesLeft 20 (.iaload) 21 := ⟨by decide +kernel, rfl⟩
theorem dX8_minutesLeft_21 : uJ cX8_minutesLeft 21 (fun o => .if_icmp .le o) 26 24 := ⟨5, by decide +kernel, by decide, rfl⟩
theorem dX8_minutesLeft_24 : uD 1 cX8_minutesLeft 24 (.iconst (-1)) 25 := ⟨by decide +kernel, rfl⟩
theorem dX8_minutesLeft_25 : uD 1 cX8_minutesLeft 25 (.ireturn) 26 := ⟨by decide +kernel, rfl⟩
theorem dX8_minutesLeft_26 : uD 1 cX8_minutesLeft 26 (.aload_n 0) 27 := ⟨by decide +kernel, rfl⟩
theorem dX8_minutesLeft_27 : uD 3 cX8_minutesLeft 27 (.invokevirtual 269) 30 := ⟨by decide +kernel, rfl⟩
theorem dX8_minutesLeft_30 : uD 1 cX8_minutesLeft 30 (.iconst (-1)) 31 := ⟨by decide +kernel, rfl⟩
theorem dX8_minutesLeft_31 : uD 1 cX8_minutesLeft 31 (.istore_n 2) 32 := ⟨by decide +kernel, rfl⟩
theorem dX8_minutesLeft_32 : uD 1 cX8_minutesLeft 32 (.aload_n 0) 33 := ⟨by decide +kernel, rfl⟩
theorem dX8_minutesLeft_33 : uD 3 cX8_minutesLeft 33 (.getfield 7) 36 := ⟨by decide +kernel, rfl⟩
theorem dX8_minutesLeft_36 : uD 1 cX8_minutesLeft 36 (.iconst 1) 37 := ⟨by decide +kernel, rfl⟩
theorem dX8_minutesLeft_37 : uD 1 cX8_minutesLeft 37 (.iaload) 38 := ⟨by decide +kernel, rfl⟩
theorem dX8_minutesLeft_38 : uD 1 cX8_minutesLeft 38 (.iload_n 1) 39 := ⟨by decide +kernel, rfl⟩
theorem dX8_minutesLeft_39 : uJ cX8_minutesLeft 39 (fun o => .if_icmp .lt o) 52 42 := ⟨13, by decide +kernel, by decide, rfl⟩
theorem dX8_minutesLeft_42 : uD 3 cX8_minutesLeft 42 (.iinc 2 1) 45 := ⟨by decide +kernel, rfl⟩
theorem dX8_minutesLeft_45 : uD 1 cX8_minutesLeft 45 (.aload_n 0) 46 := ⟨by decide +kernel, rfl⟩
theorem dX8_minutesLeft_46 : uD 3 cX8_minutesLeft 46 (.invokevirtual 218) 49 := ⟨by decide +kernel, rfl⟩
theorem dX8_minutesLeft_49 : uJ cX8_minutesLeft 49 (fun o => .goto o) 32 52 := ⟨(-17), by decide +kernel, by decide, rfl⟩
theorem dX8_minutesLeft_52 : uD 1 cX8_minutesLeft 52 (.aload_n 0) 53 := ⟨by decide +kernel, rfl⟩
theorem dX8_minutesLeft_53 : uD 3 cX8_minutesLeft 53 (.invokevirtual 272) 56 := ⟨by decide +kernel, rfl⟩
theorem dX8_minutesLeft_56 : uD 1 cX8_minutesLeft 56 (.iload_n 2) 57 := ⟨by decide +kernel, rfl⟩
theorem dX8_minutesLeft_57 : uD 1 cX8_minutesLeft 57 (.ireturn) 58 := ⟨by decide +kernel, rfl⟩
theorem dX8_valueAfter_0 : uD 1 cX8_valueAfter 0 (.aload_n 0) 1 := ⟨by decide +kernel, rfl⟩
theorem dX8_valueAfter_1 : uD 1 cX8_valueAfter 1 (.iconst 0) 2 := ⟨by decide +kernel, rfl⟩
theorem dX8_valueAfter_2 : uD 3 cX8_valueAfter 2 (.putfield 49) 5 := ⟨by decide +kernel, rfl⟩
theorem dX8_valueAfter_5 : uD 1 cX8_valueAfter 5 (.aload_n 0) 6 := ⟨by decide +kernel, rfl⟩
theorem dX8_valueAfter_6 : uD 1 cX8_valueAfter 6 (.iload_n 1) 7 := ⟨by decide +kernel, rfl⟩
theorem dX8_valueAfter_7 : uD 1 cX8_valueAfter 7 (.iconst 0) 8 := ⟨by decide +kernel, rfl⟩
theorem dX8_valueAfter_8 : uD 3 cX8_valueAfter 8 (.sipush 1000) 11 := ⟨by decide +kernel, rfl⟩
theorem dX8_valueAfter_11 : uD 3 cX8_valueAfter 11 (.invokestatic 59) 14 := ⟨by decide +kernel, rfl⟩
theorem dX8_valueAfter_14 : uD 1 cX8_valueAfter 14 (.iconst 1) 15 := ⟨by decide +kernel, rfl⟩
theorem dX8_valueAfter_15 : uD 3 cX8_valueAfter 15 (.invokevirtual 55) 18 := ⟨by decide +kernel, rfl⟩
theorem dX8_valueAfter_18 : uJ cX8_valueAfter 18 (fun o => .ifCond .ne o) 23 21 := ⟨5, by decide +kernel, by decide, rfl⟩
theorem dX8_valueAfter_21 : uD 1 cX8_valueAfter 21 (.iconst 0) 22 := ⟨by decide +kernel, rfl⟩
theorem dX8_valueAfter_22 : uD 1 cX8_valueAfter 22 (.ireturn) 23 := ⟨by decide +kernel, rfl⟩
theorem dX8_valueAfter_23 : uD 1 cX8_valueAfter 23 (.aload_n 0) 24 := ⟨by decide +kernel, rfl⟩
theorem dX8_valueAfter_24 : uD 3 cX8_valueAfter 24 (.invokevirtual 269) 27 := ⟨by decide +kernel, rfl⟩
theorem dX8_valueAfter_27 : uD 1 cX8_valueAfter 27 (.iconst 0) 28 := ⟨by decide +kernel, rfl⟩
theorem dX8_valueAfter_28 : uD 1 cX8_valueAfter 28 (.istore_n 2) 29 := ⟨by decide +kernel, rfl⟩
theorem dX8_valueAfter_29 : uD 1 cX8_valueAfter 29 (.iload_n 2) 30 := ⟨by decide +kernel, rfl⟩
theorem dX8_valueAfter_30 : uD 1 cX8_valueAfter 30 (.iload_n 1) 31 := ⟨by decide +kernel, rfl⟩
theorem dX8_valueAfter_31 : uJ cX8_valueAfter 31 (fun o => .if_icmp .ge o) 53 34 := ⟨22, by decide +kernel, by decide, rfl⟩
theorem dX8_valueAfter_34 : uD 1 cX8_valueAfter 34 (.aload_n 0) 35 := ⟨by decide +kernel, rfl⟩
theorem dX8_valueAfter_35 : uD 3 cX8_valueAfter 35 (.getfield 7) 38 := ⟨by decide +kernel, rfl⟩
theorem dX8_valueAfter_38 : uD 1 cX8_valueAfter 38 (.iconst 1) 39 := ⟨by decide +kernel, rfl⟩
theorem dX8_valueAfter_39 : uD 1 cX8_valueAfter 39 (.iaload) 40 := ⟨by decide +kernel, rfl⟩
theorem dX8_valueAfter_40 : uJ cX8_valueAfter 40 (fun o => .ifCond .le o) 53 43 := ⟨13, by decide +kernel, by decide, rfl⟩
theorem dX8_valueAfter_43 : uD 1 cX8_valueAfter 43 (.aload_n 0) 44 := ⟨by decide +kernel, rfl⟩
theorem dX8_valueAfter_44 : uD 3 cX8_valueAfter 44 (.invokevirtual 218) 47 := ⟨by decide +kernel, rfl⟩
theorem dX8_valueAfter_47 : uD 3 cX8_valueAfter 47 (.iinc 2 1) 50 := ⟨by decide +kernel, rfl⟩
theorem dX8_valueAfter_50 : uJ cX8_valueAfter 50 (fun o => .goto o) 29 53 := ⟨(-21), by decide +kernel, by decide, rfl⟩
theorem dX8_valueAfter_53 : uD 1 cX8_valueAfter 53 (.aload_n 0) 54 := ⟨by decide +kernel, rfl⟩
theorem dX8_valueAfter_54 : uD 3 cX8_valueAfter 54 (.getfield 7) 57 := ⟨by decide +kernel, rfl⟩
theorem dX8_valueAfter_57 : uD 1 cX8_valueAfter 57 (.iconst 1) 58 := ⟨by decide +kernel, rfl⟩
theorem dX8_valueAfter_58 : uD 1 cX8_valueAfter 58 (.iaload) 59 := ⟨by decide +kernel, rfl⟩
theorem dX8_valueAfter_59 : uJ cX8_valueAfter 59 (fun o => .ifCond .ne o) 66 62 := ⟨7, by decide +kernel, by decide, rfl⟩
theorem dX8_valueAfter_62 : uD 1 cX8_valueAfter 62 (.iconst 0) 63 := ⟨by decide +kernel, rfl⟩
theorem dX8_valueAfter_63 : uJ cX8_valueAfter 63 (fun o => .goto o) 83 66 := ⟨20, by decide +kernel, by decide, rfl⟩
theorem dX8_valueAfter_66 : uD 1 cX8_valueAfter 66 (.aload_n 0) 67 := ⟨by decide +kernel, rfl⟩
theorem dX8_valueAfter_67 : uD 1 cX8_valueAfter 67 (.aload_n 0) 68 := ⟨by decide +kernel, rfl⟩
theorem dX8_valueAfter_68 : uD 3 cX8_valueAfter 68 (.getfield 7) 71 := ⟨by decide +kernel, rfl⟩
theorem dX8_valueAfter_71 : uD 2 cX8_valueAfter 71 (.bipush 25) 73 := ⟨by decide +kernel, rfl⟩
theorem dX8_valueAfter_73 : uD 1 cX8_valueAfter 73 (.iaload) 74 := ⟨by decide +kernel, rfl⟩
theorem dX8_valueAfter_74 : uD 1 cX8_valueAfter 74 (.aload_n 0) 75 := ⟨by decide +kernel, rfl⟩
theorem dX8_valueAfter_75 : uD 3 cX8_valueAfter 75 (.getfield 7) 78 := ⟨by decide +kernel, rfl⟩
theorem dX8_valueAfter_78 : uD 1 cX8_valueAfter 78 (.iconst 1) 79 := ⟨by decide +kernel, rfl⟩
theorem dX8_valueAfter_79 : uD 1 cX8_valueAfter 79 (.iaload) 80 := ⟨by decide +kernel, rfl⟩
theorem dX8_valueAfter_80 : uD 3 cX8_valueAfter 80 (.invokevirtual 263) 83 := ⟨by decide +kernel, rfl⟩
theorem dX8_valueAfter_83 : uD 1 cX8_valueAfter 83 (.istore_n 2) 84 := ⟨by decide +kernel, rfl⟩
theorem dX8_valueAfter_84 : uD 1 cX8_valueAfter 84 (.aload_n 0) 85 := ⟨by decide +kernel, rfl⟩
theorem dX8_valueAfter_85 : uD 3 cX8_valueAfter 85 (.invokevirtual 272) 88 := ⟨by decide +kernel, rfl⟩
theorem dX8_valueAfter_88 : uD 1 cX8_valueAfter 88 (.iload_n 2) 89 := ⟨by decide +kernel, rfl⟩
theorem dX8_valueAfter_89 : uD 1 cX8_valueAfter 89 (.ireturn) 90 := ⟨by decide +kernel, rfl⟩
theorem dX8_minutesToSafety_0 : uD 1 cX8_minutesToSafety 0 (.aload_n 0) 1 := ⟨by decide +kernel, rfl⟩
theorem dX8_minutesToSafety_1 : uD 1 cX8_minutesToSafety 1 (.iconst 0) 2 := ⟨by decide +kernel, rfl⟩
theorem dX8_minutesToSafety_2 : uD 3 cX8_minutesToSafety 2 (.putfield 49) 5 := ⟨by decide +kernel, rfl⟩
theorem dX8_minutesToSafety_5 : uD 1 cX8_minutesToSafety 5 (.aload_n 0) 6 := ⟨by decide +kernel, rfl⟩
theorem dX8_minutesToSafety_6 : uD 3 cX8_minutesToSafety 6 (.invokevirtual 254) 9 := ⟨by decide +kernel, rfl⟩
theorem dX8_minutesToSafety_9 : uD 1 cX8_minutesToSafety 9 (.aload_n 0) 10 := ⟨by decide +kernel, rfl⟩
theorem dX8_minutesToSafety_10 : uD 3 cX8_minutesToSafety 10 (.getfield 7) 13 := ⟨by decide +kernel, rfl⟩
theorem dX8_minutesToSafety_13 : uD 1 cX8_minutesToSafety 13 (.iconst 5) 14 := ⟨by decide +kernel, rfl⟩
theorem dX8_minutesToSafety_14 : uD 1 cX8_minutesToSafety 14 (.iaload) 15 := ⟨by decide +kernel, rfl⟩
theorem dX8_minutesToSafety_15 : uD 1 cX8_minutesToSafety 15 (.iadd) 16 := ⟨by decide +kernel, rfl⟩
theorem dX8_minutesToSafety_16 : uD 1 cX8_minutesToSafety 16 (.istore_n 1) 17 := ⟨by decide +kernel, rfl⟩
theorem dX8_minutesToSafety_17 : uD 1 cX8_minutesToSafety 17 (.aload_n 0) 18 := ⟨by decide +kernel, rfl⟩
theorem dX8_minutesToSafety_18 : uD 3 cX8_minutesToSafety 18 (.getfield 7) 21 := ⟨by decide +kernel, rfl⟩
theorem dX8_minutesToSafety_21 : uD 1 cX8_minutesToSafety 21 (.iconst 1) 22 := ⟨by decide +kernel, rfl⟩
theorem dX8_minutesToSafety_22 : uD 1 cX8_minutesToSafety 22 (.iaload) 23 := ⟨by decide +kernel, rfl⟩
theorem dX8_minutesToSafety_23 : uD 1 cX8_minutesToSafety 23 (.iload_n 1) 24 := ⟨by decide +kernel, rfl⟩
theorem dX8_minutesToSafety_24 : uJ cX8_minutesToSafety 24 (fun o => .if_icmp .lt o) 29 27 := ⟨5, by decide +kernel, by decide, rfl⟩
theorem dX8_minutesToSafety_27 : uD 1 cX8_minutesToSafety 27 (.iconst 0) 28 := ⟨by decide +kernel, rfl⟩
theorem dX8_minutesToSafety_28 : uD 1 cX8_minutesToSafety 28 (.ireturn) 29 := ⟨by decide +kernel, rfl⟩
theorem dX8_minutesToSafety_29 : uD 1 cX8_minutesToSafety 29 (.iload_n 1) 30 := ⟨by decide +kernel, rfl⟩
theorem dX8_minutesToSafety_30 : uD 1 cX8_minutesToSafety 30 (.aload_n 0) 31 := ⟨by decide +kernel, rfl⟩
theorem dX8_minutesToSafety_31 : uD 3 cX8_minutesToSafety 31 (.getfield 7) 34 := ⟨by decide +kernel, rfl⟩
theorem dX8_minutesToSafety_34 : uD 1 cX8_minutesToSafety 34 (.iconst 0) 35 := ⟨by decide +kernel, rfl⟩
theorem dX8_minutesToSafety_35 : uD 1 cX8_minutesToSafety 35 (.iaload) 36 := ⟨by decide +kernel, rfl⟩
theorem dX8_minutesToSafety_36 : uJ cX8_minutesToSafety 36 (fun o => .if_icmp .gt o) 48 39 := ⟨12, by decide +kernel, by decide, rfl⟩
theorem dX8_minutesToSafety_39 : uD 1 cX8_minutesToSafety 39 (.aload_n 0) 40 := ⟨by decide +kernel, rfl⟩
theorem dX8_minutesToSafety_40 : uD 3 cX8_minutesToSafety 40 (.getfield 7) 43 := ⟨by decide +kernel, rfl⟩
theorem dX8_minutesToSafety_43 : uD 1 cX8_minutesToSafety 43 (.iconst 2) 44 := ⟨by decide +kernel, rfl⟩
theorem dX8_minutesToSafety_44 : uD 1 cX8_minutesToSafety 44 (.iaload) 45 := ⟨by decide +kernel, rfl⟩
theorem dX8_minutesToSafety_45 : uJ cX8_minutesToSafety 45 (fun o => .ifCond .ne o) 50 48 := ⟨5, by decide +kernel, by decide, rfl⟩
theorem dX8_minutesToSafety_48 : uD 1 cX8_minutesToSafety 48 (.iconst (-1)) 49 := ⟨by decide +kernel, rfl⟩
theorem dX8_minutesToSafety_49 : uD 1 cX8_minutesToSafety 49 (.ireturn) 50 := ⟨by decide +kernel, rfl⟩
theorem dX8_minutesToSafety_50 : uD 1 cX8_minutesToSafety 50 (.iload_n 1) 51 := ⟨by decide +kernel, rfl⟩
theorem dX8_minutesToSafety_51 : uD 1 cX8_minutesToSafety 51 (.aload_n 0) 52 := ⟨by decide +kernel, rfl⟩
theorem dX8_minutesToSafety_52 : uD 3 cX8_minutesToSafety 52 (.getfield 7) 55 := ⟨by decide +kernel, rfl⟩
theorem dX8_minutesToSafety_55 : uD 1 cX8_minutesToSafety 55 (.iconst 1) 56 := ⟨by decide +kernel, rfl⟩
theorem dX8_minutesToSafety_56 : uD 1 cX8_minutesToSafety 56 (.iaload) 57 := ⟨by decide +kernel, rfl⟩
theorem dX8_minutesToSafety_57 : uD 1 cX8_minutesToSafety 57 (.isub) 58 := ⟨by decide +kernel, rfl⟩
theorem dX8_minutesToSafety_58 : uD 1 cX8_minutesToSafety 58 (.aload_n 0) 59 := ⟨by decide +kernel, rfl⟩
theorem dX8_minutesToSafety_59 : uD 3 cX8_minutesToSafety 59 (.getfield 7) 62 := ⟨by decide +kernel, rfl⟩
theorem dX8_minutesToSafety_62 : uD 1 cX8_minutesToSafety 62 (.iconst 2) 63 := ⟨by decide +kernel, rfl⟩
theorem dX8_minutesToSafety_63 : uD 1 cX8_minutesToSafety 63 (.iaload) 64 := ⟨by decide +kernel, rfl⟩
theorem dX8_minutesToSafety_64 : uD 1 cX8_minutesToSafety 64 (.iadd) 65 := ⟨by decide +kernel, rfl⟩
theorem dX8_minutesToSafety_65 : uD 1 cX8_minutesToSafety 65 (.iconst 1) 66 := ⟨by decide +kernel, rfl⟩
theorem dX8_minutesToSafety_66 : uD 1 cX8_minutesToSafety 66 (.isub) 67 := ⟨by decide +kernel, rfl⟩
theorem dX8_minutesToSafety_67 : uD 1 cX8_minutesToSafety 67 (.aload_n 0) 68 := ⟨by decide +kernel, rfl⟩
theorem dX8_minutesToSafety_68 : uD 3 cX8_minutesToSafety 68 (.getfield 7) 71 := ⟨by decide +kernel, rfl⟩
theorem dX8_minutesToSafety_71 : uD 1 cX8_minutesToSafety 71 (.iconst 2) 72 := ⟨by decide +kernel, rfl⟩
theorem dX8_minutesToSafety_72 : uD 1 cX8_minutesToSafety 72 (.iaload) 73 := ⟨by decide +kernel, rfl⟩
theorem dX8_minutesToSafety_73 : uD 1 cX8_minutesToSafety 73 (.idiv) 74 := ⟨by decide +kernel, rfl⟩
theorem dX8_minutesToSafety_74 : uD 1 cX8_minutesToSafety 74 (.ireturn) 75 := ⟨by decide +kernel, rfl⟩
theorem dX8_gainOfRepair_0 : uD 1 cX8_gainOfRepair 0 (.aload_n 0) 1 := ⟨by decide +kernel, rfl⟩
theorem dX8_gainOfRepair_1 : uD 1 cX8_gainOfRepair 1 (.iconst 0) 2 := ⟨by decide +kernel, rfl⟩
theorem dX8_gainOfRepair_2 : uD 3 cX8_gainOfRepair 2 (.putfield 49) 5 := ⟨by decide +kernel, rfl⟩
theorem dX8_gainOfRepair_5 : uD 1 cX8_gainOfRepair 5 (.aload_n 0) 6 := ⟨by decide +kernel, rfl⟩
theorem dX8_gainOfRepair_6 : uD 1 cX8_gainOfRepair 6 (.aload_n 0) 7 := ⟨by decide +kernel, rfl⟩
theorem dX8_gainOfRepair_7 : uD 1 cX8_gainOfRepair 7 (.iload_n 1) 8 := ⟨by decide +kernel, rfl⟩
theorem dX8_gainOfRepair_8 : uD 3 cX8_gainOfRepair 8 (.invokevirtual 178) 11 := ⟨by decide +kernel, rfl⟩
theorem dX8_gainOfRepair_11 : uD 1 cX8_gainOfRepair 11 (.iconst 1) 12 := ⟨by decide +kernel, rfl⟩
theorem dX8_gainOfRepair_12 : uD 3 cX8_gainOfRepair 12 (.invokevirtual 55) 15 := ⟨by decide +kernel, rfl⟩
theorem dX8_gainOfRepair_15 : uJ cX8_gainOfRepair 15 (fun o => .ifCond .ne o) 20 18 := ⟨5, by decide +kernel, by decide, rfl⟩
theorem dX8_gainOfRepair_18 : uD 1 cX8_gainOfRepair 18 (.iconst 0) 19 := ⟨by decide +kernel, rfl⟩
theorem dX8_gainOfRepair_19 : uD 1 cX8_gainOfRepair 19 (.ireturn) 20 := ⟨by decide +kernel, rfl⟩
theorem dX8_gainOfRepair_20 : uD 1 cX8_gainOfRepair 20 (.aload_n 0) 21 := ⟨by decide +kernel, rfl⟩
theorem dX8_gainOfRepair_21 : uD 1 cX8_gainOfRepair 21 (.aload_n 0) 22 := ⟨by decide +kernel, rfl⟩
theorem dX8_gainOfRepair_22 : uD 3 cX8_gainOfRepair 22 (.getfield 7) 25 := ⟨by decide +kernel, rfl⟩
theorem dX8_gainOfRepair_25 : uD 2 cX8_gainOfRepair 25 (.bipush 25) 27 := ⟨by decide +kernel, rfl⟩
theorem dX8_gainOfRepair_27 : uD 1 cX8_gainOfRepair 27 (.iaload) 28 := ⟨by decide +kernel, rfl⟩
theorem dX8_gainOfRepair_28 : uD 1 cX8_gainOfRepair 28 (.aload_n 0) 29 := ⟨by decide +kernel, rfl⟩
theorem dX8_gainOfRepair_29 : uD 3 cX8_gainOfRepair 29 (.getfield 7) 32 := ⟨by decide +kernel, rfl⟩
theorem dX8_gainOfRepair_32 : uD 1 cX8_gainOfRepair 32 (.iconst 1) 33 := ⟨by decide +kernel, rfl⟩
theorem dX8_gainOfRepair_33 : uD 1 cX8_gainOfRepair 33 (.iaload) 34 := ⟨by decide +kernel, rfl⟩
theorem dX8_gainOfRepair_34 : uD 3 cX8_gainOfRepair 34 (.invokevirtual 263) 37 := ⟨by decide +kernel, rfl⟩
theorem dX8_gainOfRepair_37 : uD 1 cX8_gainOfRepair 37 (.istore_n 2) 38 := ⟨by decide +kernel, rfl⟩
theorem dX8_gainOfRepair_38 : uD 1 cX8_gainOfRepair 38 (.aload_n 0) 39 := ⟨by decide +kernel, rfl⟩
theorem dX8_gainOfRepair_39 : uD 1 cX8_gainOfRepair 39 (.aload_n 0) 40 := ⟨by decide +kernel, rfl⟩
theorem dX8_gainOfRepair_40 : uD 3 cX8_gainOfRepair 40 (.getfield 7) 43 := ⟨by decide +kernel, rfl⟩
theorem dX8_gainOfRepair_43 : uD 2 cX8_gainOfRepair 43 (.bipush 25) 45 := ⟨by decide +kernel, rfl⟩
theorem dX8_gainOfRepair_45 : uD 1 cX8_gainOfRepair 45 (.iaload) 46 := ⟨by decide +kernel, rfl⟩
theorem dX8_gainOfRepair_46 : uD 1 cX8_gainOfRepair 46 (.iconst 1) 47 := ⟨by decide +kernel, rfl⟩
theorem dX8_gainOfRepair_47 : uD 1 cX8_gainOfRepair 47 (.iload_n 1) 48 := ⟨by decide +kernel, rfl⟩
theorem dX8_gainOfRepair_48 : uD 1 cX8_gainOfRepair 48 (.ishl) 49 := ⟨by decide +kernel, rfl⟩
theorem dX8_gainOfRepair_49 : uD 1 cX8_gainOfRepair 49 (.iconst (-1)) 50 := ⟨by decide +kernel, rfl⟩
theorem dX8_gainOfRepair_50 : uD 1 cX8_gainOfRepair 50 (.ixor) 51 := ⟨by decide +kernel, rfl⟩
theorem dX8_gainOfRepair_51 : uD 1 cX8_gainOfRepair 51 (.iand) 52 := ⟨by decide +kernel, rfl⟩
theorem dX8_gainOfRepair_52 : uD 1 cX8_gainOfRepair 52 (.aload_n 0) 53 := ⟨by decide +kernel, rfl⟩
theorem dX8_gainOfRepair_53 : uD 3 cX8_gainOfRepair 53 (.getfield 7) 56 := ⟨by decide +kernel, rfl⟩
theorem dX8_gainOfRepair_56 : uD 1 cX8_gainOfRepair 56 (.iconst 1) 57 := ⟨by decide +kernel, rfl⟩
theorem dX8_gainOfRepair_57 : uD 1 cX8_gainOfRepair 57 (.iaload) 58 := ⟨by decide +kernel, rfl⟩
theorem dX8_gainOfRepair_58 : uD 3 cX8_gainOfRepair 58 (.invokevirtual 263) 61 := ⟨by decide +kernel, rfl⟩
theorem dX8_gainOfRepair_61 : uD 1 cX8_gainOfRepair 61 (.iload_n 2) 62 := ⟨by decide +kernel, rfl⟩
theorem dX8_gainOfRepair_62 : uD 1 cX8_gainOfRepair 62 (.isub) 63 := ⟨by decide +kernel, rfl⟩
theorem dX8_gainOfRepair_63 : uD 1 cX8_gainOfRepair 63 (.ireturn) 64 := ⟨by decide +kernel, rfl⟩
theorem dX8_costliest_0 : uD 1 cX8_costliest 0 (.aload_n 0) 1 := ⟨by decide +kernel, rfl⟩
theorem dX8_costliest_1 : uD 1 cX8_costliest 1 (.iconst 0) 2 := ⟨by decide +kernel, rfl⟩
theorem dX8_costliest_2 : uD 3 cX8_costliest 2 (.putfield 49) 5 := ⟨by decide +kernel, rfl⟩
theorem dX8_costliest_5 : uD 1 cX8_costliest 5 (.iconst (-1)) 6 := ⟨by decide +kernel, rfl⟩
theorem dX8_costliest_6 : uD 1 cX8_costliest 6 (.istore_n 1) 7 := ⟨by decide +kernel, rfl⟩
theorem dX8_costliest_7 : uD 1 cX8_costliest 7 (.iconst 0) 8 := ⟨by decide +kernel, rfl⟩
theorem dX8_costliest_8 : uD 1 cX8_costliest 8 (.istore_n 2) 9 := ⟨by decide +kernel, rfl⟩
theorem dX8_costliest_9 : uD 1 cX8_costliest 9 (.iload_n 2) 10 := ⟨by decide +kernel, rfl⟩
theorem dX8_costliest_10 : uD 1 cX8_costliest 10 (.aload_n 0) 11 := ⟨by decide +kernel, rfl⟩
theorem dX8_costliest_11 : uD 3 cX8_costliest 11 (.getfield 7) 14 := ⟨by decide +kernel, rfl⟩
theorem dX8_costliest_14 : uD 2 cX8_costliest 14 (.bipush 9) 16 := ⟨by decide +kernel, rfl⟩
theorem dX8_costliest_16 : uD 1 cX8_costliest 16 (.iaload) 17 := ⟨by decide +kernel, rfl⟩
theorem dX8_costliest_17 : uJ cX8_costliest 17 (fun o => .if_icmp .ge o) 97 20 := ⟨80, by decide +kernel, by decide, rfl⟩
theorem dX8_costliest_20 : uD 1 cX8_costliest 20 (.aload_n 0) 21 := ⟨by decide +kernel, rfl⟩
theorem dX8_costliest_21 : uD 1 cX8_costliest 21 (.iload_n 2) 22 := ⟨by decide +kernel, rfl⟩
theorem dX8_costliest_22 : uD 3 cX8_costliest 22 (.invokevirtual 181) 25 := ⟨by decide +kernel, rfl⟩
theorem dX8_costliest_25 : uD 1 cX8_costliest 25 (.istore_n 3) 26 := ⟨by decide +kernel, rfl⟩
theorem dX8_costliest_26 : uD 1 cX8_costliest 26 (.iload_n 3) 27 := ⟨by decide +kernel, rfl⟩
theorem dX8_costliest_27 : uJ cX8_costliest 27 (fun o => .ifCond .eq o) 91 30 := ⟨64, by decide +kernel, by decide, rfl⟩
theorem dX8_costliest_30 : uD 1 cX8_costliest 30 (.aload_n 0) 31 := ⟨by decide +kernel, rfl⟩
theorem dX8_costliest_31 : uD 1 cX8_costliest 31 (.iload_n 2) 32 := ⟨by decide +kernel, rfl⟩
theorem dX8_costliest_32 : uD 3 cX8_costliest 32 (.invokevirtual 169) 35 := ⟨by decide +kernel, rfl⟩
theorem dX8_costliest_35 : uJ cX8_costliest 35 (fun o => .ifCond .eq o) 41 38 := ⟨6, by decide +kernel, by decide, rfl⟩
theorem dX8_costliest_38 : uJ cX8_costliest 38 (fun o => .goto o) 91 41 := ⟨53, by decide +kernel, by decide, rfl⟩
theorem dX8_costliest_41 : uD 1 cX8_costliest 41 (.iload_n 1) 42 := ⟨by decide +kernel, rfl⟩
theorem dX8_costliest_42 : uD 1 cX8_costliest 42 (.iconst (-1)) 43 := ⟨by decide +kernel, rfl⟩
theorem dX8_costliest_43 : uJ cX8_costliest 43 (fun o => .if_icmp .ne o) 50 46 := ⟨7, by decide +kernel, by decide, rfl⟩
theorem dX8_costliest_46 : uD 1 cX8_costliest 46 (.iconst 0) 47 := ⟨by decide +kernel, rfl⟩
theorem dX8_costliest_47 : uJ cX8_costliest 47 (fun o => .goto o) 55 50 := ⟨8, by decide +kernel, by decide, rfl⟩
theorem dX8_costliest_50 : uD 1 cX8_costliest 50 (.aload_n 0) 51 := ⟨by decide +kernel, rfl⟩
theorem dX8_costliest_51 : uD 1 cX8_costliest 51 (.iload_n 1) 52 := ⟨by decide +kernel, rfl⟩
theorem dX8_costliest_52 : uD 3 cX8_costliest 52 (.invokevirtual 181) 55 := ⟨by decide +kernel, rfl⟩
theorem dX8_costliest_55 : uD 2 cX8_costliest 55 (.istore 4) 57 := ⟨by decide +kernel, rfl⟩
theorem dX8_costliest_57 : uD 1 cX8_costliest 57 (.iload_n 1) 58 := ⟨by decide +kernel, rfl⟩
theorem dX8_costliest_58 : uD 1 cX8_costliest 58 (.iconst (-1)) 59 := ⟨by decide +kernel, rfl⟩
theorem dX8_costliest_59 : uJ cX8_costliest 59 (fun o => .if_icmp .eq o) 89 62 := ⟨30, by decide +kernel, by decide, rfl⟩
theorem dX8_costliest_62 : uD 1 cX8_costliest 62 (.aload_n 0) 63 := ⟨by decide +kernel, rfl⟩
theorem dX8_costliest_63 : uD 1 cX8_costliest 63 (.iload_n 3) 64 := ⟨by decide +kernel, rfl⟩
theorem dX8_costliest_64 : uD 3 cX8_costliest 64 (.invokevirtual 175) 67 := ⟨by decide +kernel, rfl⟩
theorem dX8_costliest_67 : uD 1 cX8_costliest 67 (.aload_n 0) 68 := ⟨by decide +kernel, rfl⟩
theorem dX8_costliest_68 : uD 2 cX8_costliest 68 (.iload 4) 70 := ⟨by decide +kernel, rfl⟩
theorem dX8_costliest_70 : uD 3 cX8_costliest 70 (.invokevirtual 187) 73 := ⟨by decide +kernel, rfl⟩
theorem dX8_costliest_73 : uD 1 cX8_costliest 73 (.imul) 74 := ⟨by decide +kernel, rfl⟩
theorem dX8_costliest_74 : uD 1 cX8_costliest 74 (.aload_n 0) 75 := ⟨by decide +kernel, rfl⟩
theorem dX8_costliest_75 : uD 2 cX8_costliest 75 (.iload 4) 77 := ⟨by decide +kernel, rfl⟩
theorem dX8_costliest_77 : uD 3 cX8_costliest 77 (.invokevirtual 175) 80 := ⟨by decide +kernel, rfl⟩
theorem dX8_costliest_80 : uD 1 cX8_costliest 80 (.aload_n 0) 81 := ⟨by decide +kernel, rfl⟩
theorem dX8_costliest_81 : uD 1 cX8_costliest 81 (.iload_n 3) 82 := ⟨by decide +kernel, rfl⟩
theorem dX8_costliest_82 : uD 3 cX8_costliest 82 (.invokevirtual 187) 85 := ⟨by decide +kernel, rfl⟩
theorem dX8_costliest_85 : uD 1 cX8_costliest 85 (.imul) 86 := ⟨by decide +kernel, rfl⟩
theorem dX8_costliest_86 : uJ cX8_costliest 86 (fun o => .if_icmp .le o) 91 89 := ⟨5, by decide +kernel, by decide, rfl⟩
theorem dX8_costliest_89 : uD 1 cX8_costliest 89 (.iload_n 2) 90 := ⟨by decide +kernel, rfl⟩
theorem dX8_costliest_90 : uD 1 cX8_costliest 90 (.istore_n 1) 91 := ⟨by decide +kernel, rfl⟩
theorem dX8_costliest_91 : uD 3 cX8_costliest 91 (.iinc 2 1) 94 := ⟨by decide +kernel, rfl⟩
theorem dX8_costliest_94 : uJ cX8_costliest 94 (fun o => .goto o) 9 97 := ⟨(-85), by decide +kernel, by decide, rfl⟩
theorem dX8_costliest_97 : uD 1 cX8_costliest 97 (.aload_n 0) 98 := ⟨by decide +kernel, rfl⟩
theorem dX8_costliest_98 : uD 1 cX8_costliest 98 (.iload_n 1) 99 := ⟨by decide +kernel, rfl⟩
theorem dX8_costliest_99 : uD 1 cX8_costliest 99 (.iconst (-1)) 100 := ⟨by decide +kernel, rfl⟩
theorem dX8_costliest_100 : uJ cX8_costliest 100 (fun o => .if_icmp .eq o) 107 103 := ⟨7, by decide +kernel, by decide, rfl⟩
theorem dX8_costliest_103 : uD 1 cX8_costliest 103 (.iconst 1) 104 := ⟨by decide +kernel, rfl⟩
theorem dX8_costliest_104 : uJ cX8_costliest 104 (fun o => .goto o) 108 107 := ⟨4, by decide +kernel, by decide, rfl⟩
theorem dX8_costliest_107 : uD 1 cX8_costliest 107 (.iconst 0) 108 := ⟨by decide +kernel, rfl⟩
theorem dX8_costliest_108 : uD 1 cX8_costliest 108 (.iconst 1) 109 := ⟨by decide +kernel, rfl⟩
theorem dX8_costliest_109 : uD 3 cX8_costliest 109 (.invokevirtual 55) 112 := ⟨by decide +kernel, rfl⟩
theorem dX8_costliest_112 : uJ cX8_costliest 112 (fun o => .ifCond .eq o) 119 115 := ⟨7, by decide +kernel, by decide, rfl⟩
theorem dX8_costliest_115 : uD 1 cX8_costliest 115 (.iload_n 1) 116 := ⟨by decide +kernel, rfl⟩
theorem dX8_costliest_116 : uJ cX8_costliest 116 (fun o => .goto o) 120 119 := ⟨4, by decide +kernel, by decide, rfl⟩
theorem dX8_costliest_119 : uD 1 cX8_costliest 119 (.iconst 0) 120 := ⟨by decide +kernel, rfl⟩
theorem dX8_costliest_120 : uD 1 cX8_costliest 120 (.ireturn) 121 := ⟨by decide +kernel, rfl⟩
theorem dX8_save_0 : uD 1 cX8_save 0 (.aload_n 0) 1 := ⟨by decide +kernel, rfl⟩
theorem dX8_save_1 : uD 1 cX8_save 1 (.iconst 0) 2 := ⟨by decide +kernel, rfl⟩
theorem dX8_save_2 : uD 3 cX8_save 2 (.putfield 49) 5 := ⟨by decide +kernel, rfl⟩
theorem dX8_save_5 : uD 1 cX8_save 5 (.aload_n 0) 6 := ⟨by decide +kernel, rfl⟩
theorem dX8_save_6 : uD 1 cX8_save 6 (.iload_n 1) 7 := ⟨by decide +kernel, rfl⟩
theorem dX8_save_7 : uD 1 cX8_save 7 (.iconst 0) 8 := ⟨by decide +kernel, rfl⟩
theorem dX8_save_8 : uD 1 cX8_save 8 (.iconst 1) 9 := ⟨by decide +kernel, rfl⟩
theorem dX8_save_9 : uD 3 cX8_save 9 (.invokestatic 59) 12 := ⟨by decide +kernel, rfl⟩
theorem dX8_save_12 : uD 1 cX8_save 12 (.iconst 1) 13 := ⟨by decide +kernel, rfl⟩
theorem dX8_save_13 : uD 3 cX8_save 13 (.invokevirtual 55) 16 := ⟨by decide +kernel, rfl⟩
theorem dX8_save_16 : uJ cX8_save 16 (fun o => .ifCond .ne o) 20 19 := ⟨4, by decide +kernel, by decide, rfl⟩
theorem dX8_save_19 : uD 1 cX8_save 19 (.return_) 20 := ⟨by decide +kernel, rfl⟩
theorem dX8_save_20 : uD 1 cX8_save 20 (.aload_n 0) 21 := ⟨by decide +kernel, rfl⟩
theorem dX8_save_21 : uD 3 cX8_save 21 (.getfield 22) 24 := ⟨by decide +kernel, rfl⟩
theorem dX8_save_24 : uD 1 cX8_save 24 (.iload_n 1) 25 := ⟨by decide +kernel, rfl⟩
theorem dX8_save_25 : uD 1 cX8_save 25 (.iconst 1) 26 := ⟨by decide +kernel, rfl⟩
theorem dX8_save_26 : uD 1 cX8_save 26 (.bastore) 27 := ⟨by decide +kernel, rfl⟩
theorem dX8_save_27 : uD 1 cX8_save 27 (.iconst 0) 28 := ⟨by decide +kernel, rfl⟩
theorem dX8_save_28 : uD 1 cX8_save 28 (.istore_n 2) 29 := ⟨by decide +kernel, rfl⟩
theorem dX8_save_29 : uD 1 cX8_save 29 (.iload_n 2) 30 := ⟨by decide +kernel, rfl⟩
theorem dX8_save_30 : uD 2 cX8_save 30 (.bipush 109) 32 := ⟨by decide +kernel, rfl⟩
theorem dX8_save_32 : uJ cX8_save 32 (fun o => .if_icmp .ge o) 58 35 := ⟨26, by decide +kernel, by decide, rfl⟩
theorem dX8_save_35 : uD 1 cX8_save 35 (.aload_n 0) 36 := ⟨by decide +kernel, rfl⟩
theorem dX8_save_36 : uD 3 cX8_save 36 (.getfield 16) 39 := ⟨by decide +kernel, rfl⟩
theorem dX8_save_39 : uD 2 cX8_save 39 (.bipush 109) 41 := ⟨by decide +kernel, rfl⟩
theorem dX8_save_41 : uD 1 cX8_save 41 (.iload_n 1) 42 := ⟨by decide +kernel, rfl⟩
theorem dX8_save_42 : uD 1 cX8_save 42 (.imul) 43 := ⟨by decide +kernel, rfl⟩
theorem dX8_save_43 : uD 1 cX8_save 43 (.iload_n 2) 44 := ⟨by decide +kernel, rfl⟩
theorem dX8_save_44 : uD 1 cX8_save 44 (.iadd) 45 := ⟨by decide +kernel, rfl⟩
theorem dX8_save_45 : uD 1 cX8_save 45 (.aload_n 0) 46 := ⟨by decide +kernel, rfl⟩
theorem dX8_save_46 : uD 3 cX8_save 46 (.getfield 7) 49 := ⟨by decide +kernel, rfl⟩
theorem dX8_save_49 : uD 1 cX8_save 49 (.iload_n 2) 50 := ⟨by decide +kernel, rfl⟩
theorem dX8_save_50 : uD 1 cX8_save 50 (.iaload) 51 := ⟨by decide +kernel, rfl⟩
theorem dX8_save_51 : uD 1 cX8_save 51 (.iastore) 52 := ⟨by decide +kernel, rfl⟩
theorem dX8_save_52 : uD 3 cX8_save 52 (.iinc 2 1) 55 := ⟨by decide +kernel, rfl⟩
theorem dX8_save_55 : uJ cX8_save 55 (fun o => .goto o) 29 58 := ⟨(-26), by decide +kernel, by decide, rfl⟩
theorem dX8_save_58 : uD 1 cX8_save 58 (.return_) 59 := ⟨by decide +kernel, rfl⟩
theorem dX8_restore_0 : uD 1 cX8_restore 0 (.aload_n 0) 1 := ⟨by decide +kernel, rfl⟩
theorem dX8_restore_1 : uD 1 cX8_restore 1 (.iconst 0) 2 := ⟨by decide +kernel, rfl⟩
theorem dX8_restore_2 : uD 3 cX8_restore 2 (.putfield 49) 5 := ⟨by decide +kernel, rfl⟩
theorem dX8_restore_5 : uD 1 cX8_restore 5 (.aload_n 0) 6 := ⟨by decide +kernel, rfl⟩
theorem dX8_restore_6 : uD 1 cX8_restore 6 (.iload_n 1) 7 := ⟨by decide +kernel, rfl⟩
theorem dX8_restore_7 : uD 1 cX8_restore 7 (.iconst 0) 8 := ⟨by decide +kernel, rfl⟩
theorem dX8_restore_8 : uD 1 cX8_restore 8 (.iconst 1) 9 := ⟨by decide +kernel, rfl⟩
theorem dX8_restore_9 : uD 3 cX8_restore 9 (.invokestatic 59) 12 := ⟨by decide +kernel, rfl⟩
theorem dX8_restore_12 : uD 1 cX8_restore 12 (.iconst 1) 13 := ⟨by decide +kernel, rfl⟩
theorem dX8_restore_13 : uD 3 cX8_restore 13 (.invokevirtual 55) 16 := ⟨by decide +kernel, rfl⟩
theorem dX8_restore_16 : uJ cX8_restore 16 (fun o => .ifCond .eq o) 33 19 := ⟨17, by decide +kernel, by decide, rfl⟩
theorem dX8_restore_19 : uD 1 cX8_restore 19 (.aload_n 0) 20 := ⟨by decide +kernel, rfl⟩
theorem dX8_restore_20 : uD 1 cX8_restore 20 (.aload_n 0) 21 := ⟨by decide +kernel, rfl⟩
theorem dX8_restore_21 : uD 3 cX8_restore 21 (.getfield 22) 24 := ⟨by decide +kernel, rfl⟩
theorem dX8_restore_24 : uD 1 cX8_restore 24 (.iload_n 1) 25 := ⟨by decide +kernel, rfl⟩
theorem dX8_restore_25 : uD 1 cX8_restore 25 (.baload) 26 := ⟨by decide +kernel, rfl⟩
theorem dX8_restore_26 : uD 1 cX8_restore 26 (.iconst 2) 27 := ⟨by decide +kernel, rfl⟩
theorem dX8_restore_27 : uD 3 cX8_restore 27 (.invokevirtual 55) 30 := ⟨by decide +kernel, rfl⟩
theorem dX8_restore_30 : uJ cX8_restore 30 (fun o => .ifCond .ne o) 34 33 := ⟨4, by decide +kernel, by decide, rfl⟩
theorem dX8_restore_33 : uD 1 cX8_restore 33 (.return_) 34 := ⟨by decide +kernel, rfl⟩
theorem dX8_restore_34 : uD 1 cX8_restore 34 (.iconst 0) 35 := ⟨by decide +kernel, rfl⟩
theorem dX8_restore_35 : uD 1 cX8_restore 35 (.istore_n 2) 36 := ⟨by decide +kernel, rfl⟩
theorem dX8_restore_36 : uD 1 cX8_restore 36 (.iload_n 2) 37 := ⟨by decide +kernel, rfl⟩
theorem dX8_restore_37 : uD 2 cX8_restore 37 (.bipush 109) 39 := ⟨by decide +kernel, rfl⟩
theorem dX8_restore_39 : uJ cX8_restore 39 (fun o => .if_icmp .ge o) 65 42 := ⟨26, by decide +kernel, by decide, rfl⟩
theorem dX8_restore_42 : uD 1 cX8_restore 42 (.aload_n 0) 43 := ⟨by decide +kernel, rfl⟩
theorem dX8_restore_43 : uD 3 cX8_restore 43 (.getfield 7) 46 := ⟨by decide +kernel, rfl⟩
theorem dX8_restore_46 : uD 1 cX8_restore 46 (.iload_n 2) 47 := ⟨by decide +kernel, rfl⟩
theorem dX8_restore_47 : uD 1 cX8_restore 47 (.aload_n 0) 48 := ⟨by decide +kernel, rfl⟩
theorem dX8_restore_48 : uD 3 cX8_restore 48 (.getfield 16) 51 := ⟨by decide +kernel, rfl⟩
theorem dX8_restore_51 : uD 2 cX8_restore 51 (.bipush 109) 53 := ⟨by decide +kernel, rfl⟩
theorem dX8_restore_53 : uD 1 cX8_restore 53 (.iload_n 1) 54 := ⟨by decide +kernel, rfl⟩
theorem dX8_restore_54 : uD 1 cX8_restore 54 (.imul) 55 := ⟨by decide +kernel, rfl⟩
theorem dX8_restore_55 : uD 1 cX8_restore 55 (.iload_n 2) 56 := ⟨by decide +kernel, rfl⟩
theorem dX8_restore_56 : uD 1 cX8_restore 56 (.iadd) 57 := ⟨by decide +kernel, rfl⟩
theorem dX8_restore_57 : uD 1 cX8_restore 57 (.iaload) 58 := ⟨by decide +kernel, rfl⟩
theorem dX8_restore_58 : uD 1 cX8_restore 58 (.iastore) 59 := ⟨by decide +kernel, rfl⟩
theorem dX8_restore_59 : uD 3 cX8_restore 59 (.iinc 2 1) 62 := ⟨by decide +kernel, rfl⟩
theorem dX8_restore_62 : uJ cX8_restore 62 (fun o => .goto o) 36 65 := ⟨(-26), by decide +kernel, by decide, rfl⟩
theorem dX8_restore_65 : uD 1 cX8_restore 65 (.return_) 66 := ⟨by decide +kernel, rfl⟩
