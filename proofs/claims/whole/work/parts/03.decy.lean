theorem dX7_clearDraft_87 : decode cX7_clearDraft 87 = .ok (.iconst 1, 1) := by decide +kernel
theorem dX7_clearDraft_88 : decode cX7_clearDraft 88 = .ok (.invokevirtual 77, 3) := by decide +kernel
theorem dX7_clearDraft_91 : decode cX7_clearDraft 91 = .ok (.pop, 1) := by decide +kernel
theorem dX7_clearDraft_92 : decode cX7_clearDraft 92 = .ok (.aload_n 0, 1) := by decide +kernel
theorem dX7_clearDraft_93 : decode cX7_clearDraft 93 = .ok (.iconst 2, 1) := by decide +kernel
theorem dX7_clearDraft_94 : decode cX7_clearDraft 94 = .ok (.invokevirtual 77, 3) := by decide +kernel
theorem dX7_clearDraft_97 : decode cX7_clearDraft 97 = .ok (.pop, 1) := by decide +kernel
theorem dX7_clearDraft_98 : decode cX7_clearDraft 98 = .ok (.aload_n 0, 1) := by decide +kernel
theorem dX7_clearDraft_99 : decode cX7_clearDraft 99 = .ok (.iconst (-1), 1) := by decide +kernel
theorem dX7_clearDraft_100 : decode cX7_clearDraft 100 = .ok (.invokevirtual 77, 3) := by decide +kernel
theorem dX7_clearDraft_103 : decode cX7_clearDraft 103 = .ok (.pop, 1) := by decide +kernel
theorem dX7_clearDraft_104 : decode cX7_clearDraft 104 = .ok (.aload_n 0, 1) := by decide +kernel
theorem dX7_clearDraft_105 : decode cX7_clearDraft 105 = .ok (.iconst 3, 1) := by decide +kernel
theorem dX7_clearDraft_106 : decode cX7_clearDraft 106 = .ok (.invokevirtual 77, 3) := by decide +kernel
theorem dX7_clearDraft_109 : decode cX7_clearDraft 109 = .ok (.pop, 1) := by decide +kernel
theorem dX7_clearDraft_110 : decode cX7_clearDraft 110 = .ok (.aload_n 0, 1) := by decide +kernel
theorem dX7_clearDraft_111 : decode cX7_clearDraft 111 = .ok (.bipush 110, 2) := by decide +kernel
theorem dX7_clearDraft_113 : decode cX7_clearDraft 113 = .ok (.invokevirtual 77, 3) := by decide +kernel
theorem dX7_clearDraft_116 : decode cX7_clearDraft 116 = .ok (.pop, 1) := by decide +kernel
theorem dX7_clearDraft_117 : decode cX7_clearDraft 117 = .ok (.aload_n 0, 1) := by decide +kernel
theorem dX7_clearDraft_118 : decode cX7_clearDraft 118 = .ok (.bipush (-3), 2) := by decide +kernel
theorem dX7_clearDraft_120 : decode cX7_clearDraft 120 = .ok (.invokevirtual 77, 3) := by decide +kernel
theorem dX7_clearDraft_123 : decode cX7_clearDraft 123 = .ok (.pop, 1) := by decide +kernel
theorem dX7_clearDraft_124 : decode cX7_clearDraft 124 = .ok (.aload_n 0, 1) := by decide +kernel
theorem dX7_clearDraft_125 : decode cX7_clearDraft 125 = .ok (.iconst (-1), 1) := by decide +kernel
theorem dX7_clearDraft_126 : decode cX7_clearDraft 126 = .ok (.invokevirtual 77, 3) := by decide +kernel
theorem dX7_clearDraft_129 : decode cX7_clearDraft 129 = .ok (.pop, 1) := by decide +kernel
theorem dX7_clearDraft_130 : decode cX7_clearDraft 130 = .ok (.return_, 1) := by decide +kernel
theorem dX7_append_0 : decode cX7_append 0 = .ok (.aload_n 0, 1) := by decide +kernel
theorem dX7_append_1 : decode cX7_append 1 = .ok (.iconst 0, 1) := by decide +kernel
theorem dX7_append_2 : decode cX7_append 2 = .ok (.putfield 70, 3) := by decide +kernel
theorem dX7_append_5 : decode cX7_append 5 = .ok (.aload_n 0, 1) := by decide +kernel
theorem dX7_append_6 : decode cX7_append 6 = .ok (.getfield 81, 3) := by decide +kernel
theorem dX7_append_9 : decode cX7_append 9 = .ok (.bipush 20, 2) := by decide +kernel
theorem dX7_append_11 : decode cX7_append 11 = .ok (.iadd, 1) := by decide +kernel
theorem dX7_append_12 : decode cX7_append 12 = .ok (.sipush 600, 3) := by decide +kernel
theorem dX7_append_15 : decode cX7_append 15 = .ok (.if_icmp .le 5, 3) := by decide +kernel
theorem dX7_append_18 : decode cX7_append 18 = .ok (.iconst (-1), 1) := by decide +kernel
theorem dX7_append_19 : decode cX7_append 19 = .ok (.ireturn, 1) := by decide +kernel
theorem dX7_append_20 : decode cX7_append 20 = .ok (.aload_n 0, 1) := by decide +kernel
theorem dX7_append_21 : decode cX7_append 21 = .ok (.iload_n 1, 1) := by decide +kernel
theorem dX7_append_22 : decode cX7_append 22 = .ok (.invokevirtual 84, 3) := by decide +kernel
theorem dX7_append_25 : decode cX7_append 25 = .ok (.aload_n 0, 1) := by decide +kernel
theorem dX7_append_26 : decode cX7_append 26 = .ok (.iload_n 2, 1) := by decide +kernel
theorem dX7_append_27 : decode cX7_append 27 = .ok (.invokevirtual 84, 3) := by decide +kernel
theorem dX7_append_30 : decode cX7_append 30 = .ok (.aload_n 0, 1) := by decide +kernel
theorem dX7_append_31 : decode cX7_append 31 = .ok (.iload_n 3, 1) := by decide +kernel
theorem dX7_append_32 : decode cX7_append 32 = .ok (.invokevirtual 84, 3) := by decide +kernel
theorem dX7_append_35 : decode cX7_append 35 = .ok (.aload_n 0, 1) := by decide +kernel
theorem dX7_append_36 : decode cX7_append 36 = .ok (.iload 4, 2) := by decide +kernel
theorem dX7_append_38 : decode cX7_append 38 = .ok (.invokevirtual 84, 3) := by decide +kernel
theorem dX7_append_41 : decode cX7_append 41 = .ok (.aload_n 0, 1) := by decide +kernel
theorem dX7_append_42 : decode cX7_append 42 = .ok (.iload 5, 2) := by decide +kernel
theorem dX7_append_44 : decode cX7_append 44 = .ok (.invokevirtual 84, 3) := by decide +kernel
theorem dX7_append_47 : decode cX7_append 47 = .ok (.aload_n 0, 1) := by decide +kernel
theorem dX7_append_48 : decode cX7_append 48 = .ok (.getfield 81, 3) := by decide +kernel
theorem dX7_append_51 : decode cX7_append 51 = .ok (.ireturn, 1) := by decide +kernel
theorem dX7_bytesOf_0 : decode cX7_bytesOf 0 = .ok (.bipush 24, 2) := by decide +kernel
theorem dX7_bytesOf_2 : decode cX7_bytesOf 2 = .ok (.istore_n 2, 1) := by decide +kernel
theorem dX7_bytesOf_3 : decode cX7_bytesOf 3 = .ok (.iload_n 2, 1) := by decide +kernel
theorem dX7_bytesOf_4 : decode cX7_bytesOf 4 = .ok (.ifCond .lt 32, 3) := by decide +kernel
theorem dX7_bytesOf_7 : decode cX7_bytesOf 7 = .ok (.aload_n 0, 1) := by decide +kernel
theorem dX7_bytesOf_8 : decode cX7_bytesOf 8 = .ok (.getfield 34, 3) := by decide +kernel
theorem dX7_bytesOf_11 : decode cX7_bytesOf 11 = .ok (.aload_n 0, 1) := by decide +kernel
theorem dX7_bytesOf_12 : decode cX7_bytesOf 12 = .ok (.getfield 81, 3) := by decide +kernel
theorem dX7_bytesOf_15 : decode cX7_bytesOf 15 = .ok (.iload_n 1, 1) := by decide +kernel
theorem dX7_bytesOf_16 : decode cX7_bytesOf 16 = .ok (.iload_n 2, 1) := by decide +kernel
theorem dX7_bytesOf_17 : decode cX7_bytesOf 17 = .ok (.ishr, 1) := by decide +kernel
theorem dX7_bytesOf_18 : decode cX7_bytesOf 18 = .ok (.i2b, 1) := by decide +kernel
theorem dX7_bytesOf_19 : decode cX7_bytesOf 19 = .ok (.bastore, 1) := by decide +kernel
theorem dX7_bytesOf_20 : decode cX7_bytesOf 20 = .ok (.aload_n 0, 1) := by decide +kernel
theorem dX7_bytesOf_21 : decode cX7_bytesOf 21 = .ok (.dup, 1) := by decide +kernel
theorem dX7_bytesOf_22 : decode cX7_bytesOf 22 = .ok (.getfield 81, 3) := by decide +kernel
theorem dX7_bytesOf_25 : decode cX7_bytesOf 25 = .ok (.iconst 1, 1) := by decide +kernel
theorem dX7_bytesOf_26 : decode cX7_bytesOf 26 = .ok (.iadd, 1) := by decide +kernel
theorem dX7_bytesOf_27 : decode cX7_bytesOf 27 = .ok (.putfield 81, 3) := by decide +kernel
theorem dX7_bytesOf_30 : decode cX7_bytesOf 30 = .ok (.iinc 2 (-8), 3) := by decide +kernel
theorem dX7_bytesOf_33 : decode cX7_bytesOf 33 = .ok (.goto (-30), 3) := by decide +kernel
theorem dX7_bytesOf_36 : decode cX7_bytesOf 36 = .ok (.return_, 1) := by decide +kernel
theorem dX7_byteAt_0 : decode cX7_byteAt 0 = .ok (.iload_n 1, 1) := by decide +kernel
theorem dX7_byteAt_1 : decode cX7_byteAt 1 = .ok (.aload_n 0, 1) := by decide +kernel
theorem dX7_byteAt_2 : decode cX7_byteAt 2 = .ok (.getfield 88, 3) := by decide +kernel
theorem dX7_byteAt_5 : decode cX7_byteAt 5 = .ok (.if_icmp .ge 16, 3) := by decide +kernel
theorem dX7_byteAt_8 : decode cX7_byteAt 8 = .ok (.aload_n 0, 1) := by decide +kernel
theorem dX7_byteAt_9 : decode cX7_byteAt 9 = .ok (.getfield 34, 3) := by decide +kernel
theorem dX7_byteAt_12 : decode cX7_byteAt 12 = .ok (.iload_n 1, 1) := by decide +kernel
theorem dX7_byteAt_13 : decode cX7_byteAt 13 = .ok (.baload, 1) := by decide +kernel
theorem dX7_byteAt_14 : decode cX7_byteAt 14 = .ok (.sipush 255, 3) := by decide +kernel
theorem dX7_byteAt_17 : decode cX7_byteAt 17 = .ok (.iand, 1) := by decide +kernel
theorem dX7_byteAt_18 : decode cX7_byteAt 18 = .ok (.goto 4, 3) := by decide +kernel
theorem dX7_byteAt_21 : decode cX7_byteAt 21 = .ok (.iconst (-1), 1) := by decide +kernel
theorem dX7_byteAt_22 : decode cX7_byteAt 22 = .ok (.ireturn, 1) := by decide +kernel
theorem dX7_isSign_0 : decode cX7_isSign 0 = .ok (.iload_n 0, 1) := by decide +kernel
theorem dX7_isSign_1 : decode cX7_isSign 1 = .ok (.bipush 59, 2) := by decide +kernel
theorem dX7_isSign_3 : decode cX7_isSign 3 = .ok (.if_icmp .eq 39, 3) := by decide +kernel
theorem dX7_isSign_6 : decode cX7_isSign 6 = .ok (.iload_n 0, 1) := by decide +kernel
theorem dX7_isSign_7 : decode cX7_isSign 7 = .ok (.bipush 40, 2) := by decide +kernel
theorem dX7_isSign_9 : decode cX7_isSign 9 = .ok (.if_icmp .eq 33, 3) := by decide +kernel
theorem dX7_isSign_12 : decode cX7_isSign 12 = .ok (.iload_n 0, 1) := by decide +kernel
theorem dX7_isSign_13 : decode cX7_isSign 13 = .ok (.bipush 41, 2) := by decide +kernel
theorem dX7_isSign_15 : decode cX7_isSign 15 = .ok (.if_icmp .eq 27, 3) := by decide +kernel
theorem dX7_isSign_18 : decode cX7_isSign 18 = .ok (.iload_n 0, 1) := by decide +kernel
theorem dX7_isSign_19 : decode cX7_isSign 19 = .ok (.bipush 43, 2) := by decide +kernel
theorem dX7_isSign_21 : decode cX7_isSign 21 = .ok (.if_icmp .eq 21, 3) := by decide +kernel
theorem dX7_isSign_24 : decode cX7_isSign 24 = .ok (.iload_n 0, 1) := by decide +kernel
theorem dX7_isSign_25 : decode cX7_isSign 25 = .ok (.bipush 45, 2) := by decide +kernel
theorem dX7_isSign_27 : decode cX7_isSign 27 = .ok (.if_icmp .eq 15, 3) := by decide +kernel
theorem dX7_isSign_30 : decode cX7_isSign 30 = .ok (.iload_n 0, 1) := by decide +kernel
theorem dX7_isSign_31 : decode cX7_isSign 31 = .ok (.bipush 42, 2) := by decide +kernel
theorem dX7_isSign_33 : decode cX7_isSign 33 = .ok (.if_icmp .eq 9, 3) := by decide +kernel
theorem dX7_isSign_36 : decode cX7_isSign 36 = .ok (.iload_n 0, 1) := by decide +kernel
theorem dX7_isSign_37 : decode cX7_isSign 37 = .ok (.bipush 47, 2) := by decide +kernel
theorem dX7_isSign_39 : decode cX7_isSign 39 = .ok (.if_icmp .ne 7, 3) := by decide +kernel
theorem dX7_isSign_42 : decode cX7_isSign 42 = .ok (.iconst 1, 1) := by decide +kernel
theorem dX7_isSign_43 : decode cX7_isSign 43 = .ok (.goto 4, 3) := by decide +kernel
theorem dX7_isSign_46 : decode cX7_isSign 46 = .ok (.iconst 0, 1) := by decide +kernel
theorem dX7_isSign_47 : decode cX7_isSign 47 = .ok (.ireturn, 1) := by decide +kernel
theorem dX7_advance_0 : decode cX7_advance 0 = .ok (.aload_n 0, 1) := by decide +kernel
theorem dX7_advance_1 : decode cX7_advance 1 = .ok (.aload_n 0, 1) := by decide +kernel
theorem dX7_advance_2 : decode cX7_advance 2 = .ok (.getfield 91, 3) := by decide +kernel
theorem dX7_advance_5 : decode cX7_advance 5 = .ok (.invokevirtual 94, 3) := by decide +kernel
theorem dX7_advance_8 : decode cX7_advance 8 = .ok (.bipush 32, 2) := by decide +kernel
theorem dX7_advance_10 : decode cX7_advance 10 = .ok (.if_icmp .eq 16, 3) := by decide +kernel
theorem dX7_advance_13 : decode cX7_advance 13 = .ok (.aload_n 0, 1) := by decide +kernel
theorem dX7_advance_14 : decode cX7_advance 14 = .ok (.aload_n 0, 1) := by decide +kernel
theorem dX7_advance_15 : decode cX7_advance 15 = .ok (.getfield 91, 3) := by decide +kernel
theorem dX7_advance_18 : decode cX7_advance 18 = .ok (.invokevirtual 94, 3) := by decide +kernel
theorem dX7_advance_21 : decode cX7_advance 21 = .ok (.bipush 10, 2) := by decide +kernel
theorem dX7_advance_23 : decode cX7_advance 23 = .ok (.if_icmp .ne 16, 3) := by decide +kernel
theorem dX7_advance_26 : decode cX7_advance 26 = .ok (.aload_n 0, 1) := by decide +kernel
theorem dX7_advance_27 : decode cX7_advance 27 = .ok (.dup, 1) := by decide +kernel
theorem dX7_advance_28 : decode cX7_advance 28 = .ok (.getfield 91, 3) := by decide +kernel
theorem dX7_advance_31 : decode cX7_advance 31 = .ok (.iconst 1, 1) := by decide +kernel
theorem dX7_advance_32 : decode cX7_advance 32 = .ok (.iadd, 1) := by decide +kernel
theorem dX7_advance_33 : decode cX7_advance 33 = .ok (.putfield 91, 3) := by decide +kernel
theorem dX7_advance_36 : decode cX7_advance 36 = .ok (.goto (-36), 3) := by decide +kernel
theorem dX7_advance_39 : decode cX7_advance 39 = .ok (.aload_n 0, 1) := by decide +kernel
theorem dX7_advance_40 : decode cX7_advance 40 = .ok (.aload_n 0, 1) := by decide +kernel
theorem dX7_advance_41 : decode cX7_advance 41 = .ok (.getfield 91, 3) := by decide +kernel
theorem dX7_advance_44 : decode cX7_advance 44 = .ok (.putfield 98, 3) := by decide +kernel
theorem dX7_advance_47 : decode cX7_advance 47 = .ok (.aload_n 0, 1) := by decide +kernel
theorem dX7_advance_48 : decode cX7_advance 48 = .ok (.iconst 0, 1) := by decide +kernel
theorem dX7_advance_49 : decode cX7_advance 49 = .ok (.putfield 101, 3) := by decide +kernel
theorem dX7_advance_52 : decode cX7_advance 52 = .ok (.aload_n 0, 1) := by decide +kernel
theorem dX7_advance_53 : decode cX7_advance 53 = .ok (.aload_n 0, 1) := by decide +kernel
theorem dX7_advance_54 : decode cX7_advance 54 = .ok (.getfield 91, 3) := by decide +kernel
theorem dX7_advance_57 : decode cX7_advance 57 = .ok (.invokevirtual 94, 3) := by decide +kernel
theorem dX7_advance_60 : decode cX7_advance 60 = .ok (.istore_n 1, 1) := by decide +kernel
theorem dX7_advance_61 : decode cX7_advance 61 = .ok (.iload_n 1, 1) := by decide +kernel
theorem dX7_advance_62 : decode cX7_advance 62 = .ok (.iconst (-1), 1) := by decide +kernel
theorem dX7_advance_63 : decode cX7_advance 63 = .ok (.if_icmp .ne 11, 3) := by decide +kernel
theorem dX7_advance_66 : decode cX7_advance 66 = .ok (.aload_n 0, 1) := by decide +kernel
theorem dX7_advance_67 : decode cX7_advance 67 = .ok (.iconst 0, 1) := by decide +kernel
theorem dX7_advance_68 : decode cX7_advance 68 = .ok (.putfield 104, 3) := by decide +kernel
theorem dX7_advance_71 : decode cX7_advance 71 = .ok (.goto 212, 3) := by decide +kernel
theorem dX7_advance_74 : decode cX7_advance 74 = .ok (.iload_n 1, 1) := by decide +kernel
theorem dX7_advance_75 : decode cX7_advance 75 = .ok (.bipush 97, 2) := by decide +kernel
theorem dX7_advance_77 : decode cX7_advance 77 = .ok (.bipush 122, 2) := by decide +kernel
theorem dX7_advance_79 : decode cX7_advance 79 = .ok (.invokestatic 107, 3) := by decide +kernel
theorem dX7_advance_82 : decode cX7_advance 82 = .ok (.ifCond .eq 60, 3) := by decide +kernel
theorem dX7_advance_85 : decode cX7_advance 85 = .ok (.aload_n 0, 1) := by decide +kernel
theorem dX7_advance_86 : decode cX7_advance 86 = .ok (.aload_n 0, 1) := by decide +kernel
theorem dX7_advance_87 : decode cX7_advance 87 = .ok (.getfield 91, 3) := by decide +kernel
theorem dX7_advance_90 : decode cX7_advance 90 = .ok (.invokevirtual 94, 3) := by decide +kernel
theorem dX7_advance_93 : decode cX7_advance 93 = .ok (.bipush 97, 2) := by decide +kernel
theorem dX7_advance_95 : decode cX7_advance 95 = .ok (.bipush 122, 2) := by decide +kernel
theorem dX7_advance_97 : decode cX7_advance 97 = .ok (.invokestatic 107, 3) := by decide +kernel
theorem dX7_advance_100 : decode cX7_advance 100 = .ok (.ifCond .eq 16, 3) := by decide +kernel
theorem dX7_advance_103 : decode cX7_advance 103 = .ok (.aload_n 0, 1) := by decide +kernel
theorem dX7_advance_104 : decode cX7_advance 104 = .ok (.dup, 1) := by decide +kernel
theorem dX7_advance_105 : decode cX7_advance 105 = .ok (.getfield 91, 3) := by decide +kernel
theorem dX7_advance_108 : decode cX7_advance 108 = .ok (.iconst 1, 1) := by decide +kernel
theorem dX7_advance_109 : decode cX7_advance 109 = .ok (.iadd, 1) := by decide +kernel
theorem dX7_advance_110 : decode cX7_advance 110 = .ok (.putfield 91, 3) := by decide +kernel
theorem dX7_advance_113 : decode cX7_advance 113 = .ok (.goto (-28), 3) := by decide +kernel
theorem dX7_advance_116 : decode cX7_advance 116 = .ok (.aload_n 0, 1) := by decide +kernel
theorem dX7_advance_117 : decode cX7_advance 117 = .ok (.aload_n 0, 1) := by decide +kernel
theorem dX7_advance_118 : decode cX7_advance 118 = .ok (.getfield 91, 3) := by decide +kernel
theorem dX7_advance_121 : decode cX7_advance 121 = .ok (.aload_n 0, 1) := by decide +kernel
theorem dX7_advance_122 : decode cX7_advance 122 = .ok (.getfield 98, 3) := by decide +kernel
theorem dX7_advance_125 : decode cX7_advance 125 = .ok (.isub, 1) := by decide +kernel
theorem dX7_advance_126 : decode cX7_advance 126 = .ok (.bipush 8, 2) := by decide +kernel
theorem dX7_advance_128 : decode cX7_advance 128 = .ok (.if_icmp .le 7, 3) := by decide +kernel
theorem dX7_advance_131 : decode cX7_advance 131 = .ok (.iconst 4, 1) := by decide +kernel
theorem dX7_advance_132 : decode cX7_advance 132 = .ok (.goto 4, 3) := by decide +kernel
theorem dX7_advance_135 : decode cX7_advance 135 = .ok (.iconst 1, 1) := by decide +kernel
theorem dX7_advance_136 : decode cX7_advance 136 = .ok (.putfield 104, 3) := by decide +kernel
theorem dX7_advance_139 : decode cX7_advance 139 = .ok (.goto 144, 3) := by decide +kernel
theorem dX7_advance_142 : decode cX7_advance 142 = .ok (.iload_n 1, 1) := by decide +kernel
theorem dX7_advance_143 : decode cX7_advance 143 = .ok (.bipush 48, 2) := by decide +kernel
theorem dX7_advance_145 : decode cX7_advance 145 = .ok (.bipush 57, 2) := by decide +kernel
theorem dX7_advance_147 : decode cX7_advance 147 = .ok (.invokestatic 107, 3) := by decide +kernel
theorem dX7_advance_150 : decode cX7_advance 150 = .ok (.ifCond .eq 102, 3) := by decide +kernel
theorem dX7_advance_153 : decode cX7_advance 153 = .ok (.aload_n 0, 1) := by decide +kernel
theorem dX7_advance_154 : decode cX7_advance 154 = .ok (.aload_n 0, 1) := by decide +kernel
theorem dX7_advance_155 : decode cX7_advance 155 = .ok (.getfield 91, 3) := by decide +kernel
theorem dX7_advance_158 : decode cX7_advance 158 = .ok (.invokevirtual 94, 3) := by decide +kernel
theorem dX7_advance_161 : decode cX7_advance 161 = .ok (.bipush 48, 2) := by decide +kernel
theorem dX7_advance_163 : decode cX7_advance 163 = .ok (.bipush 57, 2) := by decide +kernel
theorem dX7_advance_165 : decode cX7_advance 165 = .ok (.invokestatic 107, 3) := by decide +kernel
theorem dX7_advance_168 : decode cX7_advance 168 = .ok (.ifCond .eq 59, 3) := by decide +kernel
theorem dX7_advance_171 : decode cX7_advance 171 = .ok (.aload_n 0, 1) := by decide +kernel
theorem dX7_advance_172 : decode cX7_advance 172 = .ok (.aload_n 0, 1) := by decide +kernel
theorem dX7_advance_173 : decode cX7_advance 173 = .ok (.getfield 91, 3) := by decide +kernel
theorem dX7_advance_176 : decode cX7_advance 176 = .ok (.aload_n 0, 1) := by decide +kernel
theorem dX7_advance_177 : decode cX7_advance 177 = .ok (.getfield 98, 3) := by decide +kernel
theorem dX7_advance_180 : decode cX7_advance 180 = .ok (.isub, 1) := by decide +kernel
theorem dX7_advance_181 : decode cX7_advance 181 = .ok (.iconst 4, 1) := by decide +kernel
theorem dX7_advance_182 : decode cX7_advance 182 = .ok (.if_icmp .ge 25, 3) := by decide +kernel
theorem dX7_advance_185 : decode cX7_advance 185 = .ok (.bipush 10, 2) := by decide +kernel
theorem dX7_advance_187 : decode cX7_advance 187 = .ok (.aload_n 0, 1) := by decide +kernel
theorem dX7_advance_188 : decode cX7_advance 188 = .ok (.getfield 101, 3) := by decide +kernel
theorem dX7_advance_191 : decode cX7_advance 191 = .ok (.imul, 1) := by decide +kernel
theorem dX7_advance_192 : decode cX7_advance 192 = .ok (.aload_n 0, 1) := by decide +kernel
theorem dX7_advance_193 : decode cX7_advance 193 = .ok (.aload_n 0, 1) := by decide +kernel
theorem dX7_advance_194 : decode cX7_advance 194 = .ok (.getfield 91, 3) := by decide +kernel
theorem dX7_advance_197 : decode cX7_advance 197 = .ok (.invokevirtual 94, 3) := by decide +kernel
theorem dX7_advance_200 : decode cX7_advance 200 = .ok (.iadd, 1) := by decide +kernel
theorem dX7_advance_201 : decode cX7_advance 201 = .ok (.bipush 48, 2) := by decide +kernel
theorem dX7_advance_203 : decode cX7_advance 203 = .ok (.isub, 1) := by decide +kernel
theorem dX7_advance_204 : decode cX7_advance 204 = .ok (.goto 7, 3) := by decide +kernel
theorem dX7_advance_207 : decode cX7_advance 207 = .ok (.aload_n 0, 1) := by decide +kernel
theorem dX7_advance_208 : decode cX7_advance 208 = .ok (.getfield 101, 3) := by decide +kernel
theorem dX7_advance_211 : decode cX7_advance 211 = .ok (.putfield 101, 3) := by decide +kernel
theorem dX7_advance_214 : decode cX7_advance 214 = .ok (.aload_n 0, 1) := by decide +kernel
theorem dX7_advance_215 : decode cX7_advance 215 = .ok (.dup, 1) := by decide +kernel
theorem dX7_advance_216 : decode cX7_advance 216 = .ok (.getfield 91, 3) := by decide +kernel
theorem dX7_advance_219 : decode cX7_advance 219 = .ok (.iconst 1, 1) := by decide +kernel
theorem dX7_advance_220 : decode cX7_advance 220 = .ok (.iadd, 1) := by decide +kernel
theorem dX7_advance_221 : decode cX7_advance 221 = .ok (.putfield 91, 3) := by decide +kernel
theorem dX7_advance_224 : decode cX7_advance 224 = .ok (.goto (-71), 3) := by decide +kernel
theorem dX7_advance_227 : decode cX7_advance 227 = .ok (.aload_n 0, 1) := by decide +kernel
theorem dX7_advance_228 : decode cX7_advance 228 = .ok (.aload_n 0, 1) := by decide +kernel
theorem dX7_advance_229 : decode cX7_advance 229 = .ok (.getfield 91, 3) := by decide +kernel
theorem dX7_advance_232 : decode cX7_advance 232 = .ok (.aload_n 0, 1) := by decide +kernel
theorem dX7_advance_233 : decode cX7_advance 233 = .ok (.getfield 98, 3) := by decide +kernel
theorem dX7_advance_236 : decode cX7_advance 236 = .ok (.isub, 1) := by decide +kernel
theorem dX7_advance_237 : decode cX7_advance 237 = .ok (.iconst 4, 1) := by decide +kernel
theorem dX7_advance_238 : decode cX7_advance 238 = .ok (.if_icmp .le 7, 3) := by decide +kernel
theorem dX7_advance_241 : decode cX7_advance 241 = .ok (.iconst 4, 1) := by decide +kernel
theorem dX7_advance_242 : decode cX7_advance 242 = .ok (.goto 4, 3) := by decide +kernel
theorem dX7_advance_245 : decode cX7_advance 245 = .ok (.iconst 2, 1) := by decide +kernel
theorem dX7_advance_246 : decode cX7_advance 246 = .ok (.putfield 104, 3) := by decide +kernel
theorem dX7_advance_249 : decode cX7_advance 249 = .ok (.goto 34, 3) := by decide +kernel
theorem dX7_advance_252 : decode cX7_advance 252 = .ok (.aload_n 0, 1) := by decide +kernel
theorem dX7_advance_253 : decode cX7_advance 253 = .ok (.dup, 1) := by decide +kernel
theorem dX7_advance_254 : decode cX7_advance 254 = .ok (.getfield 91, 3) := by decide +kernel
theorem dX7_advance_257 : decode cX7_advance 257 = .ok (.iconst 1, 1) := by decide +kernel
theorem dX7_advance_258 : decode cX7_advance 258 = .ok (.iadd, 1) := by decide +kernel
theorem dX7_advance_259 : decode cX7_advance 259 = .ok (.putfield 91, 3) := by decide +kernel
theorem dX7_advance_262 : decode cX7_advance 262 = .ok (.aload_n 0, 1) := by decide +kernel
theorem dX7_advance_263 : decode cX7_advance 263 = .ok (.iload_n 1, 1) := by decide +kernel
theorem dX7_advance_264 : decode cX7_advance 264 = .ok (.putfield 101, 3) := by decide +kernel
theorem dX7_advance_267 : decode cX7_advance 267 = .ok (.aload_n 0, 1) := by decide +kernel
theorem dX7_advance_268 : decode cX7_advance 268 = .ok (.iload_n 1, 1) := by decide +kernel
theorem dX7_advance_269 : decode cX7_advance 269 = .ok (.invokestatic 111, 3) := by decide +kernel
theorem dX7_advance_272 : decode cX7_advance 272 = .ok (.ifCond .eq 7, 3) := by decide +kernel
theorem dX7_advance_275 : decode cX7_advance 275 = .ok (.iconst 3, 1) := by decide +kernel
theorem dX7_advance_276 : decode cX7_advance 276 = .ok (.goto 4, 3) := by decide +kernel
theorem dX7_advance_279 : decode cX7_advance 279 = .ok (.iconst 4, 1) := by decide +kernel
theorem dX7_advance_280 : decode cX7_advance 280 = .ok (.putfield 104, 3) := by decide +kernel
theorem dX7_advance_283 : decode cX7_advance 283 = .ok (.return_, 1) := by decide +kernel
theorem dX7_isWord_0 : decode cX7_isWord 0 = .ok (.aload_n 0, 1) := by decide +kernel
theorem dX7_isWord_1 : decode cX7_isWord 1 = .ok (.getfield 104, 3) := by decide +kernel
theorem dX7_isWord_4 : decode cX7_isWord 4 = .ok (.iconst 1, 1) := by decide +kernel
theorem dX7_isWord_5 : decode cX7_isWord 5 = .ok (.if_icmp .ne 23, 3) := by decide +kernel
theorem dX7_isWord_8 : decode cX7_isWord 8 = .ok (.aload_n 0, 1) := by decide +kernel
theorem dX7_isWord_9 : decode cX7_isWord 9 = .ok (.getfield 91, 3) := by decide +kernel
theorem dX7_isWord_12 : decode cX7_isWord 12 = .ok (.aload_n 0, 1) := by decide +kernel
theorem dX7_isWord_13 : decode cX7_isWord 13 = .ok (.getfield 98, 3) := by decide +kernel
theorem dX7_isWord_16 : decode cX7_isWord 16 = .ok (.isub, 1) := by decide +kernel
theorem dX7_isWord_17 : decode cX7_isWord 17 = .ok (.aload_n 1, 1) := by decide +kernel
theorem dX7_isWord_18 : decode cX7_isWord 18 = .ok (.invokevirtual 114, 3) := by decide +kernel
theorem dX7_isWord_21 : decode cX7_isWord 21 = .ok (.if_icmp .ne 7, 3) := by decide +kernel
theorem dX7_isWord_24 : decode cX7_isWord 24 = .ok (.iconst 1, 1) := by decide +kernel
theorem dX7_isWord_25 : decode cX7_isWord 25 = .ok (.goto 4, 3) := by decide +kernel
theorem dX7_isWord_28 : decode cX7_isWord 28 = .ok (.iconst 0, 1) := by decide +kernel
theorem dX7_isWord_29 : decode cX7_isWord 29 = .ok (.istore_n 2, 1) := by decide +kernel
theorem dX7_isWord_30 : decode cX7_isWord 30 = .ok (.iconst 0, 1) := by decide +kernel
theorem dX7_isWord_31 : decode cX7_isWord 31 = .ok (.istore_n 3, 1) := by decide +kernel
theorem dX7_isWord_32 : decode cX7_isWord 32 = .ok (.iload_n 3, 1) := by decide +kernel
theorem dX7_isWord_33 : decode cX7_isWord 33 = .ok (.aload_n 1, 1) := by decide +kernel
theorem dX7_isWord_34 : decode cX7_isWord 34 = .ok (.invokevirtual 114, 3) := by decide +kernel
theorem dX7_isWord_37 : decode cX7_isWord 37 = .ok (.if_icmp .ge 38, 3) := by decide +kernel
theorem dX7_isWord_40 : decode cX7_isWord 40 = .ok (.iload_n 2, 1) := by decide +kernel
theorem dX7_isWord_41 : decode cX7_isWord 41 = .ok (.ifCond .eq 34, 3) := by decide +kernel
theorem dX7_isWord_44 : decode cX7_isWord 44 = .ok (.aload_n 0, 1) := by decide +kernel
theorem dX7_isWord_45 : decode cX7_isWord 45 = .ok (.getfield 34, 3) := by decide +kernel
theorem dX7_isWord_48 : decode cX7_isWord 48 = .ok (.aload_n 0, 1) := by decide +kernel
theorem dX7_isWord_49 : decode cX7_isWord 49 = .ok (.getfield 98, 3) := by decide +kernel
theorem dX7_isWord_52 : decode cX7_isWord 52 = .ok (.iload_n 3, 1) := by decide +kernel
theorem dX7_isWord_53 : decode cX7_isWord 53 = .ok (.iadd, 1) := by decide +kernel
theorem dX7_isWord_54 : decode cX7_isWord 54 = .ok (.baload, 1) := by decide +kernel
theorem dX7_isWord_55 : decode cX7_isWord 55 = .ok (.aload_n 1, 1) := by decide +kernel
theorem dX7_isWord_56 : decode cX7_isWord 56 = .ok (.iload_n 3, 1) := by decide +kernel
theorem dX7_isWord_57 : decode cX7_isWord 57 = .ok (.invokevirtual 119, 3) := by decide +kernel
theorem dX7_isWord_60 : decode cX7_isWord 60 = .ok (.if_icmp .ne 7, 3) := by decide +kernel
theorem dX7_isWord_63 : decode cX7_isWord 63 = .ok (.iconst 1, 1) := by decide +kernel
theorem dX7_isWord_64 : decode cX7_isWord 64 = .ok (.goto 4, 3) := by decide +kernel
theorem dX7_isWord_67 : decode cX7_isWord 67 = .ok (.iconst 0, 1) := by decide +kernel
theorem dX7_isWord_68 : decode cX7_isWord 68 = .ok (.istore_n 2, 1) := by decide +kernel
theorem dX7_isWord_69 : decode cX7_isWord 69 = .ok (.iinc 3 1, 3) := by decide +kernel
theorem dX7_isWord_72 : decode cX7_isWord 72 = .ok (.goto (-40), 3) := by decide +kernel
theorem dX7_isWord_75 : decode cX7_isWord 75 = .ok (.iload_n 2, 1) := by decide +kernel
theorem dX7_isWord_76 : decode cX7_isWord 76 = .ok (.ireturn, 1) := by decide +kernel
theorem dX7_isSignHere_0 : decode cX7_isSignHere 0 = .ok (.aload_n 0, 1) := by decide +kernel
theorem dX7_isSignHere_1 : decode cX7_isSignHere 1 = .ok (.getfield 104, 3) := by decide +kernel
theorem dX7_isSignHere_4 : decode cX7_isSignHere 4 = .ok (.iconst 3, 1) := by decide +kernel
theorem dX7_isSignHere_5 : decode cX7_isSignHere 5 = .ok (.if_icmp .ne 15, 3) := by decide +kernel
theorem dX7_isSignHere_8 : decode cX7_isSignHere 8 = .ok (.aload_n 0, 1) := by decide +kernel
theorem dX7_isSignHere_9 : decode cX7_isSignHere 9 = .ok (.getfield 101, 3) := by decide +kernel
theorem dX7_isSignHere_12 : decode cX7_isSignHere 12 = .ok (.iload_n 1, 1) := by decide +kernel
theorem dX7_isSignHere_13 : decode cX7_isSignHere 13 = .ok (.if_icmp .ne 7, 3) := by decide +kernel
theorem dX7_isSignHere_16 : decode cX7_isSignHere 16 = .ok (.iconst 1, 1) := by decide +kernel
theorem dX7_isSignHere_17 : decode cX7_isSignHere 17 = .ok (.goto 4, 3) := by decide +kernel
theorem dX7_isSignHere_20 : decode cX7_isSignHere 20 = .ok (.iconst 0, 1) := by decide +kernel
theorem dX7_isSignHere_21 : decode cX7_isSignHere 21 = .ok (.ireturn, 1) := by decide +kernel
theorem dX7_fails_0 : decode cX7_fails 0 = .ok (.aload_n 0, 1) := by decide +kernel
theorem dX7_fails_1 : decode cX7_fails 1 = .ok (.getfield 123, 3) := by decide +kernel
theorem dX7_fails_4 : decode cX7_fails 4 = .ok (.ifCond .ne 16, 3) := by decide +kernel
theorem dX7_fails_7 : decode cX7_fails 7 = .ok (.aload_n 0, 1) := by decide +kernel
theorem dX7_fails_8 : decode cX7_fails 8 = .ok (.iload_n 1, 1) := by decide +kernel
theorem dX7_fails_9 : decode cX7_fails 9 = .ok (.putfield 123, 3) := by decide +kernel
theorem dX7_fails_12 : decode cX7_fails 12 = .ok (.aload_n 0, 1) := by decide +kernel
theorem dX7_fails_13 : decode cX7_fails 13 = .ok (.aload_n 0, 1) := by decide +kernel
theorem dX7_fails_14 : decode cX7_fails 14 = .ok (.getfield 98, 3) := by decide +kernel
theorem dX7_fails_17 : decode cX7_fails 17 = .ok (.putfield 38, 3) := by decide +kernel
theorem dX7_fails_20 : decode cX7_fails 20 = .ok (.iconst 0, 1) := by decide +kernel
theorem dX7_fails_21 : decode cX7_fails 21 = .ok (.ireturn, 1) := by decide +kernel
theorem dX7_sees_0 : decode cX7_sees 0 = .ok (.aload_n 0, 1) := by decide +kernel
theorem dX7_sees_1 : decode cX7_sees 1 = .ok (.getfield 104, 3) := by decide +kernel
theorem dX7_sees_4 : decode cX7_sees 4 = .ok (.iconst 2, 1) := by decide +kernel
theorem dX7_sees_5 : decode cX7_sees 5 = .ok (.if_icmp .eq 9, 3) := by decide +kernel
theorem dX7_sees_8 : decode cX7_sees 8 = .ok (.aload_n 0, 1) := by decide +kernel
theorem dX7_sees_9 : decode cX7_sees 9 = .ok (.iconst 1, 1) := by decide +kernel
theorem dX7_sees_10 : decode cX7_sees 10 = .ok (.invokevirtual 126, 3) := by decide +kernel
theorem dX7_sees_13 : decode cX7_sees 13 = .ok (.ireturn, 1) := by decide +kernel
theorem dX7_sees_14 : decode cX7_sees 14 = .ok (.aload_n 0, 1) := by decide +kernel
theorem dX7_sees_15 : decode cX7_sees 15 = .ok (.getfield 101, 3) := by decide +kernel
theorem dX7_sees_18 : decode cX7_sees 18 = .ok (.iload_n 1, 1) := by decide +kernel
theorem dX7_sees_19 : decode cX7_sees 19 = .ok (.iload_n 2, 1) := by decide +kernel
theorem dX7_sees_20 : decode cX7_sees 20 = .ok (.invokestatic 107, 3) := by decide +kernel
theorem dX7_sees_23 : decode cX7_sees 23 = .ok (.ifCond .ne 9, 3) := by decide +kernel
theorem dX7_sees_26 : decode cX7_sees 26 = .ok (.aload_n 0, 1) := by decide +kernel
theorem dX7_sees_27 : decode cX7_sees 27 = .ok (.iconst 3, 1) := by decide +kernel
theorem dX7_sees_28 : decode cX7_sees 28 = .ok (.invokevirtual 126, 3) := by decide +kernel
theorem dX7_sees_31 : decode cX7_sees 31 = .ok (.ireturn, 1) := by decide +kernel
theorem dX7_sees_32 : decode cX7_sees 32 = .ok (.aload_n 0, 1) := by decide +kernel
theorem dX7_sees_33 : decode cX7_sees 33 = .ok (.aload_n 0, 1) := by decide +kernel
theorem dX7_sees_34 : decode cX7_sees 34 = .ok (.getfield 101, 3) := by decide +kernel
theorem dX7_sees_37 : decode cX7_sees 37 = .ok (.putfield 129, 3) := by decide +kernel
theorem dX7_sees_40 : decode cX7_sees 40 = .ok (.iconst 1, 1) := by decide +kernel
theorem dX7_sees_41 : decode cX7_sees 41 = .ok (.ireturn, 1) := by decide +kernel
theorem dX7_takes_0 : decode cX7_takes 0 = .ok (.aload_n 0, 1) := by decide +kernel
theorem dX7_takes_1 : decode cX7_takes 1 = .ok (.iload_n 1, 1) := by decide +kernel
theorem dX7_takes_2 : decode cX7_takes 2 = .ok (.iload_n 2, 1) := by decide +kernel
theorem dX7_takes_3 : decode cX7_takes 3 = .ok (.invokevirtual 132, 3) := by decide +kernel
theorem dX7_takes_6 : decode cX7_takes 6 = .ok (.ifCond .ne 5, 3) := by decide +kernel
theorem dX7_takes_9 : decode cX7_takes 9 = .ok (.iconst 0, 1) := by decide +kernel
theorem dX7_takes_10 : decode cX7_takes 10 = .ok (.ireturn, 1) := by decide +kernel
theorem dX7_takes_11 : decode cX7_takes 11 = .ok (.aload_n 0, 1) := by decide +kernel
theorem dX7_takes_12 : decode cX7_takes 12 = .ok (.invokevirtual 136, 3) := by decide +kernel
theorem dX7_takes_15 : decode cX7_takes 15 = .ok (.iconst 1, 1) := by decide +kernel
theorem dX7_takes_16 : decode cX7_takes 16 = .ok (.ireturn, 1) := by decide +kernel
theorem dX7_starts_0 : decode cX7_starts 0 = .ok (.iload_n 2, 1) := by decide +kernel
theorem dX7_starts_1 : decode cX7_starts 1 = .ok (.ifCond .ne 9, 3) := by decide +kernel
theorem dX7_starts_4 : decode cX7_starts 4 = .ok (.aload_n 0, 1) := by decide +kernel
theorem dX7_starts_5 : decode cX7_starts 5 = .ok (.iload_n 1, 1) := by decide +kernel
theorem dX7_starts_6 : decode cX7_starts 6 = .ok (.invokevirtual 126, 3) := by decide +kernel
theorem dX7_starts_9 : decode cX7_starts 9 = .ok (.ireturn, 1) := by decide +kernel
theorem dX7_starts_10 : decode cX7_starts 10 = .ok (.aload_n 0, 1) := by decide +kernel
theorem dX7_starts_11 : decode cX7_starts 11 = .ok (.invokevirtual 136, 3) := by decide +kernel
theorem dX7_starts_14 : decode cX7_starts 14 = .ok (.iconst 1, 1) := by decide +kernel
theorem dX7_starts_15 : decode cX7_starts 15 = .ok (.ireturn, 1) := by decide +kernel
theorem dX7_once_0 : decode cX7_once 0 = .ok (.aload_n 0, 1) := by decide +kernel
theorem dX7_once_1 : decode cX7_once 1 = .ok (.iconst 2, 1) := by decide +kernel
theorem dX7_once_2 : decode cX7_once 2 = .ok (.aload_n 0, 1) := by decide +kernel
theorem dX7_once_3 : decode cX7_once 3 = .ok (.getfield 139, 3) := by decide +kernel
theorem dX7_once_6 : decode cX7_once 6 = .ok (.iload_n 1, 1) := by decide +kernel
theorem dX7_once_7 : decode cX7_once 7 = .ok (.invokestatic 142, 3) := by decide +kernel
theorem dX7_once_10 : decode cX7_once 10 = .ok (.ifCond .ne 7, 3) := by decide +kernel
theorem dX7_once_13 : decode cX7_once 13 = .ok (.iconst 1, 1) := by decide +kernel
theorem dX7_once_14 : decode cX7_once 14 = .ok (.goto 4, 3) := by decide +kernel
theorem dX7_once_17 : decode cX7_once 17 = .ok (.iconst 0, 1) := by decide +kernel
theorem dX7_once_18 : decode cX7_once 18 = .ok (.invokevirtual 145, 3) := by decide +kernel
theorem dX7_once_21 : decode cX7_once 21 = .ok (.ifCond .ne 5, 3) := by decide +kernel
theorem dX7_once_24 : decode cX7_once 24 = .ok (.iconst 0, 1) := by decide +kernel
theorem dX7_once_25 : decode cX7_once 25 = .ok (.ireturn, 1) := by decide +kernel
theorem dX7_once_26 : decode cX7_once 26 = .ok (.aload_n 0, 1) := by decide +kernel
theorem dX7_once_27 : decode cX7_once 27 = .ok (.dup, 1) := by decide +kernel
theorem dX7_once_28 : decode cX7_once 28 = .ok (.getfield 139, 3) := by decide +kernel
theorem dX7_once_31 : decode cX7_once 31 = .ok (.iconst 1, 1) := by decide +kernel
theorem dX7_once_32 : decode cX7_once 32 = .ok (.iload_n 1, 1) := by decide +kernel
theorem dX7_once_33 : decode cX7_once 33 = .ok (.ishl, 1) := by decide +kernel
theorem dX7_once_34 : decode cX7_once 34 = .ok (.ior, 1) := by decide +kernel
theorem dX7_once_35 : decode cX7_once 35 = .ok (.putfield 139, 3) := by decide +kernel
theorem dX7_once_38 : decode cX7_once 38 = .ok (.iconst 1, 1) := by decide +kernel
theorem dX7_once_39 : decode cX7_once 39 = .ok (.ireturn, 1) := by decide +kernel
theorem dX7_sets_0 : decode cX7_sets 0 = .ok (.aload_n 0, 1) := by decide +kernel
theorem dX7_sets_1 : decode cX7_sets 1 = .ok (.iload_n 2, 1) := by decide +kernel
theorem dX7_sets_2 : decode cX7_sets 2 = .ok (.iload_n 3, 1) := by decide +kernel
theorem dX7_sets_3 : decode cX7_sets 3 = .ok (.invokevirtual 149, 3) := by decide +kernel
theorem dX7_sets_6 : decode cX7_sets 6 = .ok (.ifCond .ne 5, 3) := by decide +kernel
theorem dX7_sets_9 : decode cX7_sets 9 = .ok (.iconst 0, 1) := by decide +kernel
theorem dX7_sets_10 : decode cX7_sets 10 = .ok (.ireturn, 1) := by decide +kernel
theorem dX7_sets_11 : decode cX7_sets 11 = .ok (.aload_n 0, 1) := by decide +kernel
theorem dX7_sets_12 : decode cX7_sets 12 = .ok (.getfield 13, 3) := by decide +kernel
theorem dX7_sets_15 : decode cX7_sets 15 = .ok (.iconst 4, 1) := by decide +kernel
theorem dX7_sets_16 : decode cX7_sets 16 = .ok (.iload_n 1, 1) := by decide +kernel
theorem dX7_sets_17 : decode cX7_sets 17 = .ok (.iadd, 1) := by decide +kernel
theorem dX7_sets_18 : decode cX7_sets 18 = .ok (.aload_n 0, 1) := by decide +kernel
theorem dX7_sets_19 : decode cX7_sets 19 = .ok (.getfield 129, 3) := by decide +kernel
theorem dX7_sets_22 : decode cX7_sets 22 = .ok (.iastore, 1) := by decide +kernel
theorem dX7_sets_23 : decode cX7_sets 23 = .ok (.iconst 1, 1) := by decide +kernel
theorem dX7_sets_24 : decode cX7_sets 24 = .ok (.ireturn, 1) := by decide +kernel
theorem dX7_closes_0 : decode cX7_closes 0 = .ok (.aload_n 0, 1) := by decide +kernel
theorem dX7_closes_1 : decode cX7_closes 1 = .ok (.iload_n 1, 1) := by decide +kernel
theorem dX7_closes_2 : decode cX7_closes 2 = .ok (.invokevirtual 152, 3) := by decide +kernel
theorem dX7_closes_5 : decode cX7_closes 5 = .ok (.ifCond .ne 9, 3) := by decide +kernel
theorem dX7_closes_8 : decode cX7_closes 8 = .ok (.aload_n 0, 1) := by decide +kernel
theorem dX7_closes_9 : decode cX7_closes 9 = .ok (.iconst 1, 1) := by decide +kernel
theorem dX7_closes_10 : decode cX7_closes 10 = .ok (.invokevirtual 126, 3) := by decide +kernel
theorem dX7_closes_13 : decode cX7_closes 13 = .ok (.ireturn, 1) := by decide +kernel
theorem dX7_closes_14 : decode cX7_closes 14 = .ok (.aload_n 0, 1) := by decide +kernel
theorem dX7_closes_15 : decode cX7_closes 15 = .ok (.invokevirtual 136, 3) := by decide +kernel
theorem dX7_closes_18 : decode cX7_closes 18 = .ok (.iconst 1, 1) := by decide +kernel
theorem dX7_closes_19 : decode cX7_closes 19 = .ok (.ireturn, 1) := by decide +kernel
theorem dX7_takesTwo_0 : decode cX7_takesTwo 0 = .ok (.aload_n 0, 1) := by decide +kernel
theorem dX7_takesTwo_1 : decode cX7_takesTwo 1 = .ok (.invokevirtual 136, 3) := by decide +kernel
theorem dX7_takesTwo_4 : decode cX7_takesTwo 4 = .ok (.aload_n 0, 1) := by decide +kernel
theorem dX7_takesTwo_5 : decode cX7_takesTwo 5 = .ok (.getfield 13, 3) := by decide +kernel
theorem dX7_takesTwo_8 : decode cX7_takesTwo 8 = .ok (.iconst 4, 1) := by decide +kernel
theorem dX7_takesTwo_9 : decode cX7_takesTwo 9 = .ok (.iaload, 1) := by decide +kernel
theorem dX7_takesTwo_10 : decode cX7_takesTwo 10 = .ok (.iconst 1, 1) := by decide +kernel
theorem dX7_takesTwo_11 : decode cX7_takesTwo 11 = .ok (.isub, 1) := by decide +kernel
theorem dX7_takesTwo_12 : decode cX7_takesTwo 12 = .ok (.istore_n 1, 1) := by decide +kernel
theorem dX7_takesTwo_13 : decode cX7_takesTwo 13 = .ok (.aload_n 0, 1) := by decide +kernel
theorem dX7_takesTwo_14 : decode cX7_takesTwo 14 = .ok (.iconst 0, 1) := by decide +kernel
theorem dX7_takesTwo_15 : decode cX7_takesTwo 15 = .ok (.iload_n 1, 1) := by decide +kernel
theorem dX7_takesTwo_16 : decode cX7_takesTwo 16 = .ok (.invokevirtual 149, 3) := by decide +kernel
theorem dX7_takesTwo_19 : decode cX7_takesTwo 19 = .ok (.ifCond .ne 5, 3) := by decide +kernel
theorem dX7_takesTwo_22 : decode cX7_takesTwo 22 = .ok (.iconst 0, 1) := by decide +kernel
theorem dX7_takesTwo_23 : decode cX7_takesTwo 23 = .ok (.ireturn, 1) := by decide +kernel
theorem dX7_takesTwo_24 : decode cX7_takesTwo 24 = .ok (.aload_n 0, 1) := by decide +kernel
theorem dX7_takesTwo_25 : decode cX7_takesTwo 25 = .ok (.aload_n 0, 1) := by decide +kernel
theorem dX7_takesTwo_26 : decode cX7_takesTwo 26 = .ok (.getfield 129, 3) := by decide +kernel
theorem dX7_takesTwo_29 : decode cX7_takesTwo 29 = .ok (.putfield 155, 3) := by decide +kernel
theorem dX7_takesTwo_32 : decode cX7_takesTwo 32 = .ok (.aload_n 0, 1) := by decide +kernel
theorem dX7_takesTwo_33 : decode cX7_takesTwo 33 = .ok (.iconst 0, 1) := by decide +kernel
theorem dX7_takesTwo_34 : decode cX7_takesTwo 34 = .ok (.iload_n 1, 1) := by decide +kernel
theorem dX7_takesTwo_35 : decode cX7_takesTwo 35 = .ok (.invokevirtual 132, 3) := by decide +kernel
theorem dX7_takesTwo_38 : decode cX7_takesTwo 38 = .ok (.ifCond .eq 27, 3) := by decide +kernel
theorem dX7_takesTwo_41 : decode cX7_takesTwo 41 = .ok (.aload_n 0, 1) := by decide +kernel
theorem dX7_takesTwo_42 : decode cX7_takesTwo 42 = .ok (.iconst 5, 1) := by decide +kernel
theorem dX7_takesTwo_43 : decode cX7_takesTwo 43 = .ok (.aload_n 0, 1) := by decide +kernel
theorem dX7_takesTwo_44 : decode cX7_takesTwo 44 = .ok (.getfield 129, 3) := by decide +kernel
theorem dX7_takesTwo_47 : decode cX7_takesTwo 47 = .ok (.aload_n 0, 1) := by decide +kernel
theorem dX7_takesTwo_48 : decode cX7_takesTwo 48 = .ok (.getfield 155, 3) := by decide +kernel
theorem dX7_takesTwo_51 : decode cX7_takesTwo 51 = .ok (.if_icmp .eq 7, 3) := by decide +kernel
theorem dX7_takesTwo_54 : decode cX7_takesTwo 54 = .ok (.iconst 1, 1) := by decide +kernel
theorem dX7_takesTwo_55 : decode cX7_takesTwo 55 = .ok (.goto 4, 3) := by decide +kernel
theorem dX7_takesTwo_58 : decode cX7_takesTwo 58 = .ok (.iconst 0, 1) := by decide +kernel
theorem dX7_takesTwo_59 : decode cX7_takesTwo 59 = .ok (.invokevirtual 145, 3) := by decide +kernel
theorem dX7_takesTwo_62 : decode cX7_takesTwo 62 = .ok (.ifCond .ne 5, 3) := by decide +kernel
theorem dX7_takesTwo_65 : decode cX7_takesTwo 65 = .ok (.iconst 0, 1) := by decide +kernel
theorem dX7_takesTwo_66 : decode cX7_takesTwo 66 = .ok (.ireturn, 1) := by decide +kernel
theorem dX7_takesTwo_67 : decode cX7_takesTwo 67 = .ok (.aload_n 0, 1) := by decide +kernel
theorem dX7_takesTwo_68 : decode cX7_takesTwo 68 = .ok (.aload_n 0, 1) := by decide +kernel
theorem dX7_takesTwo_69 : decode cX7_takesTwo 69 = .ok (.getfield 129, 3) := by decide +kernel
theorem dX7_takesTwo_72 : decode cX7_takesTwo 72 = .ok (.putfield 158, 3) := by decide +kernel
theorem dX7_takesTwo_75 : decode cX7_takesTwo 75 = .ok (.iconst 1, 1) := by decide +kernel
theorem dX7_takesTwo_76 : decode cX7_takesTwo 76 = .ok (.ireturn, 1) := by decide +kernel
theorem dX7_peerLine_0 : decode cX7_peerLine 0 = .ok (.aload_n 0, 1) := by decide +kernel
theorem dX7_peerLine_1 : decode cX7_peerLine 1 = .ok (.getfield 13, 3) := by decide +kernel
theorem dX7_peerLine_4 : decode cX7_peerLine 4 = .ok (.iconst 4, 1) := by decide +kernel
theorem dX7_peerLine_5 : decode cX7_peerLine 5 = .ok (.iaload, 1) := by decide +kernel
theorem dX7_peerLine_6 : decode cX7_peerLine 6 = .ok (.istore_n 1, 1) := by decide +kernel
theorem dX7_peerLine_7 : decode cX7_peerLine 7 = .ok (.aload_n 0, 1) := by decide +kernel
theorem dX7_peerLine_8 : decode cX7_peerLine 8 = .ok (.iconst 4, 1) := by decide +kernel
theorem dX7_peerLine_9 : decode cX7_peerLine 9 = .ok (.iload_n 1, 1) := by decide +kernel
theorem dX7_peerLine_10 : decode cX7_peerLine 10 = .ok (.bipush 8, 2) := by decide +kernel
theorem dX7_peerLine_12 : decode cX7_peerLine 12 = .ok (.if_icmp .ge 7, 3) := by decide +kernel
theorem dX7_peerLine_15 : decode cX7_peerLine 15 = .ok (.iconst 1, 1) := by decide +kernel
theorem dX7_peerLine_16 : decode cX7_peerLine 16 = .ok (.goto 4, 3) := by decide +kernel
theorem dX7_peerLine_19 : decode cX7_peerLine 19 = .ok (.iconst 0, 1) := by decide +kernel
theorem dX7_peerLine_20 : decode cX7_peerLine 20 = .ok (.invokevirtual 145, 3) := by decide +kernel
theorem dX7_peerLine_23 : decode cX7_peerLine 23 = .ok (.ifCond .eq 13, 3) := by decide +kernel
theorem dX7_peerLine_26 : decode cX7_peerLine 26 = .ok (.aload_n 0, 1) := by decide +kernel
theorem dX7_peerLine_27 : decode cX7_peerLine 27 = .ok (.iconst 0, 1) := by decide +kernel
theorem dX7_peerLine_28 : decode cX7_peerLine 28 = .ok (.bipush 9, 2) := by decide +kernel
theorem dX7_peerLine_30 : decode cX7_peerLine 30 = .ok (.invokevirtual 149, 3) := by decide +kernel
theorem dX7_peerLine_33 : decode cX7_peerLine 33 = .ok (.ifCond .ne 5, 3) := by decide +kernel
theorem dX7_peerLine_36 : decode cX7_peerLine 36 = .ok (.iconst 0, 1) := by decide +kernel
theorem dX7_peerLine_37 : decode cX7_peerLine 37 = .ok (.ireturn, 1) := by decide +kernel
theorem dX7_peerLine_38 : decode cX7_peerLine 38 = .ok (.aload_n 0, 1) := by decide +kernel
theorem dX7_peerLine_39 : decode cX7_peerLine 39 = .ok (.getfield 16, 3) := by decide +kernel
theorem dX7_peerLine_42 : decode cX7_peerLine 42 = .ok (.bipush 8, 2) := by decide +kernel
theorem dX7_peerLine_44 : decode cX7_peerLine 44 = .ok (.iload_n 1, 1) := by decide +kernel
theorem dX7_peerLine_45 : decode cX7_peerLine 45 = .ok (.iadd, 1) := by decide +kernel
theorem dX7_peerLine_46 : decode cX7_peerLine 46 = .ok (.aload_n 0, 1) := by decide +kernel
theorem dX7_peerLine_47 : decode cX7_peerLine 47 = .ok (.getfield 129, 3) := by decide +kernel
theorem dX7_peerLine_50 : decode cX7_peerLine 50 = .ok (.iastore, 1) := by decide +kernel
theorem dX7_peerLine_51 : decode cX7_peerLine 51 = .ok (.aload_n 0, 1) := by decide +kernel
theorem dX7_peerLine_52 : decode cX7_peerLine 52 = .ok (.iconst 0, 1) := by decide +kernel
theorem dX7_peerLine_53 : decode cX7_peerLine 53 = .ok (.bipush 9, 2) := by decide +kernel
theorem dX7_peerLine_55 : decode cX7_peerLine 55 = .ok (.invokevirtual 149, 3) := by decide +kernel
theorem dX7_peerLine_58 : decode cX7_peerLine 58 = .ok (.ifCond .ne 5, 3) := by decide +kernel
theorem dX7_peerLine_61 : decode cX7_peerLine 61 = .ok (.iconst 0, 1) := by decide +kernel
theorem dX7_peerLine_62 : decode cX7_peerLine 62 = .ok (.ireturn, 1) := by decide +kernel
theorem dX7_peerLine_63 : decode cX7_peerLine 63 = .ok (.aload_n 0, 1) := by decide +kernel
theorem dX7_peerLine_64 : decode cX7_peerLine 64 = .ok (.getfield 19, 3) := by decide +kernel
theorem dX7_peerLine_67 : decode cX7_peerLine 67 = .ok (.bipush 8, 2) := by decide +kernel
theorem dX7_peerLine_69 : decode cX7_peerLine 69 = .ok (.iload_n 1, 1) := by decide +kernel
theorem dX7_peerLine_70 : decode cX7_peerLine 70 = .ok (.iadd, 1) := by decide +kernel
theorem dX7_peerLine_71 : decode cX7_peerLine 71 = .ok (.aload_n 0, 1) := by decide +kernel
theorem dX7_peerLine_72 : decode cX7_peerLine 72 = .ok (.getfield 129, 3) := by decide +kernel
theorem dX7_peerLine_75 : decode cX7_peerLine 75 = .ok (.iastore, 1) := by decide +kernel
theorem dX7_peerLine_76 : decode cX7_peerLine 76 = .ok (.aload_n 0, 1) := by decide +kernel
theorem dX7_peerLine_77 : decode cX7_peerLine 77 = .ok (.getfield 13, 3) := by decide +kernel
theorem dX7_peerLine_80 : decode cX7_peerLine 80 = .ok (.iconst 4, 1) := by decide +kernel
theorem dX7_peerLine_81 : decode cX7_peerLine 81 = .ok (.dup2, 1) := by decide +kernel
theorem dX7_peerLine_82 : decode cX7_peerLine 82 = .ok (.iaload, 1) := by decide +kernel
theorem dX7_peerLine_83 : decode cX7_peerLine 83 = .ok (.iconst 1, 1) := by decide +kernel
theorem dX7_peerLine_84 : decode cX7_peerLine 84 = .ok (.iadd, 1) := by decide +kernel
theorem dX7_peerLine_85 : decode cX7_peerLine 85 = .ok (.iastore, 1) := by decide +kernel
theorem dX7_peerLine_86 : decode cX7_peerLine 86 = .ok (.iconst 1, 1) := by decide +kernel
theorem dX7_peerLine_87 : decode cX7_peerLine 87 = .ok (.ireturn, 1) := by decide +kernel
theorem dX7_statement_0 : decode cX7_statement 0 = .ok (.aload_n 0, 1) := by decide +kernel
theorem dX7_statement_1 : decode cX7_statement 1 = .ok (.ldc 161, 2) := by decide +kernel
theorem dX7_statement_3 : decode cX7_statement 3 = .ok (.invokevirtual 163, 3) := by decide +kernel
theorem dX7_statement_6 : decode cX7_statement 6 = .ok (.ifCond .eq 8, 3) := by decide +kernel
theorem dX7_statement_9 : decode cX7_statement 9 = .ok (.aload_n 0, 1) := by decide +kernel
theorem dX7_statement_10 : decode cX7_statement 10 = .ok (.invokevirtual 167, 3) := by decide +kernel
theorem dX7_statement_13 : decode cX7_statement 13 = .ok (.ireturn, 1) := by decide +kernel
theorem dX7_statement_14 : decode cX7_statement 14 = .ok (.aload_n 0, 1) := by decide +kernel
theorem dX7_statement_15 : decode cX7_statement 15 = .ok (.ldc 171, 2) := by decide +kernel
theorem dX7_statement_17 : decode cX7_statement 17 = .ok (.invokevirtual 163, 3) := by decide +kernel
theorem dX7_statement_20 : decode cX7_statement 20 = .ok (.ifCond .eq 72, 3) := by decide +kernel
theorem dX7_statement_23 : decode cX7_statement 23 = .ok (.aload_n 0, 1) := by decide +kernel
theorem dX7_statement_24 : decode cX7_statement 24 = .ok (.invokevirtual 173, 3) := by decide +kernel
theorem dX7_statement_27 : decode cX7_statement 27 = .ok (.ifCond .eq 13, 3) := by decide +kernel
theorem dX7_statement_30 : decode cX7_statement 30 = .ok (.aload_n 0, 1) := by decide +kernel
theorem dX7_statement_31 : decode cX7_statement 31 = .ok (.iconst 1, 1) := by decide +kernel
theorem dX7_statement_32 : decode cX7_statement 32 = .ok (.bipush 99, 2) := by decide +kernel
theorem dX7_statement_34 : decode cX7_statement 34 = .ok (.invokevirtual 149, 3) := by decide +kernel
theorem dX7_statement_37 : decode cX7_statement 37 = .ok (.ifCond .ne 5, 3) := by decide +kernel
theorem dX7_statement_40 : decode cX7_statement 40 = .ok (.iconst 0, 1) := by decide +kernel
theorem dX7_statement_41 : decode cX7_statement 41 = .ok (.ireturn, 1) := by decide +kernel
theorem dX7_statement_42 : decode cX7_statement 42 = .ok (.aload_n 0, 1) := by decide +kernel
theorem dX7_statement_43 : decode cX7_statement 43 = .ok (.getfield 22, 3) := by decide +kernel
theorem dX7_statement_46 : decode cX7_statement 46 = .ok (.bipush 64, 2) := by decide +kernel
theorem dX7_statement_48 : decode cX7_statement 48 = .ok (.bipush 8, 2) := by decide +kernel
theorem dX7_statement_50 : decode cX7_statement 50 = .ok (.aload_n 0, 1) := by decide +kernel
theorem dX7_statement_51 : decode cX7_statement 51 = .ok (.getfield 155, 3) := by decide +kernel
theorem dX7_statement_54 : decode cX7_statement 54 = .ok (.imul, 1) := by decide +kernel
theorem dX7_statement_55 : decode cX7_statement 55 = .ok (.iadd, 1) := by decide +kernel
theorem dX7_statement_56 : decode cX7_statement 56 = .ok (.aload_n 0, 1) := by decide +kernel
theorem dX7_statement_57 : decode cX7_statement 57 = .ok (.getfield 158, 3) := by decide +kernel
theorem dX7_statement_60 : decode cX7_statement 60 = .ok (.iadd, 1) := by decide +kernel
theorem dX7_statement_61 : decode cX7_statement 61 = .ok (.aload_n 0, 1) := by decide +kernel
theorem dX7_statement_62 : decode cX7_statement 62 = .ok (.getfield 129, 3) := by decide +kernel
theorem dX7_statement_65 : decode cX7_statement 65 = .ok (.iastore, 1) := by decide +kernel
theorem dX7_statement_66 : decode cX7_statement 66 = .ok (.aload_n 0, 1) := by decide +kernel
theorem dX7_statement_67 : decode cX7_statement 67 = .ok (.getfield 22, 3) := by decide +kernel
theorem dX7_statement_70 : decode cX7_statement 70 = .ok (.bipush 64, 2) := by decide +kernel
theorem dX7_statement_72 : decode cX7_statement 72 = .ok (.bipush 8, 2) := by decide +kernel
theorem dX7_statement_74 : decode cX7_statement 74 = .ok (.aload_n 0, 1) := by decide +kernel
theorem dX7_statement_75 : decode cX7_statement 75 = .ok (.getfield 158, 3) := by decide +kernel
theorem dX7_statement_78 : decode cX7_statement 78 = .ok (.imul, 1) := by decide +kernel
theorem dX7_statement_79 : decode cX7_statement 79 = .ok (.iadd, 1) := by decide +kernel
theorem dX7_statement_80 : decode cX7_statement 80 = .ok (.aload_n 0, 1) := by decide +kernel
theorem dX7_statement_81 : decode cX7_statement 81 = .ok (.getfield 155, 3) := by decide +kernel
theorem dX7_statement_84 : decode cX7_statement 84 = .ok (.iadd, 1) := by decide +kernel
theorem dX7_statement_85 : decode cX7_statement 85 = .ok (.aload_n 0, 1) := by decide +kernel
theorem dX7_statement_86 : decode cX7_statement 86 = .ok (.getfield 129, 3) := by decide +kernel
theorem dX7_statement_89 : decode cX7_statement 89 = .ok (.iastore, 1) := by decide +kernel
theorem dX7_statement_90 : decode cX7_statement 90 = .ok (.iconst 1, 1) := by decide +kernel
theorem dX7_statement_91 : decode cX7_statement 91 = .ok (.ireturn, 1) := by decide +kernel
theorem dX7_statement_92 : decode cX7_statement 92 = .ok (.aload_n 0, 1) := by decide +kernel
theorem dX7_statement_93 : decode cX7_statement 93 = .ok (.ldc 176, 2) := by decide +kernel
theorem dX7_statement_95 : decode cX7_statement 95 = .ok (.invokevirtual 163, 3) := by decide +kernel
theorem dX7_statement_98 : decode cX7_statement 98 = .ok (.ifCond .eq 56, 3) := by decide +kernel
theorem dX7_statement_101 : decode cX7_statement 101 = .ok (.aload_n 0, 1) := by decide +kernel
theorem dX7_statement_102 : decode cX7_statement 102 = .ok (.invokevirtual 173, 3) := by decide +kernel
theorem dX7_statement_105 : decode cX7_statement 105 = .ok (.ifCond .ne 5, 3) := by decide +kernel
theorem dX7_statement_108 : decode cX7_statement 108 = .ok (.iconst 0, 1) := by decide +kernel
theorem dX7_statement_109 : decode cX7_statement 109 = .ok (.ireturn, 1) := by decide +kernel
theorem dX7_statement_110 : decode cX7_statement 110 = .ok (.aload_n 0, 1) := by decide +kernel
theorem dX7_statement_111 : decode cX7_statement 111 = .ok (.getfield 25, 3) := by decide +kernel
theorem dX7_statement_114 : decode cX7_statement 114 = .ok (.bipush 8, 2) := by decide +kernel
theorem dX7_statement_116 : decode cX7_statement 116 = .ok (.aload_n 0, 1) := by decide +kernel
theorem dX7_statement_117 : decode cX7_statement 117 = .ok (.getfield 155, 3) := by decide +kernel
theorem dX7_statement_120 : decode cX7_statement 120 = .ok (.iadd, 1) := by decide +kernel
theorem dX7_statement_121 : decode cX7_statement 121 = .ok (.dup2, 1) := by decide +kernel
theorem dX7_statement_122 : decode cX7_statement 122 = .ok (.iaload, 1) := by decide +kernel
theorem dX7_statement_123 : decode cX7_statement 123 = .ok (.iconst 1, 1) := by decide +kernel
theorem dX7_statement_124 : decode cX7_statement 124 = .ok (.aload_n 0, 1) := by decide +kernel
theorem dX7_statement_125 : decode cX7_statement 125 = .ok (.getfield 158, 3) := by decide +kernel
theorem dX7_statement_128 : decode cX7_statement 128 = .ok (.ishl, 1) := by decide +kernel
theorem dX7_statement_129 : decode cX7_statement 129 = .ok (.ior, 1) := by decide +kernel
theorem dX7_statement_130 : decode cX7_statement 130 = .ok (.iastore, 1) := by decide +kernel
theorem dX7_statement_131 : decode cX7_statement 131 = .ok (.aload_n 0, 1) := by decide +kernel
theorem dX7_statement_132 : decode cX7_statement 132 = .ok (.getfield 25, 3) := by decide +kernel
theorem dX7_statement_135 : decode cX7_statement 135 = .ok (.bipush 8, 2) := by decide +kernel
theorem dX7_statement_137 : decode cX7_statement 137 = .ok (.aload_n 0, 1) := by decide +kernel
theorem dX7_statement_138 : decode cX7_statement 138 = .ok (.getfield 158, 3) := by decide +kernel
theorem dX7_statement_141 : decode cX7_statement 141 = .ok (.iadd, 1) := by decide +kernel
theorem dX7_statement_142 : decode cX7_statement 142 = .ok (.dup2, 1) := by decide +kernel
theorem dX7_statement_143 : decode cX7_statement 143 = .ok (.iaload, 1) := by decide +kernel
theorem dX7_statement_144 : decode cX7_statement 144 = .ok (.iconst 1, 1) := by decide +kernel
theorem dX7_statement_145 : decode cX7_statement 145 = .ok (.aload_n 0, 1) := by decide +kernel
theorem dX7_statement_146 : decode cX7_statement 146 = .ok (.getfield 155, 3) := by decide +kernel
theorem dX7_statement_149 : decode cX7_statement 149 = .ok (.ishl, 1) := by decide +kernel
theorem dX7_statement_150 : decode cX7_statement 150 = .ok (.ior, 1) := by decide +kernel
theorem dX7_statement_151 : decode cX7_statement 151 = .ok (.iastore, 1) := by decide +kernel
theorem dX7_statement_152 : decode cX7_statement 152 = .ok (.iconst 1, 1) := by decide +kernel
theorem dX7_statement_153 : decode cX7_statement 153 = .ok (.ireturn, 1) := by decide +kernel
theorem dX7_statement_154 : decode cX7_statement 154 = .ok (.aload_n 0, 1) := by decide +kernel
theorem dX7_statement_155 : decode cX7_statement 155 = .ok (.ldc 178, 2) := by decide +kernel
theorem dX7_statement_157 : decode cX7_statement 157 = .ok (.invokevirtual 163, 3) := by decide +kernel
theorem dX7_statement_160 : decode cX7_statement 160 = .ok (.ifCond .eq 39, 3) := by decide +kernel
theorem dX7_statement_163 : decode cX7_statement 163 = .ok (.aload_n 0, 1) := by decide +kernel
theorem dX7_statement_164 : decode cX7_statement 164 = .ok (.iconst 0, 1) := by decide +kernel
theorem dX7_statement_165 : decode cX7_statement 165 = .ok (.invokevirtual 180, 3) := by decide +kernel
theorem dX7_statement_168 : decode cX7_statement 168 = .ok (.ifCond .eq 29, 3) := by decide +kernel
theorem dX7_statement_171 : decode cX7_statement 171 = .ok (.aload_n 0, 1) := by decide +kernel
theorem dX7_statement_172 : decode cX7_statement 172 = .ok (.iconst 1, 1) := by decide +kernel
theorem dX7_statement_173 : decode cX7_statement 173 = .ok (.iconst 1, 1) := by decide +kernel
theorem dX7_statement_174 : decode cX7_statement 174 = .ok (.bipush 20, 2) := by decide +kernel
theorem dX7_statement_176 : decode cX7_statement 176 = .ok (.invokevirtual 183, 3) := by decide +kernel
theorem dX7_statement_179 : decode cX7_statement 179 = .ok (.ifCond .eq 18, 3) := by decide +kernel
theorem dX7_statement_182 : decode cX7_statement 182 = .ok (.aload_n 0, 1) := by decide +kernel
theorem dX7_statement_183 : decode cX7_statement 183 = .ok (.iconst 2, 1) := by decide +kernel
theorem dX7_statement_184 : decode cX7_statement 184 = .ok (.iconst 1, 1) := by decide +kernel
theorem dX7_statement_185 : decode cX7_statement 185 = .ok (.bipush 9, 2) := by decide +kernel
theorem dX7_statement_187 : decode cX7_statement 187 = .ok (.invokevirtual 183, 3) := by decide +kernel
theorem dX7_statement_190 : decode cX7_statement 190 = .ok (.ifCond .eq 7, 3) := by decide +kernel
theorem dX7_statement_193 : decode cX7_statement 193 = .ok (.iconst 1, 1) := by decide +kernel
theorem dX7_statement_194 : decode cX7_statement 194 = .ok (.goto 4, 3) := by decide +kernel
theorem dX7_statement_197 : decode cX7_statement 197 = .ok (.iconst 0, 1) := by decide +kernel
theorem dX7_statement_198 : decode cX7_statement 198 = .ok (.ireturn, 1) := by decide +kernel
theorem dX7_statement_199 : decode cX7_statement 199 = .ok (.aload_n 0, 1) := by decide +kernel
theorem dX7_statement_200 : decode cX7_statement 200 = .ok (.ldc 186, 2) := by decide +kernel
theorem dX7_statement_202 : decode cX7_statement 202 = .ok (.invokevirtual 163, 3) := by decide +kernel
theorem dX7_statement_205 : decode cX7_statement 205 = .ok (.ifCond .eq 28, 3) := by decide +kernel
theorem dX7_statement_208 : decode cX7_statement 208 = .ok (.aload_n 0, 1) := by decide +kernel
theorem dX7_statement_209 : decode cX7_statement 209 = .ok (.iconst 1, 1) := by decide +kernel
theorem dX7_statement_210 : decode cX7_statement 210 = .ok (.invokevirtual 180, 3) := by decide +kernel
theorem dX7_statement_213 : decode cX7_statement 213 = .ok (.ifCond .eq 18, 3) := by decide +kernel
theorem dX7_statement_216 : decode cX7_statement 216 = .ok (.aload_n 0, 1) := by decide +kernel
theorem dX7_statement_217 : decode cX7_statement 217 = .ok (.iconst 3, 1) := by decide +kernel
theorem dX7_statement_218 : decode cX7_statement 218 = .ok (.iconst 1, 1) := by decide +kernel
theorem dX7_statement_219 : decode cX7_statement 219 = .ok (.bipush 99, 2) := by decide +kernel
theorem dX7_statement_221 : decode cX7_statement 221 = .ok (.invokevirtual 183, 3) := by decide +kernel
theorem dX7_statement_224 : decode cX7_statement 224 = .ok (.ifCond .eq 7, 3) := by decide +kernel
theorem dX7_statement_227 : decode cX7_statement 227 = .ok (.iconst 1, 1) := by decide +kernel
theorem dX7_statement_228 : decode cX7_statement 228 = .ok (.goto 4, 3) := by decide +kernel
theorem dX7_statement_231 : decode cX7_statement 231 = .ok (.iconst 0, 1) := by decide +kernel
theorem dX7_statement_232 : decode cX7_statement 232 = .ok (.ireturn, 1) := by decide +kernel
theorem dX7_statement_233 : decode cX7_statement 233 = .ok (.aload_n 0, 1) := by decide +kernel
theorem dX7_statement_234 : decode cX7_statement 234 = .ok (.ldc 188, 2) := by decide +kernel
theorem dX7_statement_236 : decode cX7_statement 236 = .ok (.invokevirtual 163, 3) := by decide +kernel
theorem dX7_statement_239 : decode cX7_statement 239 = .ok (.ifCond .ne 9, 3) := by decide +kernel
theorem dX7_statement_242 : decode cX7_statement 242 = .ok (.aload_n 0, 1) := by decide +kernel
theorem dX7_statement_243 : decode cX7_statement 243 = .ok (.iconst 1, 1) := by decide +kernel
theorem dX7_statement_244 : decode cX7_statement 244 = .ok (.invokevirtual 126, 3) := by decide +kernel
theorem dX7_statement_247 : decode cX7_statement 247 = .ok (.ireturn, 1) := by decide +kernel
theorem dX7_statement_248 : decode cX7_statement 248 = .ok (.aload_n 0, 1) := by decide +kernel
theorem dX7_statement_249 : decode cX7_statement 249 = .ok (.getfield 28, 3) := by decide +kernel
theorem dX7_statement_252 : decode cX7_statement 252 = .ok (.iconst 1, 1) := by decide +kernel
theorem dX7_statement_253 : decode cX7_statement 253 = .ok (.iconst 0, 1) := by decide +kernel
theorem dX7_statement_254 : decode cX7_statement 254 = .ok (.iastore, 1) := by decide +kernel
theorem dX7_statement_255 : decode cX7_statement 255 = .ok (.aload_n 0, 1) := by decide +kernel
theorem dX7_statement_256 : decode cX7_statement 256 = .ok (.iconst 0, 1) := by decide +kernel
theorem dX7_statement_257 : decode cX7_statement 257 = .ok (.putfield 190, 3) := by decide +kernel
theorem dX7_statement_260 : decode cX7_statement 260 = .ok (.aload_n 0, 1) := by decide +kernel
theorem dX7_statement_261 : decode cX7_statement 261 = .ok (.iconst 2, 1) := by decide +kernel
theorem dX7_statement_262 : decode cX7_statement 262 = .ok (.invokevirtual 180, 3) := by decide +kernel
theorem dX7_statement_265 : decode cX7_statement 265 = .ok (.ifCond .eq 14, 3) := by decide +kernel
theorem dX7_statement_268 : decode cX7_statement 268 = .ok (.aload_n 0, 1) := by decide +kernel
theorem dX7_statement_269 : decode cX7_statement 269 = .ok (.invokevirtual 193, 3) := by decide +kernel
theorem dX7_statement_272 : decode cX7_statement 272 = .ok (.ifCond .eq 7, 3) := by decide +kernel
theorem dX7_statement_275 : decode cX7_statement 275 = .ok (.iconst 1, 1) := by decide +kernel
theorem dX7_statement_276 : decode cX7_statement 276 = .ok (.goto 4, 3) := by decide +kernel
theorem dX7_statement_279 : decode cX7_statement 279 = .ok (.iconst 0, 1) := by decide +kernel
theorem dX7_statement_280 : decode cX7_statement 280 = .ok (.ireturn, 1) := by decide +kernel
theorem dX7_emit_0 : decode cX7_emit 0 = .ok (.aload_n 0, 1) := by decide +kernel
theorem dX7_emit_1 : decode cX7_emit 1 = .ok (.getfield 31, 3) := by decide +kernel
theorem dX7_emit_4 : decode cX7_emit 4 = .ok (.sipush 620, 3) := by decide +kernel
theorem dX7_emit_7 : decode cX7_emit 7 = .ok (.aload_n 0, 1) := by decide +kernel
theorem dX7_emit_8 : decode cX7_emit 8 = .ok (.getfield 28, 3) := by decide +kernel
theorem dX7_emit_11 : decode cX7_emit 11 = .ok (.iconst 1, 1) := by decide +kernel
theorem dX7_emit_12 : decode cX7_emit 12 = .ok (.iaload, 1) := by decide +kernel
theorem dX7_emit_13 : decode cX7_emit 13 = .ok (.iadd, 1) := by decide +kernel
theorem dX7_emit_14 : decode cX7_emit 14 = .ok (.iload_n 1, 1) := by decide +kernel
theorem dX7_emit_15 : decode cX7_emit 15 = .ok (.iastore, 1) := by decide +kernel
theorem dX7_emit_16 : decode cX7_emit 16 = .ok (.aload_n 0, 1) := by decide +kernel
theorem dX7_emit_17 : decode cX7_emit 17 = .ok (.getfield 28, 3) := by decide +kernel
theorem dX7_emit_20 : decode cX7_emit 20 = .ok (.iconst 1, 1) := by decide +kernel
theorem dX7_emit_21 : decode cX7_emit 21 = .ok (.dup2, 1) := by decide +kernel
theorem dX7_emit_22 : decode cX7_emit 22 = .ok (.iaload, 1) := by decide +kernel
theorem dX7_emit_23 : decode cX7_emit 23 = .ok (.iconst 1, 1) := by decide +kernel
theorem dX7_emit_24 : decode cX7_emit 24 = .ok (.iadd, 1) := by decide +kernel
theorem dX7_emit_25 : decode cX7_emit 25 = .ok (.iastore, 1) := by decide +kernel
theorem dX7_emit_26 : decode cX7_emit 26 = .ok (.iconst 1, 1) := by decide +kernel
theorem dX7_emit_27 : decode cX7_emit 27 = .ok (.ireturn, 1) := by decide +kernel
theorem dX7_sum_0 : decode cX7_sum 0 = .ok (.aload_n 0, 1) := by decide +kernel
theorem dX7_sum_1 : decode cX7_sum 1 = .ok (.invokevirtual 196, 3) := by decide +kernel
theorem dX7_sum_4 : decode cX7_sum 4 = .ok (.ifCond .ne 5, 3) := by decide +kernel
theorem dX7_sum_7 : decode cX7_sum 7 = .ok (.iconst 0, 1) := by decide +kernel
theorem dX7_sum_8 : decode cX7_sum 8 = .ok (.ireturn, 1) := by decide +kernel
theorem dX7_sum_9 : decode cX7_sum 9 = .ok (.aload_n 0, 1) := by decide +kernel
theorem dX7_sum_10 : decode cX7_sum 10 = .ok (.bipush 43, 2) := by decide +kernel
theorem dX7_sum_12 : decode cX7_sum 12 = .ok (.invokevirtual 152, 3) := by decide +kernel
theorem dX7_sum_15 : decode cX7_sum 15 = .ok (.ifCond .ne 12, 3) := by decide +kernel
theorem dX7_sum_18 : decode cX7_sum 18 = .ok (.aload_n 0, 1) := by decide +kernel
theorem dX7_sum_19 : decode cX7_sum 19 = .ok (.bipush 45, 2) := by decide +kernel
theorem dX7_sum_21 : decode cX7_sum 21 = .ok (.invokevirtual 152, 3) := by decide +kernel
theorem dX7_sum_24 : decode cX7_sum 24 = .ok (.ifCond .eq 41, 3) := by decide +kernel
theorem dX7_sum_27 : decode cX7_sum 27 = .ok (.aload_n 0, 1) := by decide +kernel
theorem dX7_sum_28 : decode cX7_sum 28 = .ok (.getfield 101, 3) := by decide +kernel
theorem dX7_sum_31 : decode cX7_sum 31 = .ok (.bipush 43, 2) := by decide +kernel
theorem dX7_sum_33 : decode cX7_sum 33 = .ok (.if_icmp .ne 7, 3) := by decide +kernel
theorem dX7_sum_36 : decode cX7_sum 36 = .ok (.iconst (-1), 1) := by decide +kernel
theorem dX7_sum_37 : decode cX7_sum 37 = .ok (.goto 5, 3) := by decide +kernel
theorem dX7_sum_40 : decode cX7_sum 40 = .ok (.bipush (-2), 2) := by decide +kernel
theorem dX7_sum_42 : decode cX7_sum 42 = .ok (.istore_n 1, 1) := by decide +kernel
theorem dX7_sum_43 : decode cX7_sum 43 = .ok (.aload_n 0, 1) := by decide +kernel
theorem dX7_sum_44 : decode cX7_sum 44 = .ok (.invokevirtual 136, 3) := by decide +kernel
theorem dX7_sum_47 : decode cX7_sum 47 = .ok (.aload_n 0, 1) := by decide +kernel
theorem dX7_sum_48 : decode cX7_sum 48 = .ok (.invokevirtual 196, 3) := by decide +kernel
theorem dX7_sum_51 : decode cX7_sum 51 = .ok (.ifCond .ne 5, 3) := by decide +kernel
theorem dX7_sum_54 : decode cX7_sum 54 = .ok (.iconst 0, 1) := by decide +kernel
theorem dX7_sum_55 : decode cX7_sum 55 = .ok (.ireturn, 1) := by decide +kernel
theorem dX7_sum_56 : decode cX7_sum 56 = .ok (.aload_n 0, 1) := by decide +kernel
theorem dX7_sum_57 : decode cX7_sum 57 = .ok (.iload_n 1, 1) := by decide +kernel
theorem dX7_sum_58 : decode cX7_sum 58 = .ok (.invokevirtual 77, 3) := by decide +kernel
theorem dX7_sum_61 : decode cX7_sum 61 = .ok (.pop, 1) := by decide +kernel
theorem dX7_sum_62 : decode cX7_sum 62 = .ok (.goto (-53), 3) := by decide +kernel
theorem dX7_sum_65 : decode cX7_sum 65 = .ok (.iconst 1, 1) := by decide +kernel
theorem dX7_sum_66 : decode cX7_sum 66 = .ok (.ireturn, 1) := by decide +kernel
theorem dX7_term_0 : decode cX7_term 0 = .ok (.aload_n 0, 1) := by decide +kernel
theorem dX7_term_1 : decode cX7_term 1 = .ok (.invokevirtual 199, 3) := by decide +kernel
theorem dX7_term_4 : decode cX7_term 4 = .ok (.ifCond .ne 5, 3) := by decide +kernel
theorem dX7_term_7 : decode cX7_term 7 = .ok (.iconst 0, 1) := by decide +kernel
theorem dX7_term_8 : decode cX7_term 8 = .ok (.ireturn, 1) := by decide +kernel
theorem dX7_term_9 : decode cX7_term 9 = .ok (.aload_n 0, 1) := by decide +kernel
theorem dX7_term_10 : decode cX7_term 10 = .ok (.bipush 42, 2) := by decide +kernel
theorem dX7_term_12 : decode cX7_term 12 = .ok (.invokevirtual 152, 3) := by decide +kernel
theorem dX7_term_15 : decode cX7_term 15 = .ok (.ifCond .ne 12, 3) := by decide +kernel
theorem dX7_term_18 : decode cX7_term 18 = .ok (.aload_n 0, 1) := by decide +kernel
theorem dX7_term_19 : decode cX7_term 19 = .ok (.bipush 47, 2) := by decide +kernel
theorem dX7_term_21 : decode cX7_term 21 = .ok (.invokevirtual 152, 3) := by decide +kernel
theorem dX7_term_24 : decode cX7_term 24 = .ok (.ifCond .eq 42, 3) := by decide +kernel
theorem dX7_term_27 : decode cX7_term 27 = .ok (.aload_n 0, 1) := by decide +kernel
theorem dX7_term_28 : decode cX7_term 28 = .ok (.getfield 101, 3) := by decide +kernel
theorem dX7_term_31 : decode cX7_term 31 = .ok (.bipush 42, 2) := by decide +kernel
theorem dX7_term_33 : decode cX7_term 33 = .ok (.if_icmp .ne 8, 3) := by decide +kernel
theorem dX7_term_36 : decode cX7_term 36 = .ok (.bipush (-3), 2) := by decide +kernel
theorem dX7_term_38 : decode cX7_term 38 = .ok (.goto 5, 3) := by decide +kernel
theorem dX7_term_41 : decode cX7_term 41 = .ok (.bipush (-4), 2) := by decide +kernel
theorem dX7_term_43 : decode cX7_term 43 = .ok (.istore_n 1, 1) := by decide +kernel
theorem dX7_term_44 : decode cX7_term 44 = .ok (.aload_n 0, 1) := by decide +kernel
theorem dX7_term_45 : decode cX7_term 45 = .ok (.invokevirtual 136, 3) := by decide +kernel
theorem dX7_term_48 : decode cX7_term 48 = .ok (.aload_n 0, 1) := by decide +kernel
theorem dX7_term_49 : decode cX7_term 49 = .ok (.invokevirtual 199, 3) := by decide +kernel
theorem dX7_term_52 : decode cX7_term 52 = .ok (.ifCond .ne 5, 3) := by decide +kernel
theorem dX7_term_55 : decode cX7_term 55 = .ok (.iconst 0, 1) := by decide +kernel
theorem dX7_term_56 : decode cX7_term 56 = .ok (.ireturn, 1) := by decide +kernel
theorem dX7_term_57 : decode cX7_term 57 = .ok (.aload_n 0, 1) := by decide +kernel
theorem dX7_term_58 : decode cX7_term 58 = .ok (.iload_n 1, 1) := by decide +kernel
theorem dX7_term_59 : decode cX7_term 59 = .ok (.invokevirtual 77, 3) := by decide +kernel
theorem dX7_term_62 : decode cX7_term 62 = .ok (.pop, 1) := by decide +kernel
theorem dX7_term_63 : decode cX7_term 63 = .ok (.goto (-54), 3) := by decide +kernel
theorem dX7_term_66 : decode cX7_term 66 = .ok (.iconst 1, 1) := by decide +kernel
theorem dX7_term_67 : decode cX7_term 67 = .ok (.ireturn, 1) := by decide +kernel
theorem dX7_nameHere_0 : decode cX7_nameHere 0 = .ok (.aload_n 0, 1) := by decide +kernel
theorem dX7_nameHere_1 : decode cX7_nameHere 1 = .ok (.ldc 202, 2) := by decide +kernel
theorem dX7_nameHere_3 : decode cX7_nameHere 3 = .ok (.invokevirtual 163, 3) := by decide +kernel
theorem dX7_nameHere_6 : decode cX7_nameHere 6 = .ok (.ifCond .eq 5, 3) := by decide +kernel
theorem dX7_nameHere_9 : decode cX7_nameHere 9 = .ok (.iconst 1, 1) := by decide +kernel
theorem dX7_nameHere_10 : decode cX7_nameHere 10 = .ok (.ireturn, 1) := by decide +kernel
theorem dX7_nameHere_11 : decode cX7_nameHere 11 = .ok (.aload_n 0, 1) := by decide +kernel
theorem dX7_nameHere_12 : decode cX7_nameHere 12 = .ok (.ldc 204, 2) := by decide +kernel
theorem dX7_nameHere_14 : decode cX7_nameHere 14 = .ok (.invokevirtual 163, 3) := by decide +kernel
theorem dX7_nameHere_17 : decode cX7_nameHere 17 = .ok (.ifCond .eq 5, 3) := by decide +kernel
theorem dX7_nameHere_20 : decode cX7_nameHere 20 = .ok (.iconst 2, 1) := by decide +kernel
theorem dX7_nameHere_21 : decode cX7_nameHere 21 = .ok (.ireturn, 1) := by decide +kernel
theorem dX7_nameHere_22 : decode cX7_nameHere 22 = .ok (.aload_n 0, 1) := by decide +kernel
theorem dX7_nameHere_23 : decode cX7_nameHere 23 = .ok (.ldc 206, 2) := by decide +kernel
theorem dX7_nameHere_25 : decode cX7_nameHere 25 = .ok (.invokevirtual 163, 3) := by decide +kernel
theorem dX7_nameHere_28 : decode cX7_nameHere 28 = .ok (.ifCond .eq 7, 3) := by decide +kernel
theorem dX7_nameHere_31 : decode cX7_nameHere 31 = .ok (.iconst 3, 1) := by decide +kernel
theorem dX7_nameHere_32 : decode cX7_nameHere 32 = .ok (.goto 30, 3) := by decide +kernel
theorem dX7_nameHere_35 : decode cX7_nameHere 35 = .ok (.aload_n 0, 1) := by decide +kernel
theorem dX7_nameHere_36 : decode cX7_nameHere 36 = .ok (.ldc 208, 2) := by decide +kernel
theorem dX7_nameHere_38 : decode cX7_nameHere 38 = .ok (.invokevirtual 163, 3) := by decide +kernel
theorem dX7_nameHere_41 : decode cX7_nameHere 41 = .ok (.ifCond .eq 7, 3) := by decide +kernel
theorem dX7_nameHere_44 : decode cX7_nameHere 44 = .ok (.iconst 4, 1) := by decide +kernel
theorem dX7_nameHere_45 : decode cX7_nameHere 45 = .ok (.goto 17, 3) := by decide +kernel
theorem dX7_nameHere_48 : decode cX7_nameHere 48 = .ok (.aload_n 0, 1) := by decide +kernel
theorem dX7_nameHere_49 : decode cX7_nameHere 49 = .ok (.ldc 209, 2) := by decide +kernel
theorem dX7_nameHere_51 : decode cX7_nameHere 51 = .ok (.invokevirtual 163, 3) := by decide +kernel
theorem dX7_nameHere_54 : decode cX7_nameHere 54 = .ok (.ifCond .eq 7, 3) := by decide +kernel
theorem dX7_nameHere_57 : decode cX7_nameHere 57 = .ok (.iconst 5, 1) := by decide +kernel
theorem dX7_nameHere_58 : decode cX7_nameHere 58 = .ok (.goto 4, 3) := by decide +kernel
theorem dX7_nameHere_61 : decode cX7_nameHere 61 = .ok (.iconst 0, 1) := by decide +kernel
theorem dX7_nameHere_62 : decode cX7_nameHere 62 = .ok (.ireturn, 1) := by decide +kernel
theorem dX7_factor_0 : decode cX7_factor 0 = .ok (.aload_n 0, 1) := by decide +kernel
theorem dX7_factor_1 : decode cX7_factor 1 = .ok (.bipush 40, 2) := by decide +kernel
theorem dX7_factor_3 : decode cX7_factor 3 = .ok (.invokevirtual 152, 3) := by decide +kernel
theorem dX7_factor_6 : decode cX7_factor 6 = .ok (.ifCond .eq 70, 3) := by decide +kernel
theorem dX7_factor_9 : decode cX7_factor 9 = .ok (.aload_n 0, 1) := by decide +kernel
theorem dX7_factor_10 : decode cX7_factor 10 = .ok (.iconst 4, 1) := by decide +kernel
theorem dX7_factor_11 : decode cX7_factor 11 = .ok (.aload_n 0, 1) := by decide +kernel
theorem dX7_factor_12 : decode cX7_factor 12 = .ok (.getfield 190, 3) := by decide +kernel
theorem dX7_factor_15 : decode cX7_factor 15 = .ok (.iconst 5, 1) := by decide +kernel
theorem dX7_factor_16 : decode cX7_factor 16 = .ok (.if_icmp .ge 7, 3) := by decide +kernel
theorem dX7_factor_19 : decode cX7_factor 19 = .ok (.iconst 1, 1) := by decide +kernel
theorem dX7_factor_20 : decode cX7_factor 20 = .ok (.goto 4, 3) := by decide +kernel
theorem dX7_factor_23 : decode cX7_factor 23 = .ok (.iconst 0, 1) := by decide +kernel
theorem dX7_factor_24 : decode cX7_factor 24 = .ok (.invokevirtual 145, 3) := by decide +kernel
theorem dX7_factor_27 : decode cX7_factor 27 = .ok (.ifCond .ne 5, 3) := by decide +kernel
theorem dX7_factor_30 : decode cX7_factor 30 = .ok (.iconst 0, 1) := by decide +kernel
theorem dX7_factor_31 : decode cX7_factor 31 = .ok (.ireturn, 1) := by decide +kernel
theorem dX7_factor_32 : decode cX7_factor 32 = .ok (.aload_n 0, 1) := by decide +kernel
theorem dX7_factor_33 : decode cX7_factor 33 = .ok (.dup, 1) := by decide +kernel
theorem dX7_factor_34 : decode cX7_factor 34 = .ok (.getfield 190, 3) := by decide +kernel
theorem dX7_factor_37 : decode cX7_factor 37 = .ok (.iconst 1, 1) := by decide +kernel
theorem dX7_factor_38 : decode cX7_factor 38 = .ok (.iadd, 1) := by decide +kernel
theorem dX7_factor_39 : decode cX7_factor 39 = .ok (.putfield 190, 3) := by decide +kernel
theorem dX7_factor_42 : decode cX7_factor 42 = .ok (.aload_n 0, 1) := by decide +kernel
theorem dX7_factor_43 : decode cX7_factor 43 = .ok (.invokevirtual 193, 3) := by decide +kernel
theorem dX7_factor_46 : decode cX7_factor 46 = .ok (.ifCond .eq 16, 3) := by decide +kernel
theorem dX7_factor_49 : decode cX7_factor 49 = .ok (.aload_n 0, 1) := by decide +kernel
theorem dX7_factor_50 : decode cX7_factor 50 = .ok (.bipush 41, 2) := by decide +kernel
theorem dX7_factor_52 : decode cX7_factor 52 = .ok (.invokevirtual 211, 3) := by decide +kernel
theorem dX7_factor_55 : decode cX7_factor 55 = .ok (.ifCond .eq 7, 3) := by decide +kernel
theorem dX7_factor_58 : decode cX7_factor 58 = .ok (.iconst 1, 1) := by decide +kernel
theorem dX7_factor_59 : decode cX7_factor 59 = .ok (.goto 4, 3) := by decide +kernel
theorem dX7_factor_62 : decode cX7_factor 62 = .ok (.iconst 0, 1) := by decide +kernel
theorem dX7_factor_63 : decode cX7_factor 63 = .ok (.istore_n 1, 1) := by decide +kernel
theorem dX7_factor_64 : decode cX7_factor 64 = .ok (.aload_n 0, 1) := by decide +kernel
theorem dX7_factor_65 : decode cX7_factor 65 = .ok (.dup, 1) := by decide +kernel
theorem dX7_factor_66 : decode cX7_factor 66 = .ok (.getfield 190, 3) := by decide +kernel
theorem dX7_factor_69 : decode cX7_factor 69 = .ok (.iconst 1, 1) := by decide +kernel
theorem dX7_factor_70 : decode cX7_factor 70 = .ok (.isub, 1) := by decide +kernel
theorem dX7_factor_71 : decode cX7_factor 71 = .ok (.putfield 190, 3) := by decide +kernel
theorem dX7_factor_74 : decode cX7_factor 74 = .ok (.iload_n 1, 1) := by decide +kernel
theorem dX7_factor_75 : decode cX7_factor 75 = .ok (.ireturn, 1) := by decide +kernel
theorem dX7_factor_76 : decode cX7_factor 76 = .ok (.aload_n 0, 1) := by decide +kernel
theorem dX7_factor_77 : decode cX7_factor 77 = .ok (.getfield 104, 3) := by decide +kernel
theorem dX7_factor_80 : decode cX7_factor 80 = .ok (.iconst 2, 1) := by decide +kernel
theorem dX7_factor_81 : decode cX7_factor 81 = .ok (.if_icmp .ne 13, 3) := by decide +kernel
theorem dX7_factor_84 : decode cX7_factor 84 = .ok (.bipush 100, 2) := by decide +kernel
theorem dX7_factor_86 : decode cX7_factor 86 = .ok (.aload_n 0, 1) := by decide +kernel
theorem dX7_factor_87 : decode cX7_factor 87 = .ok (.getfield 101, 3) := by decide +kernel
theorem dX7_factor_90 : decode cX7_factor 90 = .ok (.iadd, 1) := by decide +kernel
theorem dX7_factor_91 : decode cX7_factor 91 = .ok (.goto 7, 3) := by decide +kernel
theorem dX7_factor_94 : decode cX7_factor 94 = .ok (.aload_n 0, 1) := by decide +kernel
theorem dX7_factor_95 : decode cX7_factor 95 = .ok (.invokevirtual 214, 3) := by decide +kernel
theorem dX7_factor_98 : decode cX7_factor 98 = .ok (.istore_n 1, 1) := by decide +kernel
theorem dX7_factor_99 : decode cX7_factor 99 = .ok (.iload_n 1, 1) := by decide +kernel
theorem dX7_factor_100 : decode cX7_factor 100 = .ok (.ifCond .ne 9, 3) := by decide +kernel
theorem dX7_factor_103 : decode cX7_factor 103 = .ok (.aload_n 0, 1) := by decide +kernel
theorem dX7_factor_104 : decode cX7_factor 104 = .ok (.iconst 1, 1) := by decide +kernel
theorem dX7_factor_105 : decode cX7_factor 105 = .ok (.invokevirtual 126, 3) := by decide +kernel
theorem dX7_factor_108 : decode cX7_factor 108 = .ok (.ireturn, 1) := by decide +kernel
theorem dX7_factor_109 : decode cX7_factor 109 = .ok (.aload_n 0, 1) := by decide +kernel
theorem dX7_factor_110 : decode cX7_factor 110 = .ok (.invokevirtual 136, 3) := by decide +kernel
theorem dX7_factor_113 : decode cX7_factor 113 = .ok (.aload_n 0, 1) := by decide +kernel
theorem dX7_factor_114 : decode cX7_factor 114 = .ok (.iload_n 1, 1) := by decide +kernel
theorem dX7_factor_115 : decode cX7_factor 115 = .ok (.invokevirtual 77, 3) := by decide +kernel
theorem dX7_factor_118 : decode cX7_factor 118 = .ok (.ireturn, 1) := by decide +kernel
theorem dX7_scoreOf_0 : decode cX7_scoreOf 0 = .ok (.aload_n 0, 1) := by decide +kernel
theorem dX7_scoreOf_1 : decode cX7_scoreOf 1 = .ok (.getfield 45, 3) := by decide +kernel
theorem dX7_scoreOf_4 : decode cX7_scoreOf 4 = .ok (.iconst 1, 1) := by decide +kernel
theorem dX7_scoreOf_5 : decode cX7_scoreOf 5 = .ok (.aload_n 0, 1) := by decide +kernel
theorem dX7_scoreOf_6 : decode cX7_scoreOf 6 = .ok (.getfield 22, 3) := by decide +kernel
theorem dX7_scoreOf_9 : decode cX7_scoreOf 9 = .ok (.bipush 8, 2) := by decide +kernel
theorem dX7_scoreOf_11 : decode cX7_scoreOf 11 = .ok (.iload_n 2, 1) := by decide +kernel
theorem dX7_scoreOf_12 : decode cX7_scoreOf 12 = .ok (.imul, 1) := by decide +kernel
theorem dX7_scoreOf_13 : decode cX7_scoreOf 13 = .ok (.iload_n 1, 1) := by decide +kernel
theorem dX7_scoreOf_14 : decode cX7_scoreOf 14 = .ok (.iadd, 1) := by decide +kernel
theorem dX7_scoreOf_15 : decode cX7_scoreOf 15 = .ok (.iaload, 1) := by decide +kernel
theorem dX7_scoreOf_16 : decode cX7_scoreOf 16 = .ok (.iastore, 1) := by decide +kernel
theorem dX7_scoreOf_17 : decode cX7_scoreOf 17 = .ok (.aload_n 0, 1) := by decide +kernel
theorem dX7_scoreOf_18 : decode cX7_scoreOf 18 = .ok (.getfield 45, 3) := by decide +kernel
theorem dX7_scoreOf_21 : decode cX7_scoreOf 21 = .ok (.iconst 2, 1) := by decide +kernel
theorem dX7_scoreOf_22 : decode cX7_scoreOf 22 = .ok (.aload_n 0, 1) := by decide +kernel
theorem dX7_scoreOf_23 : decode cX7_scoreOf 23 = .ok (.getfield 22, 3) := by decide +kernel
theorem dX7_scoreOf_26 : decode cX7_scoreOf 26 = .ok (.bipush 8, 2) := by decide +kernel
theorem dX7_scoreOf_28 : decode cX7_scoreOf 28 = .ok (.iload_n 1, 1) := by decide +kernel
theorem dX7_scoreOf_29 : decode cX7_scoreOf 29 = .ok (.imul, 1) := by decide +kernel
theorem dX7_scoreOf_30 : decode cX7_scoreOf 30 = .ok (.iload_n 3, 1) := by decide +kernel
theorem dX7_scoreOf_31 : decode cX7_scoreOf 31 = .ok (.iadd, 1) := by decide +kernel
theorem dX7_scoreOf_32 : decode cX7_scoreOf 32 = .ok (.iaload, 1) := by decide +kernel
theorem dX7_scoreOf_33 : decode cX7_scoreOf 33 = .ok (.iastore, 1) := by decide +kernel
theorem dX7_scoreOf_34 : decode cX7_scoreOf 34 = .ok (.aload_n 0, 1) := by decide +kernel
theorem dX7_scoreOf_35 : decode cX7_scoreOf 35 = .ok (.getfield 45, 3) := by decide +kernel
theorem dX7_scoreOf_38 : decode cX7_scoreOf 38 = .ok (.iconst 3, 1) := by decide +kernel
theorem dX7_scoreOf_39 : decode cX7_scoreOf 39 = .ok (.aload_n 0, 1) := by decide +kernel
theorem dX7_scoreOf_40 : decode cX7_scoreOf 40 = .ok (.iload_n 1, 1) := by decide +kernel
theorem dX7_scoreOf_41 : decode cX7_scoreOf 41 = .ok (.invokevirtual 217, 3) := by decide +kernel
theorem dX7_scoreOf_44 : decode cX7_scoreOf 44 = .ok (.iastore, 1) := by decide +kernel
theorem dX7_scoreOf_45 : decode cX7_scoreOf 45 = .ok (.aload_n 0, 1) := by decide +kernel
theorem dX7_scoreOf_46 : decode cX7_scoreOf 46 = .ok (.getfield 45, 3) := by decide +kernel
theorem dX7_scoreOf_49 : decode cX7_scoreOf 49 = .ok (.iconst 4, 1) := by decide +kernel
theorem dX7_scoreOf_50 : decode cX7_scoreOf 50 = .ok (.aload_n 0, 1) := by decide +kernel
theorem dX7_scoreOf_51 : decode cX7_scoreOf 51 = .ok (.getfield 16, 3) := by decide +kernel
theorem dX7_scoreOf_54 : decode cX7_scoreOf 54 = .ok (.iload_n 1, 1) := by decide +kernel
theorem dX7_scoreOf_55 : decode cX7_scoreOf 55 = .ok (.iaload, 1) := by decide +kernel
theorem dX7_scoreOf_56 : decode cX7_scoreOf 56 = .ok (.iastore, 1) := by decide +kernel
theorem dX7_scoreOf_57 : decode cX7_scoreOf 57 = .ok (.aload_n 0, 1) := by decide +kernel
theorem dX7_scoreOf_58 : decode cX7_scoreOf 58 = .ok (.getfield 45, 3) := by decide +kernel
theorem dX7_scoreOf_61 : decode cX7_scoreOf 61 = .ok (.iconst 5, 1) := by decide +kernel
theorem dX7_scoreOf_62 : decode cX7_scoreOf 62 = .ok (.aload_n 0, 1) := by decide +kernel
theorem dX7_scoreOf_63 : decode cX7_scoreOf 63 = .ok (.getfield 19, 3) := by decide +kernel
theorem dX7_scoreOf_66 : decode cX7_scoreOf 66 = .ok (.iload_n 2, 1) := by decide +kernel
theorem dX7_scoreOf_67 : decode cX7_scoreOf 67 = .ok (.iaload, 1) := by decide +kernel
theorem dX7_scoreOf_68 : decode cX7_scoreOf 68 = .ok (.aload_n 0, 1) := by decide +kernel
theorem dX7_scoreOf_69 : decode cX7_scoreOf 69 = .ok (.getfield 19, 3) := by decide +kernel
theorem dX7_scoreOf_72 : decode cX7_scoreOf 72 = .ok (.iload_n 1, 1) := by decide +kernel
theorem dX7_scoreOf_73 : decode cX7_scoreOf 73 = .ok (.iaload, 1) := by decide +kernel
theorem dX7_scoreOf_74 : decode cX7_scoreOf 74 = .ok (.if_icmp .eq 7, 3) := by decide +kernel
theorem dX7_scoreOf_77 : decode cX7_scoreOf 77 = .ok (.iconst 1, 1) := by decide +kernel
theorem dX7_scoreOf_78 : decode cX7_scoreOf 78 = .ok (.goto 4, 3) := by decide +kernel
theorem dX7_scoreOf_81 : decode cX7_scoreOf 81 = .ok (.iconst 0, 1) := by decide +kernel
theorem dX7_scoreOf_82 : decode cX7_scoreOf 82 = .ok (.aload_n 0, 1) := by decide +kernel
theorem dX7_scoreOf_83 : decode cX7_scoreOf 83 = .ok (.getfield 19, 3) := by decide +kernel
theorem dX7_scoreOf_86 : decode cX7_scoreOf 86 = .ok (.iload_n 3, 1) := by decide +kernel
theorem dX7_scoreOf_87 : decode cX7_scoreOf 87 = .ok (.iaload, 1) := by decide +kernel
theorem dX7_scoreOf_88 : decode cX7_scoreOf 88 = .ok (.aload_n 0, 1) := by decide +kernel
theorem dX7_scoreOf_89 : decode cX7_scoreOf 89 = .ok (.getfield 19, 3) := by decide +kernel
theorem dX7_scoreOf_92 : decode cX7_scoreOf 92 = .ok (.iload_n 1, 1) := by decide +kernel
theorem dX7_scoreOf_93 : decode cX7_scoreOf 93 = .ok (.iaload, 1) := by decide +kernel
theorem dX7_scoreOf_94 : decode cX7_scoreOf 94 = .ok (.if_icmp .eq 7, 3) := by decide +kernel
theorem dX7_scoreOf_97 : decode cX7_scoreOf 97 = .ok (.iconst 1, 1) := by decide +kernel
theorem dX7_scoreOf_98 : decode cX7_scoreOf 98 = .ok (.goto 4, 3) := by decide +kernel
theorem dX7_scoreOf_101 : decode cX7_scoreOf 101 = .ok (.iconst 0, 1) := by decide +kernel
theorem dX7_scoreOf_102 : decode cX7_scoreOf 102 = .ok (.iadd, 1) := by decide +kernel
theorem dX7_scoreOf_103 : decode cX7_scoreOf 103 = .ok (.iastore, 1) := by decide +kernel
theorem dX7_scoreOf_104 : decode cX7_scoreOf 104 = .ok (.iconst 0, 1) := by decide +kernel
theorem dX7_scoreOf_105 : decode cX7_scoreOf 105 = .ok (.istore 4, 2) := by decide +kernel
theorem dX7_scoreOf_107 : decode cX7_scoreOf 107 = .ok (.iconst 0, 1) := by decide +kernel
theorem dX7_scoreOf_108 : decode cX7_scoreOf 108 = .ok (.istore 5, 2) := by decide +kernel
theorem dX7_scoreOf_110 : decode cX7_scoreOf 110 = .ok (.iload 5, 2) := by decide +kernel
theorem dX7_scoreOf_112 : decode cX7_scoreOf 112 = .ok (.aload_n 0, 1) := by decide +kernel
theorem dX7_scoreOf_113 : decode cX7_scoreOf 113 = .ok (.getfield 28, 3) := by decide +kernel
theorem dX7_scoreOf_116 : decode cX7_scoreOf 116 = .ok (.iconst 0, 1) := by decide +kernel
theorem dX7_scoreOf_117 : decode cX7_scoreOf 117 = .ok (.iaload, 1) := by decide +kernel
theorem dX7_scoreOf_118 : decode cX7_scoreOf 118 = .ok (.if_icmp .ge 91, 3) := by decide +kernel
theorem dX7_scoreOf_121 : decode cX7_scoreOf 121 = .ok (.aload_n 0, 1) := by decide +kernel
theorem dX7_scoreOf_122 : decode cX7_scoreOf 122 = .ok (.getfield 31, 3) := by decide +kernel
theorem dX7_scoreOf_125 : decode cX7_scoreOf 125 = .ok (.iload 5, 2) := by decide +kernel
theorem dX7_scoreOf_127 : decode cX7_scoreOf 127 = .ok (.iaload, 1) := by decide +kernel
theorem dX7_scoreOf_128 : decode cX7_scoreOf 128 = .ok (.istore 6, 2) := by decide +kernel
theorem dX7_scoreOf_130 : decode cX7_scoreOf 130 = .ok (.iload 6, 2) := by decide +kernel
theorem dX7_scoreOf_132 : decode cX7_scoreOf 132 = .ok (.ifCond .le 38, 3) := by decide +kernel
theorem dX7_scoreOf_135 : decode cX7_scoreOf 135 = .ok (.aload_n 0, 1) := by decide +kernel
theorem dX7_scoreOf_136 : decode cX7_scoreOf 136 = .ok (.getfield 42, 3) := by decide +kernel
theorem dX7_scoreOf_139 : decode cX7_scoreOf 139 = .ok (.iload 4, 2) := by decide +kernel
theorem dX7_scoreOf_141 : decode cX7_scoreOf 141 = .ok (.iload 6, 2) := by decide +kernel
theorem dX7_scoreOf_143 : decode cX7_scoreOf 143 = .ok (.bipush 100, 2) := by decide +kernel
theorem dX7_scoreOf_145 : decode cX7_scoreOf 145 = .ok (.if_icmp .lt 11, 3) := by decide +kernel
theorem dX7_scoreOf_148 : decode cX7_scoreOf 148 = .ok (.iload 6, 2) := by decide +kernel
theorem dX7_scoreOf_150 : decode cX7_scoreOf 150 = .ok (.bipush 100, 2) := by decide +kernel
theorem dX7_scoreOf_152 : decode cX7_scoreOf 152 = .ok (.isub, 1) := by decide +kernel
theorem dX7_scoreOf_153 : decode cX7_scoreOf 153 = .ok (.goto 10, 3) := by decide +kernel
theorem dX7_scoreOf_156 : decode cX7_scoreOf 156 = .ok (.aload_n 0, 1) := by decide +kernel
theorem dX7_scoreOf_157 : decode cX7_scoreOf 157 = .ok (.getfield 45, 3) := by decide +kernel
theorem dX7_scoreOf_160 : decode cX7_scoreOf 160 = .ok (.iload 6, 2) := by decide +kernel
theorem dX7_scoreOf_162 : decode cX7_scoreOf 162 = .ok (.iaload, 1) := by decide +kernel
theorem dX7_scoreOf_163 : decode cX7_scoreOf 163 = .ok (.iastore, 1) := by decide +kernel
theorem dX7_scoreOf_164 : decode cX7_scoreOf 164 = .ok (.iinc 4 1, 3) := by decide +kernel
theorem dX7_scoreOf_167 : decode cX7_scoreOf 167 = .ok (.goto 36, 3) := by decide +kernel
theorem dX7_scoreOf_170 : decode cX7_scoreOf 170 = .ok (.iinc 4 (-1), 3) := by decide +kernel
theorem dX7_scoreOf_173 : decode cX7_scoreOf 173 = .ok (.aload_n 0, 1) := by decide +kernel
theorem dX7_scoreOf_174 : decode cX7_scoreOf 174 = .ok (.getfield 42, 3) := by decide +kernel
theorem dX7_scoreOf_177 : decode cX7_scoreOf 177 = .ok (.iload 4, 2) := by decide +kernel
theorem dX7_scoreOf_179 : decode cX7_scoreOf 179 = .ok (.iconst 1, 1) := by decide +kernel
theorem dX7_scoreOf_180 : decode cX7_scoreOf 180 = .ok (.isub, 1) := by decide +kernel
theorem dX7_scoreOf_181 : decode cX7_scoreOf 181 = .ok (.iload 6, 2) := by decide +kernel
theorem dX7_scoreOf_183 : decode cX7_scoreOf 183 = .ok (.aload_n 0, 1) := by decide +kernel
theorem dX7_scoreOf_184 : decode cX7_scoreOf 184 = .ok (.getfield 42, 3) := by decide +kernel
theorem dX7_scoreOf_187 : decode cX7_scoreOf 187 = .ok (.iload 4, 2) := by decide +kernel
theorem dX7_scoreOf_189 : decode cX7_scoreOf 189 = .ok (.iconst 1, 1) := by decide +kernel
theorem dX7_scoreOf_190 : decode cX7_scoreOf 190 = .ok (.isub, 1) := by decide +kernel
theorem dX7_scoreOf_191 : decode cX7_scoreOf 191 = .ok (.iaload, 1) := by decide +kernel
theorem dX7_scoreOf_192 : decode cX7_scoreOf 192 = .ok (.aload_n 0, 1) := by decide +kernel
theorem dX7_scoreOf_193 : decode cX7_scoreOf 193 = .ok (.getfield 42, 3) := by decide +kernel
theorem dX7_scoreOf_196 : decode cX7_scoreOf 196 = .ok (.iload 4, 2) := by decide +kernel
theorem dX7_scoreOf_198 : decode cX7_scoreOf 198 = .ok (.iaload, 1) := by decide +kernel
theorem dX7_scoreOf_199 : decode cX7_scoreOf 199 = .ok (.invokestatic 220, 3) := by decide +kernel
theorem dX7_scoreOf_202 : decode cX7_scoreOf 202 = .ok (.iastore, 1) := by decide +kernel
theorem dX7_scoreOf_203 : decode cX7_scoreOf 203 = .ok (.iinc 5 1, 3) := by decide +kernel
theorem dX7_scoreOf_206 : decode cX7_scoreOf 206 = .ok (.goto (-96), 3) := by decide +kernel
theorem dX7_scoreOf_209 : decode cX7_scoreOf 209 = .ok (.aload_n 0, 1) := by decide +kernel
theorem dX7_scoreOf_210 : decode cX7_scoreOf 210 = .ok (.getfield 42, 3) := by decide +kernel
theorem dX7_scoreOf_213 : decode cX7_scoreOf 213 = .ok (.iconst 0, 1) := by decide +kernel
theorem dX7_scoreOf_214 : decode cX7_scoreOf 214 = .ok (.iaload, 1) := by decide +kernel
theorem dX7_scoreOf_215 : decode cX7_scoreOf 215 = .ok (.ireturn, 1) := by decide +kernel
theorem dX7_joined_0 : decode cX7_joined 0 = .ok (.iload_n 0, 1) := by decide +kernel
theorem dX7_joined_1 : decode cX7_joined 1 = .ok (.tableswitch 39 (-3) (-1) #[35, 31, 27], 27) := by decide +kernel
theorem dX7_joined_28 : decode cX7_joined 28 = .ok (.iload_n 1, 1) := by decide +kernel
theorem dX7_joined_29 : decode cX7_joined 29 = .ok (.iload_n 2, 1) := by decide +kernel
theorem dX7_joined_30 : decode cX7_joined 30 = .ok (.iadd, 1) := by decide +kernel
theorem dX7_joined_31 : decode cX7_joined 31 = .ok (.ireturn, 1) := by decide +kernel
theorem dX7_joined_32 : decode cX7_joined 32 = .ok (.iload_n 1, 1) := by decide +kernel
theorem dX7_joined_33 : decode cX7_joined 33 = .ok (.iload_n 2, 1) := by decide +kernel
theorem dX7_joined_34 : decode cX7_joined 34 = .ok (.isub, 1) := by decide +kernel
theorem dX7_joined_35 : decode cX7_joined 35 = .ok (.ireturn, 1) := by decide +kernel
theorem dX7_joined_36 : decode cX7_joined 36 = .ok (.iload_n 1, 1) := by decide +kernel
theorem dX7_joined_37 : decode cX7_joined 37 = .ok (.iload_n 2, 1) := by decide +kernel
theorem dX7_joined_38 : decode cX7_joined 38 = .ok (.imul, 1) := by decide +kernel
theorem dX7_joined_39 : decode cX7_joined 39 = .ok (.ireturn, 1) := by decide +kernel
theorem dX7_joined_40 : decode cX7_joined 40 = .ok (.iload_n 2, 1) := by decide +kernel
theorem dX7_joined_41 : decode cX7_joined 41 = .ok (.ifCond .ne 7, 3) := by decide +kernel
theorem dX7_joined_44 : decode cX7_joined 44 = .ok (.iconst 0, 1) := by decide +kernel
theorem dX7_joined_45 : decode cX7_joined 45 = .ok (.goto 6, 3) := by decide +kernel
theorem dX7_joined_48 : decode cX7_joined 48 = .ok (.iload_n 1, 1) := by decide +kernel
theorem dX7_joined_49 : decode cX7_joined 49 = .ok (.iload_n 2, 1) := by decide +kernel
theorem dX7_joined_50 : decode cX7_joined 50 = .ok (.idiv, 1) := by decide +kernel
theorem dX7_joined_51 : decode cX7_joined 51 = .ok (.ireturn, 1) := by decide +kernel
theorem dX7_parse_0 : decode cX7_parse 0 = .ok (.aload_n 0, 1) := by decide +kernel
theorem dX7_parse_1 : decode cX7_parse 1 = .ok (.iconst 0, 1) := by decide +kernel
theorem dX7_parse_2 : decode cX7_parse 2 = .ok (.putfield 70, 3) := by decide +kernel
theorem dX7_parse_5 : decode cX7_parse 5 = .ok (.aload_n 0, 1) := by decide +kernel
theorem dX7_parse_6 : decode cX7_parse 6 = .ok (.iload_n 1, 1) := by decide +kernel
theorem dX7_parse_7 : decode cX7_parse 7 = .ok (.iconst 0, 1) := by decide +kernel
theorem dX7_parse_8 : decode cX7_parse 8 = .ok (.aload_n 0, 1) := by decide +kernel
theorem dX7_parse_9 : decode cX7_parse 9 = .ok (.getfield 81, 3) := by decide +kernel
theorem dX7_parse_12 : decode cX7_parse 12 = .ok (.invokestatic 107, 3) := by decide +kernel
theorem dX7_parse_15 : decode cX7_parse 15 = .ok (.ifCond .ne 7, 3) := by decide +kernel
theorem dX7_parse_18 : decode cX7_parse 18 = .ok (.iconst 1, 1) := by decide +kernel
theorem dX7_parse_19 : decode cX7_parse 19 = .ok (.goto 4, 3) := by decide +kernel
theorem dX7_parse_22 : decode cX7_parse 22 = .ok (.iconst 0, 1) := by decide +kernel
theorem dX7_parse_23 : decode cX7_parse 23 = .ok (.iconst 1, 1) := by decide +kernel
theorem dX7_parse_24 : decode cX7_parse 24 = .ok (.invokevirtual 224, 3) := by decide +kernel
theorem dX7_parse_27 : decode cX7_parse 27 = .ok (.ifCond .eq 5, 3) := by decide +kernel
theorem dX7_parse_30 : decode cX7_parse 30 = .ok (.iconst 0, 1) := by decide +kernel
theorem dX7_parse_31 : decode cX7_parse 31 = .ok (.ireturn, 1) := by decide +kernel
theorem dX7_parse_32 : decode cX7_parse 32 = .ok (.aload_n 0, 1) := by decide +kernel
theorem dX7_parse_33 : decode cX7_parse 33 = .ok (.iload_n 1, 1) := by decide +kernel
theorem dX7_parse_34 : decode cX7_parse 34 = .ok (.putfield 88, 3) := by decide +kernel
theorem dX7_parse_37 : decode cX7_parse 37 = .ok (.aload_n 0, 1) := by decide +kernel
theorem dX7_parse_38 : decode cX7_parse 38 = .ok (.iconst 0, 1) := by decide +kernel
theorem dX7_parse_39 : decode cX7_parse 39 = .ok (.putfield 81, 3) := by decide +kernel
theorem dX7_parse_42 : decode cX7_parse 42 = .ok (.aload_n 0, 1) := by decide +kernel
theorem dX7_parse_43 : decode cX7_parse 43 = .ok (.iconst 0, 1) := by decide +kernel
theorem dX7_parse_44 : decode cX7_parse 44 = .ok (.putfield 91, 3) := by decide +kernel
theorem dX7_parse_47 : decode cX7_parse 47 = .ok (.aload_n 0, 1) := by decide +kernel
theorem dX7_parse_48 : decode cX7_parse 48 = .ok (.iconst 0, 1) := by decide +kernel
theorem dX7_parse_49 : decode cX7_parse 49 = .ok (.putfield 123, 3) := by decide +kernel
theorem dX7_parse_52 : decode cX7_parse 52 = .ok (.aload_n 0, 1) := by decide +kernel
theorem dX7_parse_53 : decode cX7_parse 53 = .ok (.iconst (-1), 1) := by decide +kernel
theorem dX7_parse_54 : decode cX7_parse 54 = .ok (.putfield 38, 3) := by decide +kernel
theorem dX7_parse_57 : decode cX7_parse 57 = .ok (.aload_n 0, 1) := by decide +kernel
theorem dX7_parse_58 : decode cX7_parse 58 = .ok (.iconst 0, 1) := by decide +kernel
theorem dX7_parse_59 : decode cX7_parse 59 = .ok (.putfield 139, 3) := by decide +kernel
theorem dX7_parse_62 : decode cX7_parse 62 = .ok (.aload_n 0, 1) := by decide +kernel
theorem dX7_parse_63 : decode cX7_parse 63 = .ok (.invokevirtual 61, 3) := by decide +kernel
theorem dX7_parse_66 : decode cX7_parse 66 = .ok (.aload_n 0, 1) := by decide +kernel
theorem dX7_parse_67 : decode cX7_parse 67 = .ok (.invokevirtual 136, 3) := by decide +kernel
theorem dX7_parse_70 : decode cX7_parse 70 = .ok (.iconst 1, 1) := by decide +kernel
theorem dX7_parse_71 : decode cX7_parse 71 = .ok (.istore_n 2, 1) := by decide +kernel
theorem dX7_parse_72 : decode cX7_parse 72 = .ok (.iload_n 2, 1) := by decide +kernel
theorem dX7_parse_73 : decode cX7_parse 73 = .ok (.ifCond .eq 35, 3) := by decide +kernel
theorem dX7_parse_76 : decode cX7_parse 76 = .ok (.aload_n 0, 1) := by decide +kernel
theorem dX7_parse_77 : decode cX7_parse 77 = .ok (.getfield 104, 3) := by decide +kernel
theorem dX7_parse_80 : decode cX7_parse 80 = .ok (.ifCond .eq 28, 3) := by decide +kernel
theorem dX7_parse_83 : decode cX7_parse 83 = .ok (.aload_n 0, 1) := by decide +kernel
theorem dX7_parse_84 : decode cX7_parse 84 = .ok (.invokevirtual 228, 3) := by decide +kernel
theorem dX7_parse_87 : decode cX7_parse 87 = .ok (.ifCond .eq 16, 3) := by decide +kernel
theorem dX7_parse_90 : decode cX7_parse 90 = .ok (.aload_n 0, 1) := by decide +kernel
theorem dX7_parse_91 : decode cX7_parse 91 = .ok (.bipush 59, 2) := by decide +kernel
theorem dX7_parse_93 : decode cX7_parse 93 = .ok (.invokevirtual 211, 3) := by decide +kernel
theorem dX7_parse_96 : decode cX7_parse 96 = .ok (.ifCond .eq 7, 3) := by decide +kernel
theorem dX7_parse_99 : decode cX7_parse 99 = .ok (.iconst 1, 1) := by decide +kernel
theorem dX7_parse_100 : decode cX7_parse 100 = .ok (.goto 4, 3) := by decide +kernel
theorem dX7_parse_103 : decode cX7_parse 103 = .ok (.iconst 0, 1) := by decide +kernel
theorem dX7_parse_104 : decode cX7_parse 104 = .ok (.istore_n 2, 1) := by decide +kernel
theorem dX7_parse_105 : decode cX7_parse 105 = .ok (.goto (-33), 3) := by decide +kernel
theorem dX7_parse_108 : decode cX7_parse 108 = .ok (.iload_n 2, 1) := by decide +kernel
theorem dX7_parse_109 : decode cX7_parse 109 = .ok (.ifCond .ne 8, 3) := by decide +kernel
theorem dX7_parse_112 : decode cX7_parse 112 = .ok (.aload_n 0, 1) := by decide +kernel
theorem dX7_parse_113 : decode cX7_parse 113 = .ok (.getfield 123, 3) := by decide +kernel
theorem dX7_parse_116 : decode cX7_parse 116 = .ok (.ireturn, 1) := by decide +kernel
theorem dX7_parse_117 : decode cX7_parse 117 = .ok (.aload_n 0, 1) := by decide +kernel
theorem dX7_parse_118 : decode cX7_parse 118 = .ok (.invokevirtual 64, 3) := by decide +kernel
theorem dX7_parse_121 : decode cX7_parse 121 = .ok (.aload_n 0, 1) := by decide +kernel
theorem dX7_parse_122 : decode cX7_parse 122 = .ok (.invokevirtual 67, 3) := by decide +kernel
theorem dX7_parse_125 : decode cX7_parse 125 = .ok (.iconst 0, 1) := by decide +kernel
theorem dX7_parse_126 : decode cX7_parse 126 = .ok (.ireturn, 1) := by decide +kernel
theorem dX7_errorPosition_0 : decode cX7_errorPosition 0 = .ok (.aload_n 0, 1) := by decide +kernel
theorem dX7_errorPosition_1 : decode cX7_errorPosition 1 = .ok (.iconst 0, 1) := by decide +kernel
theorem dX7_errorPosition_2 : decode cX7_errorPosition 2 = .ok (.putfield 70, 3) := by decide +kernel
theorem dX7_errorPosition_5 : decode cX7_errorPosition 5 = .ok (.aload_n 0, 1) := by decide +kernel
theorem dX7_errorPosition_6 : decode cX7_errorPosition 6 = .ok (.getfield 38, 3) := by decide +kernel
theorem dX7_errorPosition_9 : decode cX7_errorPosition 9 = .ok (.ireturn, 1) := by decide +kernel
theorem dX7_begins_0 : decode cX7_begins 0 = .ok (.iconst 0, 1) := by decide +kernel
theorem dX7_begins_1 : decode cX7_begins 1 = .ok (.istore_n 1, 1) := by decide +kernel
theorem dX7_begins_2 : decode cX7_begins 2 = .ok (.iload_n 1, 1) := by decide +kernel
theorem dX7_begins_3 : decode cX7_begins 3 = .ok (.sipush 821, 3) := by decide +kernel
theorem dX7_begins_6 : decode cX7_begins 6 = .ok (.if_icmp .ge 16, 3) := by decide +kernel
theorem dX7_begins_9 : decode cX7_begins 9 = .ok (.aload_n 0, 1) := by decide +kernel
theorem dX7_begins_10 : decode cX7_begins 10 = .ok (.getfield 7, 3) := by decide +kernel
theorem dX7_begins_13 : decode cX7_begins 13 = .ok (.iload_n 1, 1) := by decide +kernel
theorem dX7_begins_14 : decode cX7_begins 14 = .ok (.iconst 0, 1) := by decide +kernel
theorem dX7_begins_15 : decode cX7_begins 15 = .ok (.iastore, 1) := by decide +kernel
theorem dX7_begins_16 : decode cX7_begins 16 = .ok (.iinc 1 1, 3) := by decide +kernel
theorem dX7_begins_19 : decode cX7_begins 19 = .ok (.goto (-17), 3) := by decide +kernel
theorem dX7_begins_22 : decode cX7_begins 22 = .ok (.iconst 0, 1) := by decide +kernel
theorem dX7_begins_23 : decode cX7_begins 23 = .ok (.istore_n 1, 1) := by decide +kernel
theorem dX7_begins_24 : decode cX7_begins 24 = .ok (.iload_n 1, 1) := by decide +kernel
theorem dX7_begins_25 : decode cX7_begins 25 = .ok (.bipush 8, 2) := by decide +kernel
theorem dX7_begins_27 : decode cX7_begins 27 = .ok (.if_icmp .ge 70, 3) := by decide +kernel
theorem dX7_begins_30 : decode cX7_begins 30 = .ok (.aload_n 0, 1) := by decide +kernel
theorem dX7_begins_31 : decode cX7_begins 31 = .ok (.getfield 7, 3) := by decide +kernel
theorem dX7_begins_34 : decode cX7_begins 34 = .ok (.iconst 1, 1) := by decide +kernel
theorem dX7_begins_35 : decode cX7_begins 35 = .ok (.iload_n 1, 1) := by decide +kernel
theorem dX7_begins_36 : decode cX7_begins 36 = .ok (.iadd, 1) := by decide +kernel
theorem dX7_begins_37 : decode cX7_begins 37 = .ok (.aload_n 0, 1) := by decide +kernel
theorem dX7_begins_38 : decode cX7_begins 38 = .ok (.getfield 25, 3) := by decide +kernel
theorem dX7_begins_41 : decode cX7_begins 41 = .ok (.iload_n 1, 1) := by decide +kernel
theorem dX7_begins_42 : decode cX7_begins 42 = .ok (.iaload, 1) := by decide +kernel
theorem dX7_begins_43 : decode cX7_begins 43 = .ok (.iastore, 1) := by decide +kernel
theorem dX7_begins_44 : decode cX7_begins 44 = .ok (.iconst 0, 1) := by decide +kernel
theorem dX7_begins_45 : decode cX7_begins 45 = .ok (.istore_n 2, 1) := by decide +kernel
theorem dX7_begins_46 : decode cX7_begins 46 = .ok (.iload_n 2, 1) := by decide +kernel
theorem dX7_begins_47 : decode cX7_begins 47 = .ok (.bipush 8, 2) := by decide +kernel
theorem dX7_begins_49 : decode cX7_begins 49 = .ok (.if_icmp .ge 42, 3) := by decide +kernel
theorem dX7_begins_52 : decode cX7_begins 52 = .ok (.aload_n 0, 1) := by decide +kernel
theorem dX7_begins_53 : decode cX7_begins 53 = .ok (.getfield 7, 3) := by decide +kernel
theorem dX7_begins_56 : decode cX7_begins 56 = .ok (.bipush 9, 2) := by decide +kernel
theorem dX7_begins_58 : decode cX7_begins 58 = .ok (.iload_n 1, 1) := by decide +kernel
theorem dX7_begins_59 : decode cX7_begins 59 = .ok (.iadd, 1) := by decide +kernel
theorem dX7_begins_60 : decode cX7_begins 60 = .ok (.dup2, 1) := by decide +kernel
theorem dX7_begins_61 : decode cX7_begins 61 = .ok (.iaload, 1) := by decide +kernel
theorem dX7_begins_62 : decode cX7_begins 62 = .ok (.aload_n 0, 1) := by decide +kernel
theorem dX7_begins_63 : decode cX7_begins 63 = .ok (.getfield 22, 3) := by decide +kernel
theorem dX7_begins_66 : decode cX7_begins 66 = .ok (.bipush 8, 2) := by decide +kernel
theorem dX7_begins_68 : decode cX7_begins 68 = .ok (.iload_n 1, 1) := by decide +kernel
theorem dX7_begins_69 : decode cX7_begins 69 = .ok (.imul, 1) := by decide +kernel
theorem dX7_begins_70 : decode cX7_begins 70 = .ok (.iload_n 2, 1) := by decide +kernel
theorem dX7_begins_71 : decode cX7_begins 71 = .ok (.iadd, 1) := by decide +kernel
theorem dX7_begins_72 : decode cX7_begins 72 = .ok (.iaload, 1) := by decide +kernel
theorem dX7_begins_73 : decode cX7_begins 73 = .ok (.ifCond .le 9, 3) := by decide +kernel
theorem dX7_begins_76 : decode cX7_begins 76 = .ok (.iconst 1, 1) := by decide +kernel
theorem dX7_begins_77 : decode cX7_begins 77 = .ok (.iload_n 2, 1) := by decide +kernel
theorem dX7_begins_78 : decode cX7_begins 78 = .ok (.ishl, 1) := by decide +kernel
theorem dX7_begins_79 : decode cX7_begins 79 = .ok (.goto 4, 3) := by decide +kernel
theorem dX7_begins_82 : decode cX7_begins 82 = .ok (.iconst 0, 1) := by decide +kernel
theorem dX7_begins_83 : decode cX7_begins 83 = .ok (.ior, 1) := by decide +kernel
theorem dX7_begins_84 : decode cX7_begins 84 = .ok (.iastore, 1) := by decide +kernel
theorem dX7_begins_85 : decode cX7_begins 85 = .ok (.iinc 2 1, 3) := by decide +kernel
theorem dX7_begins_88 : decode cX7_begins 88 = .ok (.goto (-42), 3) := by decide +kernel
theorem dX7_begins_91 : decode cX7_begins 91 = .ok (.iinc 1 1, 3) := by decide +kernel
theorem dX7_begins_94 : decode cX7_begins 94 = .ok (.goto (-70), 3) := by decide +kernel
theorem dX7_begins_97 : decode cX7_begins 97 = .ok (.aload_n 0, 1) := by decide +kernel
theorem dX7_begins_98 : decode cX7_begins 98 = .ok (.iconst 0, 1) := by decide +kernel
theorem dX7_begins_99 : decode cX7_begins 99 = .ok (.putfield 231, 3) := by decide +kernel
theorem dX7_begins_102 : decode cX7_begins 102 = .ok (.aload_n 0, 1) := by decide +kernel
theorem dX7_begins_103 : decode cX7_begins 103 = .ok (.getfield 57, 3) := by decide +kernel
theorem dX7_begins_106 : decode cX7_begins 106 = .ok (.iconst 0, 1) := by decide +kernel
theorem dX7_begins_107 : decode cX7_begins 107 = .ok (.iconst 0, 1) := by decide +kernel
theorem dX7_begins_108 : decode cX7_begins 108 = .ok (.bastore, 1) := by decide +kernel
theorem dX7_begins_109 : decode cX7_begins 109 = .ok (.aload_n 0, 1) := by decide +kernel
theorem dX7_begins_110 : decode cX7_begins 110 = .ok (.getfield 57, 3) := by decide +kernel
theorem dX7_begins_113 : decode cX7_begins 113 = .ok (.iconst 1, 1) := by decide +kernel
theorem dX7_begins_114 : decode cX7_begins 114 = .ok (.iconst 0, 1) := by decide +kernel
theorem dX7_begins_115 : decode cX7_begins 115 = .ok (.bastore, 1) := by decide +kernel
theorem dX7_begins_116 : decode cX7_begins 116 = .ok (.return_, 1) := by decide +kernel
theorem dX7_peerCount_0 : decode cX7_peerCount 0 = .ok (.aload_n 0, 1) := by decide +kernel
theorem dX7_peerCount_1 : decode cX7_peerCount 1 = .ok (.iconst 0, 1) := by decide +kernel
theorem dX7_peerCount_2 : decode cX7_peerCount 2 = .ok (.putfield 70, 3) := by decide +kernel
theorem dX7_peerCount_5 : decode cX7_peerCount 5 = .ok (.aload_n 0, 1) := by decide +kernel
theorem dX7_peerCount_6 : decode cX7_peerCount 6 = .ok (.getfield 13, 3) := by decide +kernel
theorem dX7_peerCount_9 : decode cX7_peerCount 9 = .ok (.iconst 0, 1) := by decide +kernel
theorem dX7_peerCount_10 : decode cX7_peerCount 10 = .ok (.iaload, 1) := by decide +kernel
theorem dX7_peerCount_11 : decode cX7_peerCount 11 = .ok (.ireturn, 1) := by decide +kernel
theorem dX7_tick_0 : decode cX7_tick 0 = .ok (.aload_n 0, 1) := by decide +kernel
theorem dX7_tick_1 : decode cX7_tick 1 = .ok (.iconst 0, 1) := by decide +kernel
theorem dX7_tick_2 : decode cX7_tick 2 = .ok (.putfield 70, 3) := by decide +kernel
theorem dX7_tick_5 : decode cX7_tick 5 = .ok (.aload_n 0, 1) := by decide +kernel
theorem dX7_tick_6 : decode cX7_tick 6 = .ok (.getfield 7, 3) := by decide +kernel
theorem dX7_tick_9 : decode cX7_tick 9 = .ok (.iconst 0, 1) := by decide +kernel
theorem dX7_tick_10 : decode cX7_tick 10 = .ok (.iaload, 1) := by decide +kernel
theorem dX7_tick_11 : decode cX7_tick 11 = .ok (.ireturn, 1) := by decide +kernel
theorem dX7_no_0 : decode cX7_no 0 = .ok (.aload_n 0, 1) := by decide +kernel
theorem dX7_no_1 : decode cX7_no 1 = .ok (.iload_n 1, 1) := by decide +kernel
theorem dX7_no_2 : decode cX7_no 2 = .ok (.iconst 0, 1) := by decide +kernel
theorem dX7_no_3 : decode cX7_no 3 = .ok (.iload_n 2, 1) := by decide +kernel
theorem dX7_no_4 : decode cX7_no 4 = .ok (.iconst 1, 1) := by decide +kernel
theorem dX7_no_5 : decode cX7_no 5 = .ok (.isub, 1) := by decide +kernel
theorem dX7_no_6 : decode cX7_no 6 = .ok (.invokestatic 107, 3) := by decide +kernel
theorem dX7_no_9 : decode cX7_no 9 = .ok (.ifCond .ne 7, 3) := by decide +kernel
theorem dX7_no_12 : decode cX7_no 12 = .ok (.iconst 1, 1) := by decide +kernel
theorem dX7_no_13 : decode cX7_no 13 = .ok (.goto 4, 3) := by decide +kernel
theorem dX7_no_16 : decode cX7_no 16 = .ok (.iconst 0, 1) := by decide +kernel
theorem dX7_no_17 : decode cX7_no 17 = .ok (.iconst 1, 1) := by decide +kernel
theorem dX7_no_18 : decode cX7_no 18 = .ok (.invokevirtual 224, 3) := by decide +kernel
theorem dX7_no_21 : decode cX7_no 21 = .ok (.ireturn, 1) := by decide +kernel
theorem dX7_noPeers_0 : decode cX7_noPeers 0 = .ok (.aload_n 0, 1) := by decide +kernel
theorem dX7_noPeers_1 : decode cX7_noPeers 1 = .ok (.iconst 0, 1) := by decide +kernel
theorem dX7_noPeers_2 : decode cX7_noPeers 2 = .ok (.putfield 70, 3) := by decide +kernel
theorem dX7_noPeers_5 : decode cX7_noPeers 5 = .ok (.aload_n 0, 1) := by decide +kernel
theorem dX7_noPeers_6 : decode cX7_noPeers 6 = .ok (.iload_n 1, 1) := by decide +kernel
theorem dX7_noPeers_7 : decode cX7_noPeers 7 = .ok (.aload_n 0, 1) := by decide +kernel
theorem dX7_noPeers_8 : decode cX7_noPeers 8 = .ok (.getfield 13, 3) := by decide +kernel
theorem dX7_noPeers_11 : decode cX7_noPeers 11 = .ok (.iconst 0, 1) := by decide +kernel
theorem dX7_noPeers_12 : decode cX7_noPeers 12 = .ok (.iaload, 1) := by decide +kernel
theorem dX7_noPeers_13 : decode cX7_noPeers 13 = .ok (.invokevirtual 234, 3) := by decide +kernel
theorem dX7_noPeers_16 : decode cX7_noPeers 16 = .ok (.ifCond .ne 17, 3) := by decide +kernel
theorem dX7_noPeers_19 : decode cX7_noPeers 19 = .ok (.aload_n 0, 1) := by decide +kernel
theorem dX7_noPeers_20 : decode cX7_noPeers 20 = .ok (.iload_n 2, 1) := by decide +kernel
theorem dX7_noPeers_21 : decode cX7_noPeers 21 = .ok (.aload_n 0, 1) := by decide +kernel
theorem dX7_noPeers_22 : decode cX7_noPeers 22 = .ok (.getfield 13, 3) := by decide +kernel
theorem dX7_noPeers_25 : decode cX7_noPeers 25 = .ok (.iconst 0, 1) := by decide +kernel
theorem dX7_noPeers_26 : decode cX7_noPeers 26 = .ok (.iaload, 1) := by decide +kernel
theorem dX7_noPeers_27 : decode cX7_noPeers 27 = .ok (.invokevirtual 234, 3) := by decide +kernel
theorem dX7_noPeers_30 : decode cX7_noPeers 30 = .ok (.ifCond .eq 7, 3) := by decide +kernel
theorem dX7_noPeers_33 : decode cX7_noPeers 33 = .ok (.iconst 1, 1) := by decide +kernel
theorem dX7_noPeers_34 : decode cX7_noPeers 34 = .ok (.goto 4, 3) := by decide +kernel
theorem dX7_noPeers_37 : decode cX7_noPeers 37 = .ok (.iconst 0, 1) := by decide +kernel
theorem dX7_noPeers_38 : decode cX7_noPeers 38 = .ok (.ireturn, 1) := by decide +kernel
theorem dX7_noTwo_0 : decode cX7_noTwo 0 = .ok (.aload_n 0, 1) := by decide +kernel
theorem dX7_noTwo_1 : decode cX7_noTwo 1 = .ok (.iload_n 1, 1) := by decide +kernel
theorem dX7_noTwo_2 : decode cX7_noTwo 2 = .ok (.iload_n 2, 1) := by decide +kernel
theorem dX7_noTwo_3 : decode cX7_noTwo 3 = .ok (.invokevirtual 237, 3) := by decide +kernel
theorem dX7_noTwo_6 : decode cX7_noTwo 6 = .ok (.ifCond .ne 21, 3) := by decide +kernel
theorem dX7_noTwo_9 : decode cX7_noTwo 9 = .ok (.aload_n 0, 1) := by decide +kernel
theorem dX7_noTwo_10 : decode cX7_noTwo 10 = .ok (.iload_n 1, 1) := by decide +kernel
theorem dX7_noTwo_11 : decode cX7_noTwo 11 = .ok (.iload_n 2, 1) := by decide +kernel
theorem dX7_noTwo_12 : decode cX7_noTwo 12 = .ok (.if_icmp .ne 7, 3) := by decide +kernel
theorem dX7_noTwo_15 : decode cX7_noTwo 15 = .ok (.iconst 1, 1) := by decide +kernel
theorem dX7_noTwo_16 : decode cX7_noTwo 16 = .ok (.goto 4, 3) := by decide +kernel
theorem dX7_noTwo_19 : decode cX7_noTwo 19 = .ok (.iconst 0, 1) := by decide +kernel
theorem dX7_noTwo_20 : decode cX7_noTwo 20 = .ok (.iconst 2, 1) := by decide +kernel
theorem dX7_noTwo_21 : decode cX7_noTwo 21 = .ok (.invokevirtual 224, 3) := by decide +kernel
theorem dX7_noTwo_24 : decode cX7_noTwo 24 = .ok (.ifCond .eq 7, 3) := by decide +kernel
theorem dX7_noTwo_27 : decode cX7_noTwo 27 = .ok (.iconst 1, 1) := by decide +kernel
theorem dX7_noTwo_28 : decode cX7_noTwo 28 = .ok (.goto 4, 3) := by decide +kernel
theorem dX7_noTwo_31 : decode cX7_noTwo 31 = .ok (.iconst 0, 1) := by decide +kernel
theorem dX7_noTwo_32 : decode cX7_noTwo 32 = .ok (.ireturn, 1) := by decide +kernel
theorem dX7_areKnown_0 : decode cX7_areKnown 0 = .ok (.aload_n 0, 1) := by decide +kernel
theorem dX7_areKnown_1 : decode cX7_areKnown 1 = .ok (.getfield 7, 3) := by decide +kernel
theorem dX7_areKnown_4 : decode cX7_areKnown 4 = .ok (.iconst 1, 1) := by decide +kernel
theorem dX7_areKnown_5 : decode cX7_areKnown 5 = .ok (.iload_n 1, 1) := by decide +kernel
theorem dX7_areKnown_6 : decode cX7_areKnown 6 = .ok (.iadd, 1) := by decide +kernel
theorem dX7_areKnown_7 : decode cX7_areKnown 7 = .ok (.iaload, 1) := by decide +kernel
theorem dX7_areKnown_8 : decode cX7_areKnown 8 = .ok (.iload_n 2, 1) := by decide +kernel
theorem dX7_areKnown_9 : decode cX7_areKnown 9 = .ok (.invokestatic 142, 3) := by decide +kernel
theorem dX7_areKnown_12 : decode cX7_areKnown 12 = .ok (.ireturn, 1) := by decide +kernel
theorem dX7_isUp_0 : decode cX7_isUp 0 = .ok (.aload_n 0, 1) := by decide +kernel
theorem dX7_isUp_1 : decode cX7_isUp 1 = .ok (.getfield 7, 3) := by decide +kernel
theorem dX7_isUp_4 : decode cX7_isUp 4 = .ok (.bipush 9, 2) := by decide +kernel
theorem dX7_isUp_6 : decode cX7_isUp 6 = .ok (.iload_n 1, 1) := by decide +kernel
theorem dX7_isUp_7 : decode cX7_isUp 7 = .ok (.iadd, 1) := by decide +kernel
theorem dX7_isUp_8 : decode cX7_isUp 8 = .ok (.iaload, 1) := by decide +kernel
theorem dX7_isUp_9 : decode cX7_isUp 9 = .ok (.iload_n 2, 1) := by decide +kernel
theorem dX7_isUp_10 : decode cX7_isUp 10 = .ok (.invokestatic 142, 3) := by decide +kernel
theorem dX7_isUp_13 : decode cX7_isUp 13 = .ok (.ireturn, 1) := by decide +kernel
theorem dX7_knows_0 : decode cX7_knows 0 = .ok (.aload_n 0, 1) := by decide +kernel
theorem dX7_knows_1 : decode cX7_knows 1 = .ok (.iload_n 1, 1) := by decide +kernel
theorem dX7_knows_2 : decode cX7_knows 2 = .ok (.iload_n 2, 1) := by decide +kernel
theorem dX7_knows_3 : decode cX7_knows 3 = .ok (.invokevirtual 237, 3) := by decide +kernel
theorem dX7_knows_6 : decode cX7_knows 6 = .ok (.ifCond .ne 16, 3) := by decide +kernel
theorem dX7_knows_9 : decode cX7_knows 9 = .ok (.aload_n 0, 1) := by decide +kernel
theorem dX7_knows_10 : decode cX7_knows 10 = .ok (.iload_n 1, 1) := by decide +kernel
theorem dX7_knows_11 : decode cX7_knows 11 = .ok (.iload_n 2, 1) := by decide +kernel
theorem dX7_knows_12 : decode cX7_knows 12 = .ok (.invokevirtual 240, 3) := by decide +kernel
theorem dX7_knows_15 : decode cX7_knows 15 = .ok (.ifCond .eq 7, 3) := by decide +kernel
theorem dX7_knows_18 : decode cX7_knows 18 = .ok (.iconst 1, 1) := by decide +kernel
theorem dX7_knows_19 : decode cX7_knows 19 = .ok (.goto 4, 3) := by decide +kernel
theorem dX7_knows_22 : decode cX7_knows 22 = .ok (.iconst 0, 1) := by decide +kernel
theorem dX7_knows_23 : decode cX7_knows 23 = .ok (.ireturn, 1) := by decide +kernel
theorem dX7_delay_0 : decode cX7_delay 0 = .ok (.aload_n 0, 1) := by decide +kernel
theorem dX7_delay_1 : decode cX7_delay 1 = .ok (.iload_n 1, 1) := by decide +kernel
theorem dX7_delay_2 : decode cX7_delay 2 = .ok (.iload_n 2, 1) := by decide +kernel
theorem dX7_delay_3 : decode cX7_delay 3 = .ok (.invokevirtual 237, 3) := by decide +kernel
theorem dX7_delay_6 : decode cX7_delay 6 = .ok (.ifCond .eq 7, 3) := by decide +kernel
theorem dX7_delay_9 : decode cX7_delay 9 = .ok (.iconst 0, 1) := by decide +kernel
theorem dX7_delay_10 : decode cX7_delay 10 = .ok (.goto 27, 3) := by decide +kernel
theorem dX7_delay_13 : decode cX7_delay 13 = .ok (.aload_n 0, 1) := by decide +kernel
theorem dX7_delay_14 : decode cX7_delay 14 = .ok (.iload_n 1, 1) := by decide +kernel
theorem dX7_delay_15 : decode cX7_delay 15 = .ok (.iload_n 2, 1) := by decide +kernel
theorem dX7_delay_16 : decode cX7_delay 16 = .ok (.invokevirtual 243, 3) := by decide +kernel
theorem dX7_delay_19 : decode cX7_delay 19 = .ok (.ifCond .eq 17, 3) := by decide +kernel
theorem dX7_delay_22 : decode cX7_delay 22 = .ok (.aload_n 0, 1) := by decide +kernel
theorem dX7_delay_23 : decode cX7_delay 23 = .ok (.getfield 22, 3) := by decide +kernel
theorem dX7_delay_26 : decode cX7_delay 26 = .ok (.bipush 8, 2) := by decide +kernel
theorem dX7_delay_28 : decode cX7_delay 28 = .ok (.iload_n 1, 1) := by decide +kernel
theorem dX7_delay_29 : decode cX7_delay 29 = .ok (.imul, 1) := by decide +kernel
theorem dX7_delay_30 : decode cX7_delay 30 = .ok (.iload_n 2, 1) := by decide +kernel
theorem dX7_delay_31 : decode cX7_delay 31 = .ok (.iadd, 1) := by decide +kernel
theorem dX7_delay_32 : decode cX7_delay 32 = .ok (.iaload, 1) := by decide +kernel
theorem dX7_delay_33 : decode cX7_delay 33 = .ok (.goto 4, 3) := by decide +kernel
theorem dX7_delay_36 : decode cX7_delay 36 = .ok (.iconst (-1), 1) := by decide +kernel
theorem dX7_delay_37 : decode cX7_delay 37 = .ok (.ireturn, 1) := by decide +kernel
theorem dX7_introductionsNeeded_0 : decode cX7_introductionsNeeded 0 = .ok (.aload_n 0, 1) := by decide +kernel
theorem dX7_introductionsNeeded_1 : decode cX7_introductionsNeeded 1 = .ok (.iload_n 1, 1) := by decide +kernel
theorem dX7_introductionsNeeded_2 : decode cX7_introductionsNeeded 2 = .ok (.iload_n 2, 1) := by decide +kernel
theorem dX7_introductionsNeeded_3 : decode cX7_introductionsNeeded 3 = .ok (.invokevirtual 246, 3) := by decide +kernel
theorem dX7_introductionsNeeded_6 : decode cX7_introductionsNeeded 6 = .ok (.ifCond .eq 5, 3) := by decide +kernel
theorem dX7_introductionsNeeded_9 : decode cX7_introductionsNeeded 9 = .ok (.iconst 0, 1) := by decide +kernel
theorem dX7_introductionsNeeded_10 : decode cX7_introductionsNeeded 10 = .ok (.ireturn, 1) := by decide +kernel
theorem dX7_introductionsNeeded_11 : decode cX7_introductionsNeeded 11 = .ok (.iconst 1, 1) := by decide +kernel
theorem dX7_introductionsNeeded_12 : decode cX7_introductionsNeeded 12 = .ok (.iload_n 1, 1) := by decide +kernel
theorem dX7_introductionsNeeded_13 : decode cX7_introductionsNeeded 13 = .ok (.ishl, 1) := by decide +kernel
theorem dX7_introductionsNeeded_14 : decode cX7_introductionsNeeded 14 = .ok (.istore_n 3, 1) := by decide +kernel
theorem dX7_introductionsNeeded_15 : decode cX7_introductionsNeeded 15 = .ok (.iconst 0, 1) := by decide +kernel
theorem dX7_introductionsNeeded_16 : decode cX7_introductionsNeeded 16 = .ok (.istore 4, 2) := by decide +kernel
theorem dX7_introductionsNeeded_18 : decode cX7_introductionsNeeded 18 = .ok (.iload 4, 2) := by decide +kernel
theorem dX7_introductionsNeeded_20 : decode cX7_introductionsNeeded 20 = .ok (.bipush 8, 2) := by decide +kernel
theorem dX7_introductionsNeeded_22 : decode cX7_introductionsNeeded 22 = .ok (.if_icmp .ge 74, 3) := by decide +kernel
theorem dX7_introductionsNeeded_25 : decode cX7_introductionsNeeded 25 = .ok (.iload_n 3, 1) := by decide +kernel
theorem dX7_introductionsNeeded_26 : decode cX7_introductionsNeeded 26 = .ok (.istore 5, 2) := by decide +kernel
theorem dX7_introductionsNeeded_28 : decode cX7_introductionsNeeded 28 = .ok (.iconst 0, 1) := by decide +kernel
theorem dX7_introductionsNeeded_29 : decode cX7_introductionsNeeded 29 = .ok (.istore 6, 2) := by decide +kernel
theorem dX7_introductionsNeeded_31 : decode cX7_introductionsNeeded 31 = .ok (.iload 6, 2) := by decide +kernel
theorem dX7_introductionsNeeded_33 : decode cX7_introductionsNeeded 33 = .ok (.aload_n 0, 1) := by decide +kernel
theorem dX7_introductionsNeeded_34 : decode cX7_introductionsNeeded 34 = .ok (.getfield 13, 3) := by decide +kernel
theorem dX7_introductionsNeeded_37 : decode cX7_introductionsNeeded 37 = .ok (.iconst 0, 1) := by decide +kernel
theorem dX7_introductionsNeeded_38 : decode cX7_introductionsNeeded 38 = .ok (.iaload, 1) := by decide +kernel
theorem dX7_introductionsNeeded_39 : decode cX7_introductionsNeeded 39 = .ok (.if_icmp .ge 36, 3) := by decide +kernel
theorem dX7_introductionsNeeded_42 : decode cX7_introductionsNeeded 42 = .ok (.iload 5, 2) := by decide +kernel
theorem dX7_introductionsNeeded_44 : decode cX7_introductionsNeeded 44 = .ok (.iload_n 3, 1) := by decide +kernel
theorem dX7_introductionsNeeded_45 : decode cX7_introductionsNeeded 45 = .ok (.iload 6, 2) := by decide +kernel
theorem dX7_introductionsNeeded_47 : decode cX7_introductionsNeeded 47 = .ok (.invokestatic 142, 3) := by decide +kernel
theorem dX7_introductionsNeeded_50 : decode cX7_introductionsNeeded 50 = .ok (.ifCond .eq 15, 3) := by decide +kernel
theorem dX7_introductionsNeeded_53 : decode cX7_introductionsNeeded 53 = .ok (.aload_n 0, 1) := by decide +kernel
theorem dX7_introductionsNeeded_54 : decode cX7_introductionsNeeded 54 = .ok (.getfield 7, 3) := by decide +kernel
theorem dX7_introductionsNeeded_57 : decode cX7_introductionsNeeded 57 = .ok (.iconst 1, 1) := by decide +kernel
theorem dX7_introductionsNeeded_58 : decode cX7_introductionsNeeded 58 = .ok (.iload 6, 2) := by decide +kernel
theorem dX7_introductionsNeeded_60 : decode cX7_introductionsNeeded 60 = .ok (.iadd, 1) := by decide +kernel
theorem dX7_introductionsNeeded_61 : decode cX7_introductionsNeeded 61 = .ok (.iaload, 1) := by decide +kernel
theorem dX7_introductionsNeeded_62 : decode cX7_introductionsNeeded 62 = .ok (.goto 4, 3) := by decide +kernel
theorem dX7_introductionsNeeded_65 : decode cX7_introductionsNeeded 65 = .ok (.iconst 0, 1) := by decide +kernel
theorem dX7_introductionsNeeded_66 : decode cX7_introductionsNeeded 66 = .ok (.ior, 1) := by decide +kernel
theorem dX7_introductionsNeeded_67 : decode cX7_introductionsNeeded 67 = .ok (.istore 5, 2) := by decide +kernel
theorem dX7_introductionsNeeded_69 : decode cX7_introductionsNeeded 69 = .ok (.iinc 6 1, 3) := by decide +kernel
theorem dX7_introductionsNeeded_72 : decode cX7_introductionsNeeded 72 = .ok (.goto (-41), 3) := by decide +kernel
theorem dX7_introductionsNeeded_75 : decode cX7_introductionsNeeded 75 = .ok (.iload 5, 2) := by decide +kernel
theorem dX7_introductionsNeeded_77 : decode cX7_introductionsNeeded 77 = .ok (.iload_n 2, 1) := by decide +kernel
theorem dX7_introductionsNeeded_78 : decode cX7_introductionsNeeded 78 = .ok (.invokestatic 142, 3) := by decide +kernel
theorem dX7_introductionsNeeded_81 : decode cX7_introductionsNeeded 81 = .ok (.ifCond .eq 6, 3) := by decide +kernel
theorem dX7_introductionsNeeded_84 : decode cX7_introductionsNeeded 84 = .ok (.iload 4, 2) := by decide +kernel
theorem dX7_introductionsNeeded_86 : decode cX7_introductionsNeeded 86 = .ok (.ireturn, 1) := by decide +kernel
theorem dX7_introductionsNeeded_87 : decode cX7_introductionsNeeded 87 = .ok (.iload 5, 2) := by decide +kernel
theorem dX7_introductionsNeeded_89 : decode cX7_introductionsNeeded 89 = .ok (.istore_n 3, 1) := by decide +kernel
theorem dX7_introductionsNeeded_90 : decode cX7_introductionsNeeded 90 = .ok (.iinc 4 1, 3) := by decide +kernel
theorem dX7_introductionsNeeded_93 : decode cX7_introductionsNeeded 93 = .ok (.goto (-75), 3) := by decide +kernel
theorem dX7_introductionsNeeded_96 : decode cX7_introductionsNeeded 96 = .ok (.iconst (-1), 1) := by decide +kernel
theorem dX7_introductionsNeeded_97 : decode cX7_introductionsNeeded 97 = .ok (.ireturn, 1) := by decide +kernel
theorem dX7_introducer_0 : decode cX7_introducer 0 = .ok (.aload_n 0, 1) := by decide +kernel
theorem dX7_introducer_1 : decode cX7_introducer 1 = .ok (.iload_n 1, 1) := by decide +kernel
theorem dX7_introducer_2 : decode cX7_introducer 2 = .ok (.iload_n 2, 1) := by decide +kernel
theorem dX7_introducer_3 : decode cX7_introducer 3 = .ok (.invokevirtual 246, 3) := by decide +kernel
theorem dX7_introducer_6 : decode cX7_introducer 6 = .ok (.ifCond .eq 5, 3) := by decide +kernel
theorem dX7_introducer_9 : decode cX7_introducer 9 = .ok (.iconst 0, 1) := by decide +kernel
theorem dX7_introducer_10 : decode cX7_introducer 10 = .ok (.ireturn, 1) := by decide +kernel
theorem dX7_introducer_11 : decode cX7_introducer 11 = .ok (.iconst 0, 1) := by decide +kernel
theorem dX7_introducer_12 : decode cX7_introducer 12 = .ok (.istore_n 3, 1) := by decide +kernel
theorem dX7_introducer_13 : decode cX7_introducer 13 = .ok (.iload_n 3, 1) := by decide +kernel
theorem dX7_introducer_14 : decode cX7_introducer 14 = .ok (.aload_n 0, 1) := by decide +kernel
theorem dX7_introducer_15 : decode cX7_introducer 15 = .ok (.getfield 13, 3) := by decide +kernel
theorem dX7_introducer_18 : decode cX7_introducer 18 = .ok (.iconst 0, 1) := by decide +kernel
theorem dX7_introducer_19 : decode cX7_introducer 19 = .ok (.iaload, 1) := by decide +kernel
theorem dX7_introducer_20 : decode cX7_introducer 20 = .ok (.if_icmp .ge 29, 3) := by decide +kernel
theorem dX7_introducer_23 : decode cX7_introducer 23 = .ok (.aload_n 0, 1) := by decide +kernel
theorem dX7_introducer_24 : decode cX7_introducer 24 = .ok (.iload_n 3, 1) := by decide +kernel
theorem dX7_introducer_25 : decode cX7_introducer 25 = .ok (.iload_n 1, 1) := by decide +kernel
theorem dX7_introducer_26 : decode cX7_introducer 26 = .ok (.invokevirtual 240, 3) := by decide +kernel
theorem dX7_introducer_29 : decode cX7_introducer 29 = .ok (.ifCond .eq 14, 3) := by decide +kernel
theorem dX7_introducer_32 : decode cX7_introducer 32 = .ok (.aload_n 0, 1) := by decide +kernel
theorem dX7_introducer_33 : decode cX7_introducer 33 = .ok (.iload_n 3, 1) := by decide +kernel
theorem dX7_introducer_34 : decode cX7_introducer 34 = .ok (.iload_n 2, 1) := by decide +kernel
theorem dX7_introducer_35 : decode cX7_introducer 35 = .ok (.invokevirtual 240, 3) := by decide +kernel
theorem dX7_introducer_38 : decode cX7_introducer 38 = .ok (.ifCond .eq 5, 3) := by decide +kernel
theorem dX7_introducer_41 : decode cX7_introducer 41 = .ok (.iload_n 3, 1) := by decide +kernel
theorem dX7_introducer_42 : decode cX7_introducer 42 = .ok (.ireturn, 1) := by decide +kernel
theorem dX7_introducer_43 : decode cX7_introducer 43 = .ok (.iinc 3 1, 3) := by decide +kernel
theorem dX7_introducer_46 : decode cX7_introducer 46 = .ok (.goto (-33), 3) := by decide +kernel
theorem dX7_introducer_49 : decode cX7_introducer 49 = .ok (.iconst (-1), 1) := by decide +kernel
theorem dX7_introducer_50 : decode cX7_introducer 50 = .ok (.ireturn, 1) := by decide +kernel
theorem dX7_of_0 : decode cX7_of 0 = .ok (.bipush 17, 2) := by decide +kernel
theorem dX7_of_2 : decode cX7_of 2 = .ok (.sipush 134, 3) := by decide +kernel
theorem dX7_of_5 : decode cX7_of 5 = .ok (.iload_n 0, 1) := by decide +kernel
theorem dX7_of_6 : decode cX7_of 6 = .ok (.imul, 1) := by decide +kernel
theorem dX7_of_7 : decode cX7_of 7 = .ok (.iadd, 1) := by decide +kernel
theorem dX7_of_8 : decode cX7_of 8 = .ok (.iload_n 1, 1) := by decide +kernel
theorem dX7_of_9 : decode cX7_of 9 = .ok (.iadd, 1) := by decide +kernel
theorem dX7_of_10 : decode cX7_of 10 = .ok (.ireturn, 1) := by decide +kernel
theorem dX7_isOpen_0 : decode cX7_isOpen 0 = .ok (.aload_n 0, 1) := by decide +kernel
theorem dX7_isOpen_1 : decode cX7_isOpen 1 = .ok (.getfield 7, 3) := by decide +kernel
theorem dX7_isOpen_4 : decode cX7_isOpen 4 = .ok (.iload_n 1, 1) := by decide +kernel
theorem dX7_isOpen_5 : decode cX7_isOpen 5 = .ok (.iconst 0, 1) := by decide +kernel
theorem dX7_isOpen_6 : decode cX7_isOpen 6 = .ok (.invokestatic 249, 3) := by decide +kernel
theorem dX7_isOpen_9 : decode cX7_isOpen 9 = .ok (.iaload, 1) := by decide +kernel
theorem dX7_isOpen_10 : decode cX7_isOpen 10 = .ok (.iconst 1, 1) := by decide +kernel
theorem dX7_isOpen_11 : decode cX7_isOpen 11 = .ok (.if_icmp .ne 7, 3) := by decide +kernel
theorem dX7_isOpen_14 : decode cX7_isOpen 14 = .ok (.iconst 1, 1) := by decide +kernel
theorem dX7_isOpen_15 : decode cX7_isOpen 15 = .ok (.goto 4, 3) := by decide +kernel
theorem dX7_isOpen_18 : decode cX7_isOpen 18 = .ok (.iconst 0, 1) := by decide +kernel
theorem dX7_isOpen_19 : decode cX7_isOpen 19 = .ok (.ireturn, 1) := by decide +kernel
theorem dX7_loadOf_0 : decode cX7_loadOf 0 = .ok (.iconst 0, 1) := by decide +kernel
theorem dX7_loadOf_1 : decode cX7_loadOf 1 = .ok (.istore_n 2, 1) := by decide +kernel
theorem dX7_loadOf_2 : decode cX7_loadOf 2 = .ok (.iconst 0, 1) := by decide +kernel
theorem dX7_loadOf_3 : decode cX7_loadOf 3 = .ok (.istore_n 3, 1) := by decide +kernel
theorem dX7_loadOf_4 : decode cX7_loadOf 4 = .ok (.iload_n 3, 1) := by decide +kernel
theorem dX7_loadOf_5 : decode cX7_loadOf 5 = .ok (.bipush 6, 2) := by decide +kernel
theorem dX7_loadOf_7 : decode cX7_loadOf 7 = .ok (.if_icmp .ge 53, 3) := by decide +kernel
theorem dX7_loadOf_10 : decode cX7_loadOf 10 = .ok (.iload_n 2, 1) := by decide +kernel
theorem dX7_loadOf_11 : decode cX7_loadOf 11 = .ok (.aload_n 0, 1) := by decide +kernel
theorem dX7_loadOf_12 : decode cX7_loadOf 12 = .ok (.iload_n 3, 1) := by decide +kernel
theorem dX7_loadOf_13 : decode cX7_loadOf 13 = .ok (.invokevirtual 253, 3) := by decide +kernel
theorem dX7_loadOf_16 : decode cX7_loadOf 16 = .ok (.ifCond .eq 35, 3) := by decide +kernel
theorem dX7_loadOf_19 : decode cX7_loadOf 19 = .ok (.aload_n 0, 1) := by decide +kernel
theorem dX7_loadOf_20 : decode cX7_loadOf 20 = .ok (.getfield 7, 3) := by decide +kernel
theorem dX7_loadOf_23 : decode cX7_loadOf 23 = .ok (.iload_n 3, 1) := by decide +kernel
theorem dX7_loadOf_24 : decode cX7_loadOf 24 = .ok (.iconst 3, 1) := by decide +kernel
theorem dX7_loadOf_25 : decode cX7_loadOf 25 = .ok (.invokestatic 249, 3) := by decide +kernel
theorem dX7_loadOf_28 : decode cX7_loadOf 28 = .ok (.iaload, 1) := by decide +kernel
theorem dX7_loadOf_29 : decode cX7_loadOf 29 = .ok (.iload_n 1, 1) := by decide +kernel
theorem dX7_loadOf_30 : decode cX7_loadOf 30 = .ok (.if_icmp .eq 17, 3) := by decide +kernel
theorem dX7_loadOf_33 : decode cX7_loadOf 33 = .ok (.aload_n 0, 1) := by decide +kernel
theorem dX7_loadOf_34 : decode cX7_loadOf 34 = .ok (.getfield 7, 3) := by decide +kernel
theorem dX7_loadOf_37 : decode cX7_loadOf 37 = .ok (.iload_n 3, 1) := by decide +kernel
theorem dX7_loadOf_38 : decode cX7_loadOf 38 = .ok (.iconst 4, 1) := by decide +kernel
theorem dX7_loadOf_39 : decode cX7_loadOf 39 = .ok (.invokestatic 249, 3) := by decide +kernel
theorem dX7_loadOf_42 : decode cX7_loadOf 42 = .ok (.iaload, 1) := by decide +kernel
theorem dX7_loadOf_43 : decode cX7_loadOf 43 = .ok (.iload_n 1, 1) := by decide +kernel
theorem dX7_loadOf_44 : decode cX7_loadOf 44 = .ok (.if_icmp .ne 7, 3) := by decide +kernel
theorem dX7_loadOf_47 : decode cX7_loadOf 47 = .ok (.iconst 1, 1) := by decide +kernel
theorem dX7_loadOf_48 : decode cX7_loadOf 48 = .ok (.goto 4, 3) := by decide +kernel
theorem dX7_loadOf_51 : decode cX7_loadOf 51 = .ok (.iconst 0, 1) := by decide +kernel
theorem dX7_loadOf_52 : decode cX7_loadOf 52 = .ok (.iadd, 1) := by decide +kernel
theorem dX7_loadOf_53 : decode cX7_loadOf 53 = .ok (.istore_n 2, 1) := by decide +kernel
theorem dX7_loadOf_54 : decode cX7_loadOf 54 = .ok (.iinc 3 1, 3) := by decide +kernel
theorem dX7_loadOf_57 : decode cX7_loadOf 57 = .ok (.goto (-53), 3) := by decide +kernel
theorem dX7_loadOf_60 : decode cX7_loadOf 60 = .ok (.iload_n 2, 1) := by decide +kernel
theorem dX7_loadOf_61 : decode cX7_loadOf 61 = .ok (.ireturn, 1) := by decide +kernel
theorem dX7_load_0 : decode cX7_load 0 = .ok (.aload_n 0, 1) := by decide +kernel
theorem dX7_load_1 : decode cX7_load 1 = .ok (.iload_n 1, 1) := by decide +kernel
theorem dX7_load_2 : decode cX7_load 2 = .ok (.iload_n 1, 1) := by decide +kernel
theorem dX7_load_3 : decode cX7_load 3 = .ok (.invokevirtual 237, 3) := by decide +kernel
theorem dX7_load_6 : decode cX7_load 6 = .ok (.ifCond .eq 7, 3) := by decide +kernel
theorem dX7_load_9 : decode cX7_load 9 = .ok (.iconst 0, 1) := by decide +kernel
theorem dX7_load_10 : decode cX7_load 10 = .ok (.goto 8, 3) := by decide +kernel
theorem dX7_load_13 : decode cX7_load 13 = .ok (.aload_n 0, 1) := by decide +kernel
theorem dX7_load_14 : decode cX7_load 14 = .ok (.iload_n 1, 1) := by decide +kernel
theorem dX7_load_15 : decode cX7_load 15 = .ok (.invokevirtual 217, 3) := by decide +kernel
theorem dX7_load_18 : decode cX7_load 18 = .ok (.ireturn, 1) := by decide +kernel
theorem dX7_canRelay_0 : decode cX7_canRelay 0 = .ok (.iload_n 1, 1) := by decide +kernel
theorem dX7_canRelay_1 : decode cX7_canRelay 1 = .ok (.iload_n 2, 1) := by decide +kernel
theorem dX7_canRelay_2 : decode cX7_canRelay 2 = .ok (.if_icmp .eq 48, 3) := by decide +kernel
theorem dX7_canRelay_5 : decode cX7_canRelay 5 = .ok (.iload_n 1, 1) := by decide +kernel
theorem dX7_canRelay_6 : decode cX7_canRelay 6 = .ok (.iload_n 3, 1) := by decide +kernel
theorem dX7_canRelay_7 : decode cX7_canRelay 7 = .ok (.if_icmp .eq 43, 3) := by decide +kernel
theorem dX7_canRelay_10 : decode cX7_canRelay 10 = .ok (.aload_n 0, 1) := by decide +kernel
theorem dX7_canRelay_11 : decode cX7_canRelay 11 = .ok (.iload_n 1, 1) := by decide +kernel
theorem dX7_canRelay_12 : decode cX7_canRelay 12 = .ok (.iload_n 2, 1) := by decide +kernel
theorem dX7_canRelay_13 : decode cX7_canRelay 13 = .ok (.invokevirtual 240, 3) := by decide +kernel
theorem dX7_canRelay_16 : decode cX7_canRelay 16 = .ok (.ifCond .eq 34, 3) := by decide +kernel
theorem dX7_canRelay_19 : decode cX7_canRelay 19 = .ok (.aload_n 0, 1) := by decide +kernel
theorem dX7_canRelay_20 : decode cX7_canRelay 20 = .ok (.iload_n 1, 1) := by decide +kernel
theorem dX7_canRelay_21 : decode cX7_canRelay 21 = .ok (.iload_n 3, 1) := by decide +kernel
theorem dX7_canRelay_22 : decode cX7_canRelay 22 = .ok (.invokevirtual 240, 3) := by decide +kernel
theorem dX7_canRelay_25 : decode cX7_canRelay 25 = .ok (.ifCond .eq 25, 3) := by decide +kernel
theorem dX7_canRelay_28 : decode cX7_canRelay 28 = .ok (.aload_n 0, 1) := by decide +kernel
theorem dX7_canRelay_29 : decode cX7_canRelay 29 = .ok (.iload_n 1, 1) := by decide +kernel
theorem dX7_canRelay_30 : decode cX7_canRelay 30 = .ok (.iload_n 2, 1) := by decide +kernel
theorem dX7_canRelay_31 : decode cX7_canRelay 31 = .ok (.invokevirtual 243, 3) := by decide +kernel
theorem dX7_canRelay_34 : decode cX7_canRelay 34 = .ok (.ifCond .eq 16, 3) := by decide +kernel
theorem dX7_canRelay_37 : decode cX7_canRelay 37 = .ok (.aload_n 0, 1) := by decide +kernel
theorem dX7_canRelay_38 : decode cX7_canRelay 38 = .ok (.iload_n 1, 1) := by decide +kernel
theorem dX7_canRelay_39 : decode cX7_canRelay 39 = .ok (.iload_n 3, 1) := by decide +kernel
theorem dX7_canRelay_40 : decode cX7_canRelay 40 = .ok (.invokevirtual 243, 3) := by decide +kernel
theorem dX7_canRelay_43 : decode cX7_canRelay 43 = .ok (.ifCond .eq 7, 3) := by decide +kernel
theorem dX7_canRelay_46 : decode cX7_canRelay 46 = .ok (.iconst 1, 1) := by decide +kernel
theorem dX7_canRelay_47 : decode cX7_canRelay 47 = .ok (.goto 4, 3) := by decide +kernel
theorem dX7_canRelay_50 : decode cX7_canRelay 50 = .ok (.iconst 0, 1) := by decide +kernel
theorem dX7_canRelay_51 : decode cX7_canRelay 51 = .ok (.ireturn, 1) := by decide +kernel
theorem dX7_bestFor_0 : decode cX7_bestFor 0 = .ok (.iconst (-1), 1) := by decide +kernel
theorem dX7_bestFor_1 : decode cX7_bestFor 1 = .ok (.istore_n 3, 1) := by decide +kernel
theorem dX7_bestFor_2 : decode cX7_bestFor 2 = .ok (.iconst 0, 1) := by decide +kernel
theorem dX7_bestFor_3 : decode cX7_bestFor 3 = .ok (.istore 4, 2) := by decide +kernel
theorem dX7_bestFor_5 : decode cX7_bestFor 5 = .ok (.iconst 0, 1) := by decide +kernel
theorem dX7_bestFor_6 : decode cX7_bestFor 6 = .ok (.istore 5, 2) := by decide +kernel
theorem dX7_bestFor_8 : decode cX7_bestFor 8 = .ok (.iload 5, 2) := by decide +kernel
theorem dX7_bestFor_10 : decode cX7_bestFor 10 = .ok (.aload_n 0, 1) := by decide +kernel
theorem dX7_bestFor_11 : decode cX7_bestFor 11 = .ok (.getfield 13, 3) := by decide +kernel
theorem dX7_bestFor_14 : decode cX7_bestFor 14 = .ok (.iconst 0, 1) := by decide +kernel
theorem dX7_bestFor_15 : decode cX7_bestFor 15 = .ok (.iaload, 1) := by decide +kernel
theorem dX7_bestFor_16 : decode cX7_bestFor 16 = .ok (.if_icmp .ge 68, 3) := by decide +kernel
theorem dX7_bestFor_19 : decode cX7_bestFor 19 = .ok (.aload_n 0, 1) := by decide +kernel
theorem dX7_bestFor_20 : decode cX7_bestFor 20 = .ok (.iload 5, 2) := by decide +kernel
theorem dX7_bestFor_22 : decode cX7_bestFor 22 = .ok (.iload_n 1, 1) := by decide +kernel
theorem dX7_bestFor_23 : decode cX7_bestFor 23 = .ok (.iload_n 2, 1) := by decide +kernel
theorem dX7_bestFor_24 : decode cX7_bestFor 24 = .ok (.invokevirtual 256, 3) := by decide +kernel
theorem dX7_bestFor_27 : decode cX7_bestFor 27 = .ok (.ifCond .eq 51, 3) := by decide +kernel
theorem dX7_bestFor_30 : decode cX7_bestFor 30 = .ok (.aload_n 0, 1) := by decide +kernel
theorem dX7_bestFor_31 : decode cX7_bestFor 31 = .ok (.iload 5, 2) := by decide +kernel
theorem dX7_bestFor_33 : decode cX7_bestFor 33 = .ok (.invokevirtual 217, 3) := by decide +kernel
theorem dX7_bestFor_36 : decode cX7_bestFor 36 = .ok (.aload_n 0, 1) := by decide +kernel
theorem dX7_bestFor_37 : decode cX7_bestFor 37 = .ok (.getfield 16, 3) := by decide +kernel
theorem dX7_bestFor_40 : decode cX7_bestFor 40 = .ok (.iload 5, 2) := by decide +kernel
theorem dX7_bestFor_42 : decode cX7_bestFor 42 = .ok (.iaload, 1) := by decide +kernel
theorem dX7_bestFor_43 : decode cX7_bestFor 43 = .ok (.if_icmp .lt 6, 3) := by decide +kernel
theorem dX7_bestFor_46 : decode cX7_bestFor 46 = .ok (.goto 32, 3) := by decide +kernel
theorem dX7_bestFor_49 : decode cX7_bestFor 49 = .ok (.aload_n 0, 1) := by decide +kernel
theorem dX7_bestFor_50 : decode cX7_bestFor 50 = .ok (.iload 5, 2) := by decide +kernel
theorem dX7_bestFor_52 : decode cX7_bestFor 52 = .ok (.iload_n 1, 1) := by decide +kernel
theorem dX7_bestFor_53 : decode cX7_bestFor 53 = .ok (.iload_n 2, 1) := by decide +kernel
theorem dX7_bestFor_54 : decode cX7_bestFor 54 = .ok (.invokevirtual 259, 3) := by decide +kernel
theorem dX7_bestFor_57 : decode cX7_bestFor 57 = .ok (.istore 6, 2) := by decide +kernel
theorem dX7_bestFor_59 : decode cX7_bestFor 59 = .ok (.iload_n 3, 1) := by decide +kernel
theorem dX7_bestFor_60 : decode cX7_bestFor 60 = .ok (.iconst (-1), 1) := by decide +kernel
theorem dX7_bestFor_61 : decode cX7_bestFor 61 = .ok (.if_icmp .eq 10, 3) := by decide +kernel
theorem dX7_bestFor_64 : decode cX7_bestFor 64 = .ok (.iload 6, 2) := by decide +kernel
theorem dX7_bestFor_66 : decode cX7_bestFor 66 = .ok (.iload 4, 2) := by decide +kernel
theorem dX7_bestFor_68 : decode cX7_bestFor 68 = .ok (.if_icmp .ge 10, 3) := by decide +kernel
theorem dX7_bestFor_71 : decode cX7_bestFor 71 = .ok (.iload 5, 2) := by decide +kernel
theorem dX7_bestFor_73 : decode cX7_bestFor 73 = .ok (.istore_n 3, 1) := by decide +kernel
theorem dX7_bestFor_74 : decode cX7_bestFor 74 = .ok (.iload 6, 2) := by decide +kernel
theorem dX7_bestFor_76 : decode cX7_bestFor 76 = .ok (.istore 4, 2) := by decide +kernel
theorem dX7_bestFor_78 : decode cX7_bestFor 78 = .ok (.iinc 5 1, 3) := by decide +kernel
theorem dX7_bestFor_81 : decode cX7_bestFor 81 = .ok (.goto (-73), 3) := by decide +kernel
theorem dX7_bestFor_84 : decode cX7_bestFor 84 = .ok (.iload_n 3, 1) := by decide +kernel
theorem dX7_bestFor_85 : decode cX7_bestFor 85 = .ok (.ireturn, 1) := by decide +kernel
theorem dX7_bestRelay_0 : decode cX7_bestRelay 0 = .ok (.aload_n 0, 1) := by decide +kernel
theorem dX7_bestRelay_1 : decode cX7_bestRelay 1 = .ok (.iload_n 1, 1) := by decide +kernel
theorem dX7_bestRelay_2 : decode cX7_bestRelay 2 = .ok (.iload_n 2, 1) := by decide +kernel
theorem dX7_bestRelay_3 : decode cX7_bestRelay 3 = .ok (.invokevirtual 246, 3) := by decide +kernel
theorem dX7_bestRelay_6 : decode cX7_bestRelay 6 = .ok (.ifCond .eq 7, 3) := by decide +kernel
theorem dX7_bestRelay_9 : decode cX7_bestRelay 9 = .ok (.iconst 0, 1) := by decide +kernel
theorem dX7_bestRelay_10 : decode cX7_bestRelay 10 = .ok (.goto 9, 3) := by decide +kernel
theorem dX7_bestRelay_13 : decode cX7_bestRelay 13 = .ok (.aload_n 0, 1) := by decide +kernel
theorem dX7_bestRelay_14 : decode cX7_bestRelay 14 = .ok (.iload_n 1, 1) := by decide +kernel
theorem dX7_bestRelay_15 : decode cX7_bestRelay 15 = .ok (.iload_n 2, 1) := by decide +kernel
theorem dX7_bestRelay_16 : decode cX7_bestRelay 16 = .ok (.invokevirtual 262, 3) := by decide +kernel
theorem dX7_bestRelay_19 : decode cX7_bestRelay 19 = .ok (.ireturn, 1) := by decide +kernel
theorem dX7_noThree_0 : decode cX7_noThree 0 = .ok (.aload_n 0, 1) := by decide +kernel
theorem dX7_noThree_1 : decode cX7_noThree 1 = .ok (.iconst 0, 1) := by decide +kernel
theorem dX7_noThree_2 : decode cX7_noThree 2 = .ok (.putfield 70, 3) := by decide +kernel
theorem dX7_noThree_5 : decode cX7_noThree 5 = .ok (.aload_n 0, 1) := by decide +kernel
theorem dX7_noThree_6 : decode cX7_noThree 6 = .ok (.iload_n 1, 1) := by decide +kernel
theorem dX7_noThree_7 : decode cX7_noThree 7 = .ok (.aload_n 0, 1) := by decide +kernel
theorem dX7_noThree_8 : decode cX7_noThree 8 = .ok (.getfield 13, 3) := by decide +kernel
theorem dX7_noThree_11 : decode cX7_noThree 11 = .ok (.iconst 0, 1) := by decide +kernel
theorem dX7_noThree_12 : decode cX7_noThree 12 = .ok (.iaload, 1) := by decide +kernel
theorem dX7_noThree_13 : decode cX7_noThree 13 = .ok (.invokevirtual 234, 3) := by decide +kernel
theorem dX7_noThree_16 : decode cX7_noThree 16 = .ok (.ifCond .ne 59, 3) := by decide +kernel
theorem dX7_noThree_19 : decode cX7_noThree 19 = .ok (.aload_n 0, 1) := by decide +kernel
theorem dX7_noThree_20 : decode cX7_noThree 20 = .ok (.iload_n 2, 1) := by decide +kernel
theorem dX7_noThree_21 : decode cX7_noThree 21 = .ok (.aload_n 0, 1) := by decide +kernel
theorem dX7_noThree_22 : decode cX7_noThree 22 = .ok (.getfield 13, 3) := by decide +kernel
theorem dX7_noThree_25 : decode cX7_noThree 25 = .ok (.iconst 0, 1) := by decide +kernel
theorem dX7_noThree_26 : decode cX7_noThree 26 = .ok (.iaload, 1) := by decide +kernel
theorem dX7_noThree_27 : decode cX7_noThree 27 = .ok (.invokevirtual 234, 3) := by decide +kernel
theorem dX7_noThree_30 : decode cX7_noThree 30 = .ok (.ifCond .ne 45, 3) := by decide +kernel
theorem dX7_noThree_33 : decode cX7_noThree 33 = .ok (.aload_n 0, 1) := by decide +kernel
theorem dX7_noThree_34 : decode cX7_noThree 34 = .ok (.iload_n 3, 1) := by decide +kernel
theorem dX7_noThree_35 : decode cX7_noThree 35 = .ok (.aload_n 0, 1) := by decide +kernel
theorem dX7_noThree_36 : decode cX7_noThree 36 = .ok (.getfield 13, 3) := by decide +kernel
theorem dX7_noThree_39 : decode cX7_noThree 39 = .ok (.iconst 0, 1) := by decide +kernel
theorem dX7_noThree_40 : decode cX7_noThree 40 = .ok (.iaload, 1) := by decide +kernel
theorem dX7_noThree_41 : decode cX7_noThree 41 = .ok (.invokevirtual 234, 3) := by decide +kernel
theorem dX7_noThree_44 : decode cX7_noThree 44 = .ok (.ifCond .ne 31, 3) := by decide +kernel
theorem dX7_noThree_47 : decode cX7_noThree 47 = .ok (.aload_n 0, 1) := by decide +kernel
theorem dX7_noThree_48 : decode cX7_noThree 48 = .ok (.iload_n 1, 1) := by decide +kernel
theorem dX7_noThree_49 : decode cX7_noThree 49 = .ok (.iload_n 2, 1) := by decide +kernel
theorem dX7_noThree_50 : decode cX7_noThree 50 = .ok (.if_icmp .eq 13, 3) := by decide +kernel
theorem dX7_noThree_53 : decode cX7_noThree 53 = .ok (.iload_n 1, 1) := by decide +kernel
theorem dX7_noThree_54 : decode cX7_noThree 54 = .ok (.iload_n 3, 1) := by decide +kernel
theorem dX7_noThree_55 : decode cX7_noThree 55 = .ok (.if_icmp .eq 8, 3) := by decide +kernel
theorem dX7_noThree_58 : decode cX7_noThree 58 = .ok (.iload_n 2, 1) := by decide +kernel
theorem dX7_noThree_59 : decode cX7_noThree 59 = .ok (.iload_n 3, 1) := by decide +kernel
theorem dX7_noThree_60 : decode cX7_noThree 60 = .ok (.if_icmp .ne 7, 3) := by decide +kernel
theorem dX7_noThree_63 : decode cX7_noThree 63 = .ok (.iconst 1, 1) := by decide +kernel
theorem dX7_noThree_64 : decode cX7_noThree 64 = .ok (.goto 4, 3) := by decide +kernel
theorem dX7_noThree_67 : decode cX7_noThree 67 = .ok (.iconst 0, 1) := by decide +kernel
theorem dX7_noThree_68 : decode cX7_noThree 68 = .ok (.iconst 2, 1) := by decide +kernel
theorem dX7_noThree_69 : decode cX7_noThree 69 = .ok (.invokevirtual 224, 3) := by decide +kernel
theorem dX7_noThree_72 : decode cX7_noThree 72 = .ok (.ifCond .eq 7, 3) := by decide +kernel
theorem dX7_noThree_75 : decode cX7_noThree 75 = .ok (.iconst 1, 1) := by decide +kernel
theorem dX7_noThree_76 : decode cX7_noThree 76 = .ok (.goto 4, 3) := by decide +kernel
theorem dX7_noThree_79 : decode cX7_noThree 79 = .ok (.iconst 0, 1) := by decide +kernel
theorem dX7_noThree_80 : decode cX7_noThree 80 = .ok (.ireturn, 1) := by decide +kernel
theorem dX7_relayScore_0 : decode cX7_relayScore 0 = .ok (.aload_n 0, 1) := by decide +kernel
theorem dX7_relayScore_1 : decode cX7_relayScore 1 = .ok (.iload_n 1, 1) := by decide +kernel
theorem dX7_relayScore_2 : decode cX7_relayScore 2 = .ok (.iload_n 2, 1) := by decide +kernel
theorem dX7_relayScore_3 : decode cX7_relayScore 3 = .ok (.iload_n 3, 1) := by decide +kernel
theorem dX7_relayScore_4 : decode cX7_relayScore 4 = .ok (.invokevirtual 265, 3) := by decide +kernel
theorem dX7_relayScore_7 : decode cX7_relayScore 7 = .ok (.ifCond .ne 26, 3) := by decide +kernel
theorem dX7_relayScore_10 : decode cX7_relayScore 10 = .ok (.aload_n 0, 1) := by decide +kernel
theorem dX7_relayScore_11 : decode cX7_relayScore 11 = .ok (.aload_n 0, 1) := by decide +kernel
theorem dX7_relayScore_12 : decode cX7_relayScore 12 = .ok (.iload_n 1, 1) := by decide +kernel
theorem dX7_relayScore_13 : decode cX7_relayScore 13 = .ok (.iload_n 2, 1) := by decide +kernel
theorem dX7_relayScore_14 : decode cX7_relayScore 14 = .ok (.iload_n 3, 1) := by decide +kernel
theorem dX7_relayScore_15 : decode cX7_relayScore 15 = .ok (.invokevirtual 256, 3) := by decide +kernel
theorem dX7_relayScore_18 : decode cX7_relayScore 18 = .ok (.ifCond .ne 7, 3) := by decide +kernel
theorem dX7_relayScore_21 : decode cX7_relayScore 21 = .ok (.iconst 1, 1) := by decide +kernel
theorem dX7_relayScore_22 : decode cX7_relayScore 22 = .ok (.goto 4, 3) := by decide +kernel
theorem dX7_relayScore_25 : decode cX7_relayScore 25 = .ok (.iconst 0, 1) := by decide +kernel
theorem dX7_relayScore_26 : decode cX7_relayScore 26 = .ok (.iconst 3, 1) := by decide +kernel
theorem dX7_relayScore_27 : decode cX7_relayScore 27 = .ok (.invokevirtual 224, 3) := by decide +kernel
theorem dX7_relayScore_30 : decode cX7_relayScore 30 = .ok (.ifCond .eq 5, 3) := by decide +kernel
theorem dX7_relayScore_33 : decode cX7_relayScore 33 = .ok (.iconst 0, 1) := by decide +kernel
theorem dX7_relayScore_34 : decode cX7_relayScore 34 = .ok (.ireturn, 1) := by decide +kernel
theorem dX7_relayScore_35 : decode cX7_relayScore 35 = .ok (.aload_n 0, 1) := by decide +kernel
theorem dX7_relayScore_36 : decode cX7_relayScore 36 = .ok (.iload_n 1, 1) := by decide +kernel
theorem dX7_relayScore_37 : decode cX7_relayScore 37 = .ok (.iload_n 2, 1) := by decide +kernel
theorem dX7_relayScore_38 : decode cX7_relayScore 38 = .ok (.iload_n 3, 1) := by decide +kernel
theorem dX7_relayScore_39 : decode cX7_relayScore 39 = .ok (.invokevirtual 259, 3) := by decide +kernel
theorem dX7_relayScore_42 : decode cX7_relayScore 42 = .ok (.ireturn, 1) := by decide +kernel
theorem dX7_sessions_0 : decode cX7_sessions 0 = .ok (.aload_n 0, 1) := by decide +kernel
theorem dX7_sessions_1 : decode cX7_sessions 1 = .ok (.iconst 0, 1) := by decide +kernel
theorem dX7_sessions_2 : decode cX7_sessions 2 = .ok (.putfield 70, 3) := by decide +kernel
theorem dX7_sessions_5 : decode cX7_sessions 5 = .ok (.iconst 0, 1) := by decide +kernel
theorem dX7_sessions_6 : decode cX7_sessions 6 = .ok (.istore_n 1, 1) := by decide +kernel
theorem dX7_sessions_7 : decode cX7_sessions 7 = .ok (.iconst 0, 1) := by decide +kernel
theorem dX7_sessions_8 : decode cX7_sessions 8 = .ok (.istore_n 2, 1) := by decide +kernel
theorem dX7_sessions_9 : decode cX7_sessions 9 = .ok (.iload_n 2, 1) := by decide +kernel
theorem dX7_sessions_10 : decode cX7_sessions 10 = .ok (.bipush 6, 2) := by decide +kernel
theorem dX7_sessions_12 : decode cX7_sessions 12 = .ok (.if_icmp .ge 27, 3) := by decide +kernel
theorem dX7_sessions_15 : decode cX7_sessions 15 = .ok (.iload_n 1, 1) := by decide +kernel
theorem dX7_sessions_16 : decode cX7_sessions 16 = .ok (.aload_n 0, 1) := by decide +kernel
theorem dX7_sessions_17 : decode cX7_sessions 17 = .ok (.iload_n 2, 1) := by decide +kernel
theorem dX7_sessions_18 : decode cX7_sessions 18 = .ok (.invokevirtual 253, 3) := by decide +kernel
theorem dX7_sessions_21 : decode cX7_sessions 21 = .ok (.ifCond .eq 9, 3) := by decide +kernel
theorem dX7_sessions_24 : decode cX7_sessions 24 = .ok (.iconst 1, 1) := by decide +kernel
theorem dX7_sessions_25 : decode cX7_sessions 25 = .ok (.iload_n 2, 1) := by decide +kernel
theorem dX7_sessions_26 : decode cX7_sessions 26 = .ok (.ishl, 1) := by decide +kernel
theorem dX7_sessions_27 : decode cX7_sessions 27 = .ok (.goto 4, 3) := by decide +kernel
theorem dX7_sessions_30 : decode cX7_sessions 30 = .ok (.iconst 0, 1) := by decide +kernel
theorem dX7_sessions_31 : decode cX7_sessions 31 = .ok (.ior, 1) := by decide +kernel
theorem dX7_sessions_32 : decode cX7_sessions 32 = .ok (.istore_n 1, 1) := by decide +kernel
theorem dX7_sessions_33 : decode cX7_sessions 33 = .ok (.iinc 2 1, 3) := by decide +kernel
theorem dX7_sessions_36 : decode cX7_sessions 36 = .ok (.goto (-27), 3) := by decide +kernel
theorem dX7_sessions_39 : decode cX7_sessions 39 = .ok (.iload_n 1, 1) := by decide +kernel
theorem dX7_sessions_40 : decode cX7_sessions 40 = .ok (.ireturn, 1) := by decide +kernel
theorem dX7_sessionOf_0 : decode cX7_sessionOf 0 = .ok (.iconst 0, 1) := by decide +kernel
theorem dX7_sessionOf_1 : decode cX7_sessionOf 1 = .ok (.istore_n 3, 1) := by decide +kernel
theorem dX7_sessionOf_2 : decode cX7_sessionOf 2 = .ok (.iload_n 3, 1) := by decide +kernel
theorem dX7_sessionOf_3 : decode cX7_sessionOf 3 = .ok (.bipush 6, 2) := by decide +kernel
theorem dX7_sessionOf_5 : decode cX7_sessionOf 5 = .ok (.if_icmp .ge 47, 3) := by decide +kernel
theorem dX7_sessionOf_8 : decode cX7_sessionOf 8 = .ok (.aload_n 0, 1) := by decide +kernel
theorem dX7_sessionOf_9 : decode cX7_sessionOf 9 = .ok (.iload_n 3, 1) := by decide +kernel
theorem dX7_sessionOf_10 : decode cX7_sessionOf 10 = .ok (.invokevirtual 253, 3) := by decide +kernel
theorem dX7_sessionOf_13 : decode cX7_sessionOf 13 = .ok (.ifCond .eq 33, 3) := by decide +kernel
theorem dX7_sessionOf_16 : decode cX7_sessionOf 16 = .ok (.aload_n 0, 1) := by decide +kernel
theorem dX7_sessionOf_17 : decode cX7_sessionOf 17 = .ok (.getfield 7, 3) := by decide +kernel
theorem dX7_sessionOf_20 : decode cX7_sessionOf 20 = .ok (.iload_n 3, 1) := by decide +kernel
theorem dX7_sessionOf_21 : decode cX7_sessionOf 21 = .ok (.iconst 1, 1) := by decide +kernel
theorem dX7_sessionOf_22 : decode cX7_sessionOf 22 = .ok (.invokestatic 249, 3) := by decide +kernel
theorem dX7_sessionOf_25 : decode cX7_sessionOf 25 = .ok (.iaload, 1) := by decide +kernel
theorem dX7_sessionOf_26 : decode cX7_sessionOf 26 = .ok (.iload_n 1, 1) := by decide +kernel
theorem dX7_sessionOf_27 : decode cX7_sessionOf 27 = .ok (.if_icmp .ne 19, 3) := by decide +kernel
theorem dX7_sessionOf_30 : decode cX7_sessionOf 30 = .ok (.aload_n 0, 1) := by decide +kernel
theorem dX7_sessionOf_31 : decode cX7_sessionOf 31 = .ok (.getfield 7, 3) := by decide +kernel
theorem dX7_sessionOf_34 : decode cX7_sessionOf 34 = .ok (.iload_n 3, 1) := by decide +kernel
theorem dX7_sessionOf_35 : decode cX7_sessionOf 35 = .ok (.iconst 2, 1) := by decide +kernel
theorem dX7_sessionOf_36 : decode cX7_sessionOf 36 = .ok (.invokestatic 249, 3) := by decide +kernel
theorem dX7_sessionOf_39 : decode cX7_sessionOf 39 = .ok (.iaload, 1) := by decide +kernel
theorem dX7_sessionOf_40 : decode cX7_sessionOf 40 = .ok (.iload_n 2, 1) := by decide +kernel
theorem dX7_sessionOf_41 : decode cX7_sessionOf 41 = .ok (.if_icmp .ne 5, 3) := by decide +kernel
theorem dX7_sessionOf_44 : decode cX7_sessionOf 44 = .ok (.iload_n 3, 1) := by decide +kernel
theorem dX7_sessionOf_45 : decode cX7_sessionOf 45 = .ok (.ireturn, 1) := by decide +kernel
theorem dX7_sessionOf_46 : decode cX7_sessionOf 46 = .ok (.iinc 3 1, 3) := by decide +kernel
theorem dX7_sessionOf_49 : decode cX7_sessionOf 49 = .ok (.goto (-47), 3) := by decide +kernel
theorem dX7_sessionOf_52 : decode cX7_sessionOf 52 = .ok (.iconst (-1), 1) := by decide +kernel
theorem dX7_sessionOf_53 : decode cX7_sessionOf 53 = .ok (.ireturn, 1) := by decide +kernel
theorem dX7_session_0 : decode cX7_session 0 = .ok (.aload_n 0, 1) := by decide +kernel
theorem dX7_session_1 : decode cX7_session 1 = .ok (.iload_n 1, 1) := by decide +kernel
theorem dX7_session_2 : decode cX7_session 2 = .ok (.iload_n 2, 1) := by decide +kernel
theorem dX7_session_3 : decode cX7_session 3 = .ok (.invokevirtual 246, 3) := by decide +kernel
theorem dX7_session_6 : decode cX7_session 6 = .ok (.ifCond .eq 7, 3) := by decide +kernel
theorem dX7_session_9 : decode cX7_session 9 = .ok (.iconst 0, 1) := by decide +kernel
theorem dX7_session_10 : decode cX7_session 10 = .ok (.goto 9, 3) := by decide +kernel
theorem dX7_session_13 : decode cX7_session 13 = .ok (.aload_n 0, 1) := by decide +kernel
theorem dX7_session_14 : decode cX7_session 14 = .ok (.iload_n 1, 1) := by decide +kernel
theorem dX7_session_15 : decode cX7_session 15 = .ok (.iload_n 2, 1) := by decide +kernel
theorem dX7_session_16 : decode cX7_session 16 = .ok (.invokevirtual 268, 3) := by decide +kernel
theorem dX7_session_19 : decode cX7_session 19 = .ok (.ireturn, 1) := by decide +kernel
theorem dX7_noSession_0 : decode cX7_noSession 0 = .ok (.aload_n 0, 1) := by decide +kernel
theorem dX7_noSession_1 : decode cX7_noSession 1 = .ok (.iconst 0, 1) := by decide +kernel
theorem dX7_noSession_2 : decode cX7_noSession 2 = .ok (.putfield 70, 3) := by decide +kernel
theorem dX7_noSession_5 : decode cX7_noSession 5 = .ok (.aload_n 0, 1) := by decide +kernel
theorem dX7_noSession_6 : decode cX7_noSession 6 = .ok (.iload_n 1, 1) := by decide +kernel
theorem dX7_noSession_7 : decode cX7_noSession 7 = .ok (.bipush 6, 2) := by decide +kernel
theorem dX7_noSession_9 : decode cX7_noSession 9 = .ok (.invokevirtual 234, 3) := by decide +kernel
theorem dX7_noSession_12 : decode cX7_noSession 12 = .ok (.ifCond .ne 24, 3) := by decide +kernel
theorem dX7_noSession_15 : decode cX7_noSession 15 = .ok (.aload_n 0, 1) := by decide +kernel
theorem dX7_noSession_16 : decode cX7_noSession 16 = .ok (.aload_n 0, 1) := by decide +kernel
theorem dX7_noSession_17 : decode cX7_noSession 17 = .ok (.iload_n 1, 1) := by decide +kernel
theorem dX7_noSession_18 : decode cX7_noSession 18 = .ok (.invokevirtual 253, 3) := by decide +kernel
theorem dX7_noSession_21 : decode cX7_noSession 21 = .ok (.ifCond .ne 7, 3) := by decide +kernel
theorem dX7_noSession_24 : decode cX7_noSession 24 = .ok (.iconst 1, 1) := by decide +kernel
theorem dX7_noSession_25 : decode cX7_noSession 25 = .ok (.goto 4, 3) := by decide +kernel
theorem dX7_noSession_28 : decode cX7_noSession 28 = .ok (.iconst 0, 1) := by decide +kernel
theorem dX7_noSession_29 : decode cX7_noSession 29 = .ok (.iconst 1, 1) := by decide +kernel
theorem dX7_noSession_30 : decode cX7_noSession 30 = .ok (.invokevirtual 224, 3) := by decide +kernel
theorem dX7_noSession_33 : decode cX7_noSession 33 = .ok (.ifCond .eq 7, 3) := by decide +kernel
theorem dX7_noSession_36 : decode cX7_noSession 36 = .ok (.iconst 1, 1) := by decide +kernel
theorem dX7_noSession_37 : decode cX7_noSession 37 = .ok (.goto 4, 3) := by decide +kernel
theorem dX7_noSession_40 : decode cX7_noSession 40 = .ok (.iconst 0, 1) := by decide +kernel
theorem dX7_noSession_41 : decode cX7_noSession 41 = .ok (.ireturn, 1) := by decide +kernel
theorem dX7_asked_0 : decode cX7_asked 0 = .ok (.aload_n 0, 1) := by decide +kernel
theorem dX7_asked_1 : decode cX7_asked 1 = .ok (.iload_n 1, 1) := by decide +kernel
theorem dX7_asked_2 : decode cX7_asked 2 = .ok (.invokevirtual 271, 3) := by decide +kernel
theorem dX7_asked_5 : decode cX7_asked 5 = .ok (.ifCond .eq 7, 3) := by decide +kernel
theorem dX7_asked_8 : decode cX7_asked 8 = .ok (.iconst 0, 1) := by decide +kernel
theorem dX7_asked_9 : decode cX7_asked 9 = .ok (.goto 13, 3) := by decide +kernel
theorem dX7_asked_12 : decode cX7_asked 12 = .ok (.aload_n 0, 1) := by decide +kernel
theorem dX7_asked_13 : decode cX7_asked 13 = .ok (.getfield 7, 3) := by decide +kernel
theorem dX7_asked_16 : decode cX7_asked 16 = .ok (.iload_n 1, 1) := by decide +kernel
theorem dX7_asked_17 : decode cX7_asked 17 = .ok (.iload_n 2, 1) := by decide +kernel
theorem dX7_asked_18 : decode cX7_asked 18 = .ok (.invokestatic 249, 3) := by decide +kernel
theorem dX7_asked_21 : decode cX7_asked 21 = .ok (.iaload, 1) := by decide +kernel
theorem dX7_asked_22 : decode cX7_asked 22 = .ok (.ireturn, 1) := by decide +kernel
theorem dX7_path_0 : decode cX7_path 0 = .ok (.aload_n 0, 1) := by decide +kernel
theorem dX7_path_1 : decode cX7_path 1 = .ok (.iload_n 1, 1) := by decide +kernel
theorem dX7_path_2 : decode cX7_path 2 = .ok (.iconst 3, 1) := by decide +kernel
theorem dX7_path_3 : decode cX7_path 3 = .ok (.invokevirtual 274, 3) := by decide +kernel
theorem dX7_path_6 : decode cX7_path 6 = .ok (.ireturn, 1) := by decide +kernel
theorem dX7_oldPath_0 : decode cX7_oldPath 0 = .ok (.aload_n 0, 1) := by decide +kernel
theorem dX7_oldPath_1 : decode cX7_oldPath 1 = .ok (.iload_n 1, 1) := by decide +kernel
theorem dX7_oldPath_2 : decode cX7_oldPath 2 = .ok (.iconst 4, 1) := by decide +kernel
theorem dX7_oldPath_3 : decode cX7_oldPath 3 = .ok (.invokevirtual 274, 3) := by decide +kernel
theorem dX7_oldPath_6 : decode cX7_oldPath 6 = .ok (.ireturn, 1) := by decide +kernel
theorem dX7_successes_0 : decode cX7_successes 0 = .ok (.aload_n 0, 1) := by decide +kernel
theorem dX7_successes_1 : decode cX7_successes 1 = .ok (.iload_n 1, 1) := by decide +kernel
theorem dX7_successes_2 : decode cX7_successes 2 = .ok (.iconst 5, 1) := by decide +kernel
theorem dX7_successes_3 : decode cX7_successes 3 = .ok (.invokevirtual 274, 3) := by decide +kernel
theorem dX7_successes_6 : decode cX7_successes 6 = .ok (.ireturn, 1) := by decide +kernel
theorem dX7_undelivered_0 : decode cX7_undelivered 0 = .ok (.aload_n 0, 1) := by decide +kernel
theorem dX7_undelivered_1 : decode cX7_undelivered 1 = .ok (.getfield 7, 3) := by decide +kernel
theorem dX7_undelivered_4 : decode cX7_undelivered 4 = .ok (.iload_n 1, 1) := by decide +kernel
theorem dX7_undelivered_5 : decode cX7_undelivered 5 = .ok (.bipush 7, 2) := by decide +kernel
theorem dX7_undelivered_7 : decode cX7_undelivered 7 = .ok (.invokestatic 249, 3) := by decide +kernel
theorem dX7_undelivered_10 : decode cX7_undelivered 10 = .ok (.iaload, 1) := by decide +kernel
theorem dX7_undelivered_11 : decode cX7_undelivered 11 = .ok (.aload_n 0, 1) := by decide +kernel
theorem dX7_undelivered_12 : decode cX7_undelivered 12 = .ok (.getfield 7, 3) := by decide +kernel
theorem dX7_undelivered_15 : decode cX7_undelivered 15 = .ok (.iload_n 1, 1) := by decide +kernel
theorem dX7_undelivered_16 : decode cX7_undelivered 16 = .ok (.bipush 8, 2) := by decide +kernel
theorem dX7_undelivered_18 : decode cX7_undelivered 18 = .ok (.invokestatic 249, 3) := by decide +kernel
theorem dX7_undelivered_21 : decode cX7_undelivered 21 = .ok (.iaload, 1) := by decide +kernel
theorem dX7_undelivered_22 : decode cX7_undelivered 22 = .ok (.isub, 1) := by decide +kernel
theorem dX7_undelivered_23 : decode cX7_undelivered 23 = .ok (.ireturn, 1) := by decide +kernel
theorem dX7_message_0 : decode cX7_message 0 = .ok (.iload_n 0, 1) := by decide +kernel
theorem dX7_message_1 : decode cX7_message 1 = .ok (.bipush 14, 2) := by decide +kernel
theorem dX7_message_3 : decode cX7_message 3 = .ok (.invokestatic 249, 3) := by decide +kernel
theorem dX7_message_6 : decode cX7_message 6 = .ok (.iconst 5, 1) := by decide +kernel
theorem dX7_message_7 : decode cX7_message 7 = .ok (.iload_n 1, 1) := by decide +kernel
theorem dX7_message_8 : decode cX7_message 8 = .ok (.imul, 1) := by decide +kernel
theorem dX7_message_9 : decode cX7_message 9 = .ok (.iadd, 1) := by decide +kernel
theorem dX7_message_10 : decode cX7_message 10 = .ok (.ireturn, 1) := by decide +kernel
theorem dX7_inState_0 : decode cX7_inState 0 = .ok (.iconst 0, 1) := by decide +kernel
theorem dX7_inState_1 : decode cX7_inState 1 = .ok (.istore_n 3, 1) := by decide +kernel
theorem dX7_inState_2 : decode cX7_inState 2 = .ok (.iconst 0, 1) := by decide +kernel
theorem dX7_inState_3 : decode cX7_inState 3 = .ok (.istore 4, 2) := by decide +kernel
theorem dX7_inState_5 : decode cX7_inState 5 = .ok (.iload 4, 2) := by decide +kernel
theorem dX7_inState_7 : decode cX7_inState 7 = .ok (.aload_n 0, 1) := by decide +kernel
theorem dX7_inState_8 : decode cX7_inState 8 = .ok (.iload_n 1, 1) := by decide +kernel
theorem dX7_inState_9 : decode cX7_inState 9 = .ok (.invokevirtual 277, 3) := by decide +kernel
theorem dX7_inState_12 : decode cX7_inState 12 = .ok (.if_icmp .ge 34, 3) := by decide +kernel
theorem dX7_inState_15 : decode cX7_inState 15 = .ok (.iload_n 3, 1) := by decide +kernel
theorem dX7_inState_16 : decode cX7_inState 16 = .ok (.aload_n 0, 1) := by decide +kernel
theorem dX7_inState_17 : decode cX7_inState 17 = .ok (.getfield 7, 3) := by decide +kernel
theorem dX7_inState_20 : decode cX7_inState 20 = .ok (.iload_n 1, 1) := by decide +kernel
theorem dX7_inState_21 : decode cX7_inState 21 = .ok (.iload 4, 2) := by decide +kernel
theorem dX7_inState_23 : decode cX7_inState 23 = .ok (.invokestatic 280, 3) := by decide +kernel
theorem dX7_inState_26 : decode cX7_inState 26 = .ok (.iconst 0, 1) := by decide +kernel
theorem dX7_inState_27 : decode cX7_inState 27 = .ok (.iadd, 1) := by decide +kernel
theorem dX7_inState_28 : decode cX7_inState 28 = .ok (.iaload, 1) := by decide +kernel
theorem dX7_inState_29 : decode cX7_inState 29 = .ok (.iload_n 2, 1) := by decide +kernel
theorem dX7_inState_30 : decode cX7_inState 30 = .ok (.if_icmp .ne 7, 3) := by decide +kernel
theorem dX7_inState_33 : decode cX7_inState 33 = .ok (.iconst 1, 1) := by decide +kernel
theorem dX7_inState_34 : decode cX7_inState 34 = .ok (.goto 4, 3) := by decide +kernel
theorem dX7_inState_37 : decode cX7_inState 37 = .ok (.iconst 0, 1) := by decide +kernel
theorem dX7_inState_38 : decode cX7_inState 38 = .ok (.iadd, 1) := by decide +kernel
theorem dX7_inState_39 : decode cX7_inState 39 = .ok (.istore_n 3, 1) := by decide +kernel
theorem dX7_inState_40 : decode cX7_inState 40 = .ok (.iinc 4 1, 3) := by decide +kernel
theorem dX7_inState_43 : decode cX7_inState 43 = .ok (.goto (-38), 3) := by decide +kernel
theorem dX7_inState_46 : decode cX7_inState 46 = .ok (.iload_n 3, 1) := by decide +kernel
theorem dX7_inState_47 : decode cX7_inState 47 = .ok (.ireturn, 1) := by decide +kernel
theorem dX7_messages_0 : decode cX7_messages 0 = .ok (.aload_n 0, 1) := by decide +kernel
theorem dX7_messages_1 : decode cX7_messages 1 = .ok (.iload_n 1, 1) := by decide +kernel
theorem dX7_messages_2 : decode cX7_messages 2 = .ok (.invokevirtual 271, 3) := by decide +kernel
theorem dX7_messages_5 : decode cX7_messages 5 = .ok (.ifCond .ne 25, 3) := by decide +kernel
theorem dX7_messages_8 : decode cX7_messages 8 = .ok (.aload_n 0, 1) := by decide +kernel
theorem dX7_messages_9 : decode cX7_messages 9 = .ok (.iload_n 2, 1) := by decide +kernel
theorem dX7_messages_10 : decode cX7_messages 10 = .ok (.iconst 0, 1) := by decide +kernel
theorem dX7_messages_11 : decode cX7_messages 11 = .ok (.iconst 3, 1) := by decide +kernel
theorem dX7_messages_12 : decode cX7_messages 12 = .ok (.invokestatic 107, 3) := by decide +kernel
theorem dX7_messages_15 : decode cX7_messages 15 = .ok (.ifCond .ne 7, 3) := by decide +kernel
theorem dX7_messages_18 : decode cX7_messages 18 = .ok (.iconst 1, 1) := by decide +kernel
theorem dX7_messages_19 : decode cX7_messages 19 = .ok (.goto 4, 3) := by decide +kernel
theorem dX7_messages_22 : decode cX7_messages 22 = .ok (.iconst 0, 1) := by decide +kernel
theorem dX7_messages_23 : decode cX7_messages 23 = .ok (.iconst 2, 1) := by decide +kernel
theorem dX7_messages_24 : decode cX7_messages 24 = .ok (.invokevirtual 224, 3) := by decide +kernel
theorem dX7_messages_27 : decode cX7_messages 27 = .ok (.ifCond .eq 5, 3) := by decide +kernel
theorem dX7_messages_30 : decode cX7_messages 30 = .ok (.iconst 0, 1) := by decide +kernel
theorem dX7_messages_31 : decode cX7_messages 31 = .ok (.ireturn, 1) := by decide +kernel
theorem dX7_messages_32 : decode cX7_messages 32 = .ok (.iload_n 2, 1) := by decide +kernel
theorem dX7_messages_33 : decode cX7_messages 33 = .ok (.iconst 3, 1) := by decide +kernel
theorem dX7_messages_34 : decode cX7_messages 34 = .ok (.if_icmp .ne 17, 3) := by decide +kernel
theorem dX7_messages_37 : decode cX7_messages 37 = .ok (.aload_n 0, 1) := by decide +kernel
theorem dX7_messages_38 : decode cX7_messages 38 = .ok (.getfield 7, 3) := by decide +kernel
theorem dX7_messages_41 : decode cX7_messages 41 = .ok (.iload_n 1, 1) := by decide +kernel
theorem dX7_messages_42 : decode cX7_messages 42 = .ok (.bipush 8, 2) := by decide +kernel
theorem dX7_messages_44 : decode cX7_messages 44 = .ok (.invokestatic 249, 3) := by decide +kernel
theorem dX7_messages_47 : decode cX7_messages 47 = .ok (.iaload, 1) := by decide +kernel
theorem dX7_messages_48 : decode cX7_messages 48 = .ok (.goto 9, 3) := by decide +kernel
theorem dX7_messages_51 : decode cX7_messages 51 = .ok (.aload_n 0, 1) := by decide +kernel
theorem dX7_messages_52 : decode cX7_messages 52 = .ok (.iload_n 1, 1) := by decide +kernel
theorem dX7_messages_53 : decode cX7_messages 53 = .ok (.iload_n 2, 1) := by decide +kernel
theorem dX7_messages_54 : decode cX7_messages 54 = .ok (.invokevirtual 283, 3) := by decide +kernel
theorem dX7_messages_57 : decode cX7_messages 57 = .ok (.ireturn, 1) := by decide +kernel
theorem dX7_lastValue_0 : decode cX7_lastValue 0 = .ok (.aload_n 0, 1) := by decide +kernel
theorem dX7_lastValue_1 : decode cX7_lastValue 1 = .ok (.iload_n 1, 1) := by decide +kernel
theorem dX7_lastValue_2 : decode cX7_lastValue 2 = .ok (.invokevirtual 271, 3) := by decide +kernel
theorem dX7_lastValue_5 : decode cX7_lastValue 5 = .ok (.ifCond .ne 30, 3) := by decide +kernel
theorem dX7_lastValue_8 : decode cX7_lastValue 8 = .ok (.aload_n 0, 1) := by decide +kernel
theorem dX7_lastValue_9 : decode cX7_lastValue 9 = .ok (.aload_n 0, 1) := by decide +kernel
theorem dX7_lastValue_10 : decode cX7_lastValue 10 = .ok (.getfield 7, 3) := by decide +kernel
theorem dX7_lastValue_13 : decode cX7_lastValue 13 = .ok (.iload_n 1, 1) := by decide +kernel
theorem dX7_lastValue_14 : decode cX7_lastValue 14 = .ok (.bipush 8, 2) := by decide +kernel
theorem dX7_lastValue_16 : decode cX7_lastValue 16 = .ok (.invokestatic 249, 3) := by decide +kernel
theorem dX7_lastValue_19 : decode cX7_lastValue 19 = .ok (.iaload, 1) := by decide +kernel
theorem dX7_lastValue_20 : decode cX7_lastValue 20 = .ok (.ifCond .ne 7, 3) := by decide +kernel
theorem dX7_lastValue_23 : decode cX7_lastValue 23 = .ok (.iconst 1, 1) := by decide +kernel
theorem dX7_lastValue_24 : decode cX7_lastValue 24 = .ok (.goto 4, 3) := by decide +kernel
theorem dX7_lastValue_27 : decode cX7_lastValue 27 = .ok (.iconst 0, 1) := by decide +kernel
theorem dX7_lastValue_28 : decode cX7_lastValue 28 = .ok (.iconst 2, 1) := by decide +kernel
theorem dX7_lastValue_29 : decode cX7_lastValue 29 = .ok (.invokevirtual 224, 3) := by decide +kernel
theorem dX7_lastValue_32 : decode cX7_lastValue 32 = .ok (.ifCond .eq 7, 3) := by decide +kernel
theorem dX7_lastValue_35 : decode cX7_lastValue 35 = .ok (.iconst 0, 1) := by decide +kernel
theorem dX7_lastValue_36 : decode cX7_lastValue 36 = .ok (.goto 14, 3) := by decide +kernel
theorem dX7_lastValue_39 : decode cX7_lastValue 39 = .ok (.aload_n 0, 1) := by decide +kernel
theorem dX7_lastValue_40 : decode cX7_lastValue 40 = .ok (.getfield 7, 3) := by decide +kernel
theorem dX7_lastValue_43 : decode cX7_lastValue 43 = .ok (.iload_n 1, 1) := by decide +kernel
theorem dX7_lastValue_44 : decode cX7_lastValue 44 = .ok (.bipush 10, 2) := by decide +kernel
theorem dX7_lastValue_46 : decode cX7_lastValue 46 = .ok (.invokestatic 249, 3) := by decide +kernel
theorem dX7_lastValue_49 : decode cX7_lastValue 49 = .ok (.iaload, 1) := by decide +kernel
theorem dX7_lastValue_50 : decode cX7_lastValue 50 = .ok (.ireturn, 1) := by decide +kernel
theorem dX7_digest_0 : decode cX7_digest 0 = .ok (.aload_n 0, 1) := by decide +kernel
theorem dX7_digest_1 : decode cX7_digest 1 = .ok (.iload_n 1, 1) := by decide +kernel
theorem dX7_digest_2 : decode cX7_digest 2 = .ok (.bipush 9, 2) := by decide +kernel
theorem dX7_digest_4 : decode cX7_digest 4 = .ok (.invokevirtual 274, 3) := by decide +kernel
theorem dX7_digest_7 : decode cX7_digest 7 = .ok (.ireturn, 1) := by decide +kernel
theorem dX7_key_0 : decode cX7_key 0 = .ok (.aload_n 0, 1) := by decide +kernel
theorem dX7_key_1 : decode cX7_key 1 = .ok (.iload_n 1, 1) := by decide +kernel
theorem dX7_key_2 : decode cX7_key 2 = .ok (.bipush 11, 2) := by decide +kernel
theorem dX7_key_4 : decode cX7_key 4 = .ok (.invokevirtual 274, 3) := by decide +kernel
theorem dX7_key_7 : decode cX7_key 7 = .ok (.ireturn, 1) := by decide +kernel
theorem dX7_oldestKey_0 : decode cX7_oldestKey 0 = .ok (.aload_n 0, 1) := by decide +kernel
theorem dX7_oldestKey_1 : decode cX7_oldestKey 1 = .ok (.iload_n 1, 1) := by decide +kernel
theorem dX7_oldestKey_2 : decode cX7_oldestKey 2 = .ok (.invokevirtual 271, 3) := by decide +kernel
theorem dX7_oldestKey_5 : decode cX7_oldestKey 5 = .ok (.ifCond .eq 7, 3) := by decide +kernel
theorem dX7_oldestKey_8 : decode cX7_oldestKey 8 = .ok (.iconst 0, 1) := by decide +kernel
theorem dX7_oldestKey_9 : decode cX7_oldestKey 9 = .ok (.goto 37, 3) := by decide +kernel
theorem dX7_oldestKey_12 : decode cX7_oldestKey 12 = .ok (.aload_n 0, 1) := by decide +kernel
theorem dX7_oldestKey_13 : decode cX7_oldestKey 13 = .ok (.iload_n 1, 1) := by decide +kernel
theorem dX7_oldestKey_14 : decode cX7_oldestKey 14 = .ok (.invokevirtual 277, 3) := by decide +kernel
theorem dX7_oldestKey_17 : decode cX7_oldestKey 17 = .ok (.ifCond .le 18, 3) := by decide +kernel
theorem dX7_oldestKey_20 : decode cX7_oldestKey 20 = .ok (.aload_n 0, 1) := by decide +kernel
theorem dX7_oldestKey_21 : decode cX7_oldestKey 21 = .ok (.getfield 7, 3) := by decide +kernel
theorem dX7_oldestKey_24 : decode cX7_oldestKey 24 = .ok (.iload_n 1, 1) := by decide +kernel
theorem dX7_oldestKey_25 : decode cX7_oldestKey 25 = .ok (.iconst 0, 1) := by decide +kernel
theorem dX7_oldestKey_26 : decode cX7_oldestKey 26 = .ok (.invokestatic 280, 3) := by decide +kernel
theorem dX7_oldestKey_29 : decode cX7_oldestKey 29 = .ok (.iconst 2, 1) := by decide +kernel
theorem dX7_oldestKey_30 : decode cX7_oldestKey 30 = .ok (.iadd, 1) := by decide +kernel
theorem dX7_oldestKey_31 : decode cX7_oldestKey 31 = .ok (.iaload, 1) := by decide +kernel
theorem dX7_oldestKey_32 : decode cX7_oldestKey 32 = .ok (.goto 14, 3) := by decide +kernel
theorem dX7_oldestKey_35 : decode cX7_oldestKey 35 = .ok (.aload_n 0, 1) := by decide +kernel
theorem dX7_oldestKey_36 : decode cX7_oldestKey 36 = .ok (.getfield 7, 3) := by decide +kernel
theorem dX7_oldestKey_39 : decode cX7_oldestKey 39 = .ok (.iload_n 1, 1) := by decide +kernel
theorem dX7_oldestKey_40 : decode cX7_oldestKey 40 = .ok (.bipush 11, 2) := by decide +kernel
theorem dX7_oldestKey_42 : decode cX7_oldestKey 42 = .ok (.invokestatic 249, 3) := by decide +kernel
theorem dX7_oldestKey_45 : decode cX7_oldestKey 45 = .ok (.iaload, 1) := by decide +kernel
theorem dX7_oldestKey_46 : decode cX7_oldestKey 46 = .ok (.ireturn, 1) := by decide +kernel
theorem dX7_keyStart_0 : decode cX7_keyStart 0 = .ok (.aload_n 0, 1) := by decide +kernel
theorem dX7_keyStart_1 : decode cX7_keyStart 1 = .ok (.iload_n 1, 1) := by decide +kernel
theorem dX7_keyStart_2 : decode cX7_keyStart 2 = .ok (.bipush 13, 2) := by decide +kernel
theorem dX7_keyStart_4 : decode cX7_keyStart 4 = .ok (.invokevirtual 274, 3) := by decide +kernel
theorem dX7_keyStart_7 : decode cX7_keyStart 7 = .ok (.ireturn, 1) := by decide +kernel
theorem dX7_turnsKey_0 : decode cX7_turnsKey 0 = .ok (.aload_n 0, 1) := by decide +kernel
theorem dX7_turnsKey_1 : decode cX7_turnsKey 1 = .ok (.getfield 7, 3) := by decide +kernel
theorem dX7_turnsKey_4 : decode cX7_turnsKey 4 = .ok (.iload_n 1, 1) := by decide +kernel
theorem dX7_turnsKey_5 : decode cX7_turnsKey 5 = .ok (.bipush 11, 2) := by decide +kernel
theorem dX7_turnsKey_7 : decode cX7_turnsKey 7 = .ok (.invokestatic 249, 3) := by decide +kernel
theorem dX7_turnsKey_10 : decode cX7_turnsKey 10 = .ok (.dup2, 1) := by decide +kernel
theorem dX7_turnsKey_11 : decode cX7_turnsKey 11 = .ok (.iaload, 1) := by decide +kernel
theorem dX7_turnsKey_12 : decode cX7_turnsKey 12 = .ok (.iconst 1, 1) := by decide +kernel
theorem dX7_turnsKey_13 : decode cX7_turnsKey 13 = .ok (.iadd, 1) := by decide +kernel
theorem dX7_turnsKey_14 : decode cX7_turnsKey 14 = .ok (.iastore, 1) := by decide +kernel
theorem dX7_turnsKey_15 : decode cX7_turnsKey 15 = .ok (.aload_n 0, 1) := by decide +kernel
theorem dX7_turnsKey_16 : decode cX7_turnsKey 16 = .ok (.getfield 7, 3) := by decide +kernel
theorem dX7_turnsKey_19 : decode cX7_turnsKey 19 = .ok (.iload_n 1, 1) := by decide +kernel
theorem dX7_turnsKey_20 : decode cX7_turnsKey 20 = .ok (.bipush 12, 2) := by decide +kernel
theorem dX7_turnsKey_22 : decode cX7_turnsKey 22 = .ok (.invokestatic 249, 3) := by decide +kernel
theorem dX7_turnsKey_25 : decode cX7_turnsKey 25 = .ok (.iconst 0, 1) := by decide +kernel
theorem dX7_turnsKey_26 : decode cX7_turnsKey 26 = .ok (.iastore, 1) := by decide +kernel
theorem dX7_turnsKey_27 : decode cX7_turnsKey 27 = .ok (.aload_n 0, 1) := by decide +kernel
theorem dX7_turnsKey_28 : decode cX7_turnsKey 28 = .ok (.getfield 7, 3) := by decide +kernel
theorem dX7_turnsKey_31 : decode cX7_turnsKey 31 = .ok (.iload_n 1, 1) := by decide +kernel
theorem dX7_turnsKey_32 : decode cX7_turnsKey 32 = .ok (.bipush 13, 2) := by decide +kernel
theorem dX7_turnsKey_34 : decode cX7_turnsKey 34 = .ok (.invokestatic 249, 3) := by decide +kernel
theorem dX7_turnsKey_37 : decode cX7_turnsKey 37 = .ok (.aload_n 0, 1) := by decide +kernel
theorem dX7_turnsKey_38 : decode cX7_turnsKey 38 = .ok (.getfield 7, 3) := by decide +kernel
theorem dX7_turnsKey_41 : decode cX7_turnsKey 41 = .ok (.iload_n 1, 1) := by decide +kernel
theorem dX7_turnsKey_42 : decode cX7_turnsKey 42 = .ok (.bipush 7, 2) := by decide +kernel
theorem dX7_turnsKey_44 : decode cX7_turnsKey 44 = .ok (.invokestatic 249, 3) := by decide +kernel
theorem dX7_turnsKey_47 : decode cX7_turnsKey 47 = .ok (.iaload, 1) := by decide +kernel
theorem dX7_turnsKey_48 : decode cX7_turnsKey 48 = .ok (.iastore, 1) := by decide +kernel
theorem dX7_turnsKey_49 : decode cX7_turnsKey 49 = .ok (.return_, 1) := by decide +kernel
theorem dX7_delayBy_0 : decode cX7_delayBy 0 = .ok (.aload_n 0, 1) := by decide +kernel
theorem dX7_delayBy_1 : decode cX7_delayBy 1 = .ok (.getfield 7, 3) := by decide +kernel
theorem dX7_delayBy_4 : decode cX7_delayBy 4 = .ok (.iload_n 1, 1) := by decide +kernel
theorem dX7_delayBy_5 : decode cX7_delayBy 5 = .ok (.iconst 1, 1) := by decide +kernel
theorem dX7_delayBy_6 : decode cX7_delayBy 6 = .ok (.invokestatic 249, 3) := by decide +kernel
theorem dX7_delayBy_9 : decode cX7_delayBy 9 = .ok (.iaload, 1) := by decide +kernel
theorem dX7_delayBy_10 : decode cX7_delayBy 10 = .ok (.istore_n 3, 1) := by decide +kernel
theorem dX7_delayBy_11 : decode cX7_delayBy 11 = .ok (.aload_n 0, 1) := by decide +kernel
theorem dX7_delayBy_12 : decode cX7_delayBy 12 = .ok (.getfield 7, 3) := by decide +kernel
theorem dX7_delayBy_15 : decode cX7_delayBy 15 = .ok (.iload_n 1, 1) := by decide +kernel
theorem dX7_delayBy_16 : decode cX7_delayBy 16 = .ok (.iconst 2, 1) := by decide +kernel
theorem dX7_delayBy_17 : decode cX7_delayBy 17 = .ok (.invokestatic 249, 3) := by decide +kernel
theorem dX7_delayBy_20 : decode cX7_delayBy 20 = .ok (.iaload, 1) := by decide +kernel
theorem dX7_delayBy_21 : decode cX7_delayBy 21 = .ok (.istore 4, 2) := by decide +kernel
theorem dX7_delayBy_23 : decode cX7_delayBy 23 = .ok (.iload_n 2, 1) := by decide +kernel
theorem dX7_delayBy_24 : decode cX7_delayBy 24 = .ok (.bipush 100, 2) := by decide +kernel
theorem dX7_delayBy_26 : decode cX7_delayBy 26 = .ok (.if_icmp .ne 18, 3) := by decide +kernel
theorem dX7_delayBy_29 : decode cX7_delayBy 29 = .ok (.aload_n 0, 1) := by decide +kernel
theorem dX7_delayBy_30 : decode cX7_delayBy 30 = .ok (.getfield 22, 3) := by decide +kernel
theorem dX7_delayBy_33 : decode cX7_delayBy 33 = .ok (.bipush 8, 2) := by decide +kernel
theorem dX7_delayBy_35 : decode cX7_delayBy 35 = .ok (.iload_n 3, 1) := by decide +kernel
theorem dX7_delayBy_36 : decode cX7_delayBy 36 = .ok (.imul, 1) := by decide +kernel
theorem dX7_delayBy_37 : decode cX7_delayBy 37 = .ok (.iload 4, 2) := by decide +kernel
theorem dX7_delayBy_39 : decode cX7_delayBy 39 = .ok (.iadd, 1) := by decide +kernel
theorem dX7_delayBy_40 : decode cX7_delayBy 40 = .ok (.iaload, 1) := by decide +kernel
theorem dX7_delayBy_41 : decode cX7_delayBy 41 = .ok (.goto 27, 3) := by decide +kernel
theorem dX7_delayBy_44 : decode cX7_delayBy 44 = .ok (.aload_n 0, 1) := by decide +kernel
theorem dX7_delayBy_45 : decode cX7_delayBy 45 = .ok (.getfield 22, 3) := by decide +kernel
theorem dX7_delayBy_48 : decode cX7_delayBy 48 = .ok (.bipush 8, 2) := by decide +kernel
theorem dX7_delayBy_50 : decode cX7_delayBy 50 = .ok (.iload_n 3, 1) := by decide +kernel
theorem dX7_delayBy_51 : decode cX7_delayBy 51 = .ok (.imul, 1) := by decide +kernel
theorem dX7_delayBy_52 : decode cX7_delayBy 52 = .ok (.iload_n 2, 1) := by decide +kernel
theorem dX7_delayBy_53 : decode cX7_delayBy 53 = .ok (.iadd, 1) := by decide +kernel
theorem dX7_delayBy_54 : decode cX7_delayBy 54 = .ok (.iaload, 1) := by decide +kernel
theorem dX7_delayBy_55 : decode cX7_delayBy 55 = .ok (.aload_n 0, 1) := by decide +kernel
theorem dX7_delayBy_56 : decode cX7_delayBy 56 = .ok (.getfield 22, 3) := by decide +kernel
theorem dX7_delayBy_59 : decode cX7_delayBy 59 = .ok (.bipush 8, 2) := by decide +kernel
theorem dX7_delayBy_61 : decode cX7_delayBy 61 = .ok (.iload_n 2, 1) := by decide +kernel
theorem dX7_delayBy_62 : decode cX7_delayBy 62 = .ok (.imul, 1) := by decide +kernel
theorem dX7_delayBy_63 : decode cX7_delayBy 63 = .ok (.iload 4, 2) := by decide +kernel
theorem dX7_delayBy_65 : decode cX7_delayBy 65 = .ok (.iadd, 1) := by decide +kernel
theorem dX7_delayBy_66 : decode cX7_delayBy 66 = .ok (.iaload, 1) := by decide +kernel
theorem dX7_delayBy_67 : decode cX7_delayBy 67 = .ok (.iadd, 1) := by decide +kernel
theorem dX7_delayBy_68 : decode cX7_delayBy 68 = .ok (.ireturn, 1) := by decide +kernel
theorem dX7_travels_0 : decode cX7_travels 0 = .ok (.aload_n 0, 1) := by decide +kernel
theorem dX7_travels_1 : decode cX7_travels 1 = .ok (.getfield 7, 3) := by decide +kernel
theorem dX7_travels_4 : decode cX7_travels 4 = .ok (.iload_n 1, 1) := by decide +kernel
theorem dX7_travels_5 : decode cX7_travels 5 = .ok (.iconst 3, 1) := by decide +kernel
theorem dX7_travels_6 : decode cX7_travels 6 = .ok (.invokestatic 249, 3) := by decide +kernel
theorem dX7_travels_9 : decode cX7_travels 9 = .ok (.iaload, 1) := by decide +kernel
theorem dX7_travels_10 : decode cX7_travels 10 = .ok (.istore_n 3, 1) := by decide +kernel
theorem dX7_travels_11 : decode cX7_travels 11 = .ok (.aload_n 0, 1) := by decide +kernel
theorem dX7_travels_12 : decode cX7_travels 12 = .ok (.getfield 7, 3) := by decide +kernel
theorem dX7_travels_15 : decode cX7_travels 15 = .ok (.iload_n 2, 1) := by decide +kernel
theorem dX7_travels_16 : decode cX7_travels 16 = .ok (.iconst 0, 1) := by decide +kernel
theorem dX7_travels_17 : decode cX7_travels 17 = .ok (.iadd, 1) := by decide +kernel
theorem dX7_travels_18 : decode cX7_travels 18 = .ok (.iload_n 3, 1) := by decide +kernel
theorem dX7_travels_19 : decode cX7_travels 19 = .ok (.iconst (-1), 1) := by decide +kernel
theorem dX7_travels_20 : decode cX7_travels 20 = .ok (.if_icmp .ne 7, 3) := by decide +kernel
theorem dX7_travels_23 : decode cX7_travels 23 = .ok (.iconst 0, 1) := by decide +kernel
theorem dX7_travels_24 : decode cX7_travels 24 = .ok (.goto 4, 3) := by decide +kernel
theorem dX7_travels_27 : decode cX7_travels 27 = .ok (.iconst 1, 1) := by decide +kernel
theorem dX7_travels_28 : decode cX7_travels 28 = .ok (.iastore, 1) := by decide +kernel
theorem dX7_travels_29 : decode cX7_travels 29 = .ok (.aload_n 0, 1) := by decide +kernel
theorem dX7_travels_30 : decode cX7_travels 30 = .ok (.getfield 7, 3) := by decide +kernel
theorem dX7_travels_33 : decode cX7_travels 33 = .ok (.iload_n 2, 1) := by decide +kernel
theorem dX7_travels_34 : decode cX7_travels 34 = .ok (.iconst 4, 1) := by decide +kernel
theorem dX7_travels_35 : decode cX7_travels 35 = .ok (.iadd, 1) := by decide +kernel
theorem dX7_travels_36 : decode cX7_travels 36 = .ok (.iload_n 3, 1) := by decide +kernel
theorem dX7_travels_37 : decode cX7_travels 37 = .ok (.iastore, 1) := by decide +kernel
theorem dX7_travels_38 : decode cX7_travels 38 = .ok (.aload_n 0, 1) := by decide +kernel
theorem dX7_travels_39 : decode cX7_travels 39 = .ok (.getfield 7, 3) := by decide +kernel
theorem dX7_travels_42 : decode cX7_travels 42 = .ok (.iload_n 2, 1) := by decide +kernel
theorem dX7_travels_43 : decode cX7_travels 43 = .ok (.iconst 3, 1) := by decide +kernel
theorem dX7_travels_44 : decode cX7_travels 44 = .ok (.iadd, 1) := by decide +kernel
theorem dX7_travels_45 : decode cX7_travels 45 = .ok (.iload_n 3, 1) := by decide +kernel
theorem dX7_travels_46 : decode cX7_travels 46 = .ok (.iconst (-1), 1) := by decide +kernel
theorem dX7_travels_47 : decode cX7_travels 47 = .ok (.if_icmp .ne 7, 3) := by decide +kernel
theorem dX7_travels_50 : decode cX7_travels 50 = .ok (.iconst (-1), 1) := by decide +kernel
theorem dX7_travels_51 : decode cX7_travels 51 = .ok (.goto 16, 3) := by decide +kernel
theorem dX7_travels_54 : decode cX7_travels 54 = .ok (.aload_n 0, 1) := by decide +kernel
theorem dX7_travels_55 : decode cX7_travels 55 = .ok (.getfield 7, 3) := by decide +kernel
theorem dX7_travels_58 : decode cX7_travels 58 = .ok (.iconst 0, 1) := by decide +kernel
theorem dX7_travels_59 : decode cX7_travels 59 = .ok (.iaload, 1) := by decide +kernel
theorem dX7_travels_60 : decode cX7_travels 60 = .ok (.aload_n 0, 1) := by decide +kernel
theorem dX7_travels_61 : decode cX7_travels 61 = .ok (.iload_n 1, 1) := by decide +kernel
theorem dX7_travels_62 : decode cX7_travels 62 = .ok (.iload_n 3, 1) := by decide +kernel
theorem dX7_travels_63 : decode cX7_travels 63 = .ok (.invokevirtual 286, 3) := by decide +kernel
theorem dX7_travels_66 : decode cX7_travels 66 = .ok (.iadd, 1) := by decide +kernel
theorem dX7_travels_67 : decode cX7_travels 67 = .ok (.iastore, 1) := by decide +kernel
theorem dX7_travels_68 : decode cX7_travels 68 = .ok (.return_, 1) := by decide +kernel
theorem dX7_takesPath_0 : decode cX7_takesPath 0 = .ok (.aload_n 0, 1) := by decide +kernel
theorem dX7_takesPath_1 : decode cX7_takesPath 1 = .ok (.getfield 7, 3) := by decide +kernel
theorem dX7_takesPath_4 : decode cX7_takesPath 4 = .ok (.iload_n 1, 1) := by decide +kernel
theorem dX7_takesPath_5 : decode cX7_takesPath 5 = .ok (.iconst 3, 1) := by decide +kernel
theorem dX7_takesPath_6 : decode cX7_takesPath 6 = .ok (.invokestatic 249, 3) := by decide +kernel
theorem dX7_takesPath_9 : decode cX7_takesPath 9 = .ok (.iload_n 2, 1) := by decide +kernel
theorem dX7_takesPath_10 : decode cX7_takesPath 10 = .ok (.iastore, 1) := by decide +kernel
theorem dX7_takesPath_11 : decode cX7_takesPath 11 = .ok (.aload_n 0, 1) := by decide +kernel
theorem dX7_takesPath_12 : decode cX7_takesPath 12 = .ok (.getfield 7, 3) := by decide +kernel
theorem dX7_takesPath_15 : decode cX7_takesPath 15 = .ok (.iload_n 1, 1) := by decide +kernel
theorem dX7_takesPath_16 : decode cX7_takesPath 16 = .ok (.bipush 12, 2) := by decide +kernel
theorem dX7_takesPath_18 : decode cX7_takesPath 18 = .ok (.invokestatic 249, 3) := by decide +kernel
theorem dX7_takesPath_21 : decode cX7_takesPath 21 = .ok (.iaload, 1) := by decide +kernel
theorem dX7_takesPath_22 : decode cX7_takesPath 22 = .ok (.ifCond .le 8, 3) := by decide +kernel
theorem dX7_takesPath_25 : decode cX7_takesPath 25 = .ok (.aload_n 0, 1) := by decide +kernel
theorem dX7_takesPath_26 : decode cX7_takesPath 26 = .ok (.iload_n 1, 1) := by decide +kernel
theorem dX7_takesPath_27 : decode cX7_takesPath 27 = .ok (.invokevirtual 289, 3) := by decide +kernel
theorem dX7_takesPath_30 : decode cX7_takesPath 30 = .ok (.iconst 0, 1) := by decide +kernel
theorem dX7_takesPath_31 : decode cX7_takesPath 31 = .ok (.istore_n 3, 1) := by decide +kernel
theorem dX7_takesPath_32 : decode cX7_takesPath 32 = .ok (.iload_n 3, 1) := by decide +kernel
theorem dX7_takesPath_33 : decode cX7_takesPath 33 = .ok (.aload_n 0, 1) := by decide +kernel
theorem dX7_takesPath_34 : decode cX7_takesPath 34 = .ok (.iload_n 1, 1) := by decide +kernel
theorem dX7_takesPath_35 : decode cX7_takesPath 35 = .ok (.invokevirtual 277, 3) := by decide +kernel
theorem dX7_takesPath_38 : decode cX7_takesPath 38 = .ok (.if_icmp .ge 34, 3) := by decide +kernel
theorem dX7_takesPath_41 : decode cX7_takesPath 41 = .ok (.aload_n 0, 1) := by decide +kernel
theorem dX7_takesPath_42 : decode cX7_takesPath 42 = .ok (.getfield 7, 3) := by decide +kernel
theorem dX7_takesPath_45 : decode cX7_takesPath 45 = .ok (.iload_n 1, 1) := by decide +kernel
theorem dX7_takesPath_46 : decode cX7_takesPath 46 = .ok (.iload_n 3, 1) := by decide +kernel
theorem dX7_takesPath_47 : decode cX7_takesPath 47 = .ok (.invokestatic 280, 3) := by decide +kernel
theorem dX7_takesPath_50 : decode cX7_takesPath 50 = .ok (.iconst 0, 1) := by decide +kernel
theorem dX7_takesPath_51 : decode cX7_takesPath 51 = .ok (.iadd, 1) := by decide +kernel
theorem dX7_takesPath_52 : decode cX7_takesPath 52 = .ok (.iaload, 1) := by decide +kernel
theorem dX7_takesPath_53 : decode cX7_takesPath 53 = .ok (.ifCond .ne 13, 3) := by decide +kernel
theorem dX7_takesPath_56 : decode cX7_takesPath 56 = .ok (.aload_n 0, 1) := by decide +kernel
theorem dX7_takesPath_57 : decode cX7_takesPath 57 = .ok (.iload_n 1, 1) := by decide +kernel
theorem dX7_takesPath_58 : decode cX7_takesPath 58 = .ok (.iload_n 1, 1) := by decide +kernel
theorem dX7_takesPath_59 : decode cX7_takesPath 59 = .ok (.iload_n 3, 1) := by decide +kernel
theorem dX7_takesPath_60 : decode cX7_takesPath 60 = .ok (.invokestatic 280, 3) := by decide +kernel
theorem dX7_takesPath_63 : decode cX7_takesPath 63 = .ok (.invokevirtual 292, 3) := by decide +kernel
theorem dX7_takesPath_66 : decode cX7_takesPath 66 = .ok (.iinc 3 1, 3) := by decide +kernel
theorem dX7_takesPath_69 : decode cX7_takesPath 69 = .ok (.goto (-37), 3) := by decide +kernel
theorem dX7_takesPath_72 : decode cX7_takesPath 72 = .ok (.return_, 1) := by decide +kernel
theorem dX7_delivers_0 : decode cX7_delivers 0 = .ok (.iconst 0, 1) := by decide +kernel
theorem dX7_delivers_1 : decode cX7_delivers 1 = .ok (.istore_n 2, 1) := by decide +kernel
theorem dX7_delivers_2 : decode cX7_delivers 2 = .ok (.iload_n 2, 1) := by decide +kernel
theorem dX7_delivers_3 : decode cX7_delivers 3 = .ok (.aload_n 0, 1) := by decide +kernel
theorem dX7_delivers_4 : decode cX7_delivers 4 = .ok (.iload_n 1, 1) := by decide +kernel
theorem dX7_delivers_5 : decode cX7_delivers 5 = .ok (.invokevirtual 277, 3) := by decide +kernel
theorem dX7_delivers_8 : decode cX7_delivers 8 = .ok (.if_icmp .ge 53, 3) := by decide +kernel
theorem dX7_delivers_11 : decode cX7_delivers 11 = .ok (.iload_n 1, 1) := by decide +kernel
theorem dX7_delivers_12 : decode cX7_delivers 12 = .ok (.iload_n 2, 1) := by decide +kernel
theorem dX7_delivers_13 : decode cX7_delivers 13 = .ok (.invokestatic 280, 3) := by decide +kernel
theorem dX7_delivers_16 : decode cX7_delivers 16 = .ok (.istore_n 3, 1) := by decide +kernel
theorem dX7_delivers_17 : decode cX7_delivers 17 = .ok (.aload_n 0, 1) := by decide +kernel
theorem dX7_delivers_18 : decode cX7_delivers 18 = .ok (.getfield 7, 3) := by decide +kernel
theorem dX7_delivers_21 : decode cX7_delivers 21 = .ok (.iload_n 3, 1) := by decide +kernel
theorem dX7_delivers_22 : decode cX7_delivers 22 = .ok (.iconst 0, 1) := by decide +kernel
theorem dX7_delivers_23 : decode cX7_delivers 23 = .ok (.iadd, 1) := by decide +kernel
theorem dX7_delivers_24 : decode cX7_delivers 24 = .ok (.iaload, 1) := by decide +kernel
theorem dX7_delivers_25 : decode cX7_delivers 25 = .ok (.iconst 1, 1) := by decide +kernel
theorem dX7_delivers_26 : decode cX7_delivers 26 = .ok (.if_icmp .ne 29, 3) := by decide +kernel
theorem dX7_delivers_29 : decode cX7_delivers 29 = .ok (.aload_n 0, 1) := by decide +kernel
theorem dX7_delivers_30 : decode cX7_delivers 30 = .ok (.getfield 7, 3) := by decide +kernel
theorem dX7_delivers_33 : decode cX7_delivers 33 = .ok (.iload_n 3, 1) := by decide +kernel
theorem dX7_delivers_34 : decode cX7_delivers 34 = .ok (.iconst 3, 1) := by decide +kernel
theorem dX7_delivers_35 : decode cX7_delivers 35 = .ok (.iadd, 1) := by decide +kernel
theorem dX7_delivers_36 : decode cX7_delivers 36 = .ok (.iaload, 1) := by decide +kernel
theorem dX7_delivers_37 : decode cX7_delivers 37 = .ok (.aload_n 0, 1) := by decide +kernel
theorem dX7_delivers_38 : decode cX7_delivers 38 = .ok (.getfield 7, 3) := by decide +kernel
theorem dX7_delivers_41 : decode cX7_delivers 41 = .ok (.iconst 0, 1) := by decide +kernel
theorem dX7_delivers_42 : decode cX7_delivers 42 = .ok (.iaload, 1) := by decide +kernel
theorem dX7_delivers_43 : decode cX7_delivers 43 = .ok (.if_icmp .ne 12, 3) := by decide +kernel
theorem dX7_delivers_46 : decode cX7_delivers 46 = .ok (.aload_n 0, 1) := by decide +kernel
theorem dX7_delivers_47 : decode cX7_delivers 47 = .ok (.getfield 7, 3) := by decide +kernel
theorem dX7_delivers_50 : decode cX7_delivers 50 = .ok (.iload_n 3, 1) := by decide +kernel
theorem dX7_delivers_51 : decode cX7_delivers 51 = .ok (.iconst 0, 1) := by decide +kernel
theorem dX7_delivers_52 : decode cX7_delivers 52 = .ok (.iadd, 1) := by decide +kernel
theorem dX7_delivers_53 : decode cX7_delivers 53 = .ok (.iconst 2, 1) := by decide +kernel
theorem dX7_delivers_54 : decode cX7_delivers 54 = .ok (.iastore, 1) := by decide +kernel
theorem dX7_delivers_55 : decode cX7_delivers 55 = .ok (.iinc 2 1, 3) := by decide +kernel
theorem dX7_delivers_58 : decode cX7_delivers 58 = .ok (.goto (-56), 3) := by decide +kernel
theorem dX7_delivers_61 : decode cX7_delivers 61 = .ok (.iconst 0, 1) := by decide +kernel
theorem dX7_delivers_62 : decode cX7_delivers 62 = .ok (.istore_n 2, 1) := by decide +kernel
theorem dX7_delivers_63 : decode cX7_delivers 63 = .ok (.aload_n 0, 1) := by decide +kernel
theorem dX7_delivers_64 : decode cX7_delivers 64 = .ok (.iload_n 1, 1) := by decide +kernel
theorem dX7_delivers_65 : decode cX7_delivers 65 = .ok (.invokevirtual 277, 3) := by decide +kernel
theorem dX7_delivers_68 : decode cX7_delivers 68 = .ok (.ifCond .le 142, 3) := by decide +kernel
theorem dX7_delivers_71 : decode cX7_delivers 71 = .ok (.aload_n 0, 1) := by decide +kernel
theorem dX7_delivers_72 : decode cX7_delivers 72 = .ok (.getfield 7, 3) := by decide +kernel
theorem dX7_delivers_75 : decode cX7_delivers 75 = .ok (.iload_n 1, 1) := by decide +kernel
theorem dX7_delivers_76 : decode cX7_delivers 76 = .ok (.iconst 0, 1) := by decide +kernel
theorem dX7_delivers_77 : decode cX7_delivers 77 = .ok (.invokestatic 280, 3) := by decide +kernel
theorem dX7_delivers_80 : decode cX7_delivers 80 = .ok (.iconst 0, 1) := by decide +kernel
theorem dX7_delivers_81 : decode cX7_delivers 81 = .ok (.iadd, 1) := by decide +kernel
theorem dX7_delivers_82 : decode cX7_delivers 82 = .ok (.iaload, 1) := by decide +kernel
theorem dX7_delivers_83 : decode cX7_delivers 83 = .ok (.iconst 2, 1) := by decide +kernel
theorem dX7_delivers_84 : decode cX7_delivers 84 = .ok (.if_icmp .ne 126, 3) := by decide +kernel
theorem dX7_delivers_87 : decode cX7_delivers 87 = .ok (.aload_n 0, 1) := by decide +kernel
theorem dX7_delivers_88 : decode cX7_delivers 88 = .ok (.getfield 7, 3) := by decide +kernel
theorem dX7_delivers_91 : decode cX7_delivers 91 = .ok (.iload_n 1, 1) := by decide +kernel
theorem dX7_delivers_92 : decode cX7_delivers 92 = .ok (.bipush 10, 2) := by decide +kernel
theorem dX7_delivers_94 : decode cX7_delivers 94 = .ok (.invokestatic 249, 3) := by decide +kernel
theorem dX7_delivers_97 : decode cX7_delivers 97 = .ok (.aload_n 0, 1) := by decide +kernel
theorem dX7_delivers_98 : decode cX7_delivers 98 = .ok (.getfield 7, 3) := by decide +kernel
theorem dX7_delivers_101 : decode cX7_delivers 101 = .ok (.iload_n 1, 1) := by decide +kernel
theorem dX7_delivers_102 : decode cX7_delivers 102 = .ok (.iconst 0, 1) := by decide +kernel
theorem dX7_delivers_103 : decode cX7_delivers 103 = .ok (.invokestatic 280, 3) := by decide +kernel
theorem dX7_delivers_106 : decode cX7_delivers 106 = .ok (.iconst 1, 1) := by decide +kernel
theorem dX7_delivers_107 : decode cX7_delivers 107 = .ok (.iadd, 1) := by decide +kernel
theorem dX7_delivers_108 : decode cX7_delivers 108 = .ok (.iaload, 1) := by decide +kernel
theorem dX7_delivers_109 : decode cX7_delivers 109 = .ok (.iastore, 1) := by decide +kernel
theorem dX7_delivers_110 : decode cX7_delivers 110 = .ok (.aload_n 0, 1) := by decide +kernel
theorem dX7_delivers_111 : decode cX7_delivers 111 = .ok (.getfield 7, 3) := by decide +kernel
theorem dX7_delivers_114 : decode cX7_delivers 114 = .ok (.iload_n 1, 1) := by decide +kernel
theorem dX7_delivers_115 : decode cX7_delivers 115 = .ok (.bipush 9, 2) := by decide +kernel
theorem dX7_delivers_117 : decode cX7_delivers 117 = .ok (.invokestatic 249, 3) := by decide +kernel
theorem dX7_delivers_120 : decode cX7_delivers 120 = .ok (.bipush 31, 2) := by decide +kernel
theorem dX7_delivers_122 : decode cX7_delivers 122 = .ok (.aload_n 0, 1) := by decide +kernel
theorem dX7_delivers_123 : decode cX7_delivers 123 = .ok (.getfield 7, 3) := by decide +kernel
theorem dX7_delivers_126 : decode cX7_delivers 126 = .ok (.iload_n 1, 1) := by decide +kernel
theorem dX7_delivers_127 : decode cX7_delivers 127 = .ok (.bipush 9, 2) := by decide +kernel
theorem dX7_delivers_129 : decode cX7_delivers 129 = .ok (.invokestatic 249, 3) := by decide +kernel
theorem dX7_delivers_132 : decode cX7_delivers 132 = .ok (.iaload, 1) := by decide +kernel
theorem dX7_delivers_133 : decode cX7_delivers 133 = .ok (.imul, 1) := by decide +kernel
theorem dX7_delivers_134 : decode cX7_delivers 134 = .ok (.aload_n 0, 1) := by decide +kernel
theorem dX7_delivers_135 : decode cX7_delivers 135 = .ok (.getfield 7, 3) := by decide +kernel
theorem dX7_delivers_138 : decode cX7_delivers 138 = .ok (.iload_n 1, 1) := by decide +kernel
theorem dX7_delivers_139 : decode cX7_delivers 139 = .ok (.iconst 0, 1) := by decide +kernel
theorem dX7_delivers_140 : decode cX7_delivers 140 = .ok (.invokestatic 280, 3) := by decide +kernel
theorem dX7_delivers_143 : decode cX7_delivers 143 = .ok (.iconst 1, 1) := by decide +kernel
theorem dX7_delivers_144 : decode cX7_delivers 144 = .ok (.iadd, 1) := by decide +kernel
theorem dX7_delivers_145 : decode cX7_delivers 145 = .ok (.iaload, 1) := by decide +kernel
theorem dX7_delivers_146 : decode cX7_delivers 146 = .ok (.iadd, 1) := by decide +kernel
theorem dX7_delivers_147 : decode cX7_delivers 147 = .ok (.iastore, 1) := by decide +kernel
theorem dX7_delivers_148 : decode cX7_delivers 148 = .ok (.iload_n 1, 1) := by decide +kernel
theorem dX7_delivers_149 : decode cX7_delivers 149 = .ok (.iconst 0, 1) := by decide +kernel
theorem dX7_delivers_150 : decode cX7_delivers 150 = .ok (.invokestatic 280, 3) := by decide +kernel
theorem dX7_delivers_153 : decode cX7_delivers 153 = .ok (.istore_n 3, 1) := by decide +kernel
theorem dX7_delivers_154 : decode cX7_delivers 154 = .ok (.iload_n 3, 1) := by decide +kernel
theorem dX7_delivers_155 : decode cX7_delivers 155 = .ok (.iload_n 1, 1) := by decide +kernel
theorem dX7_delivers_156 : decode cX7_delivers 156 = .ok (.aload_n 0, 1) := by decide +kernel
theorem dX7_delivers_157 : decode cX7_delivers 157 = .ok (.iload_n 1, 1) := by decide +kernel
theorem dX7_delivers_158 : decode cX7_delivers 158 = .ok (.invokevirtual 277, 3) := by decide +kernel
theorem dX7_delivers_161 : decode cX7_delivers 161 = .ok (.iconst 1, 1) := by decide +kernel
theorem dX7_delivers_162 : decode cX7_delivers 162 = .ok (.isub, 1) := by decide +kernel
theorem dX7_delivers_163 : decode cX7_delivers 163 = .ok (.invokestatic 280, 3) := by decide +kernel
theorem dX7_delivers_166 : decode cX7_delivers 166 = .ok (.if_icmp .ge 23, 3) := by decide +kernel
theorem dX7_delivers_169 : decode cX7_delivers 169 = .ok (.aload_n 0, 1) := by decide +kernel
theorem dX7_delivers_170 : decode cX7_delivers 170 = .ok (.getfield 7, 3) := by decide +kernel
theorem dX7_delivers_173 : decode cX7_delivers 173 = .ok (.iload_n 3, 1) := by decide +kernel
theorem dX7_delivers_174 : decode cX7_delivers 174 = .ok (.aload_n 0, 1) := by decide +kernel
theorem dX7_delivers_175 : decode cX7_delivers 175 = .ok (.getfield 7, 3) := by decide +kernel
theorem dX7_delivers_178 : decode cX7_delivers 178 = .ok (.iload_n 3, 1) := by decide +kernel
theorem dX7_delivers_179 : decode cX7_delivers 179 = .ok (.iconst 5, 1) := by decide +kernel
theorem dX7_delivers_180 : decode cX7_delivers 180 = .ok (.iadd, 1) := by decide +kernel
theorem dX7_delivers_181 : decode cX7_delivers 181 = .ok (.iaload, 1) := by decide +kernel
theorem dX7_delivers_182 : decode cX7_delivers 182 = .ok (.iastore, 1) := by decide +kernel
theorem dX7_delivers_183 : decode cX7_delivers 183 = .ok (.iinc 3 1, 3) := by decide +kernel
theorem dX7_delivers_186 : decode cX7_delivers 186 = .ok (.goto (-32), 3) := by decide +kernel
theorem dX7_delivers_189 : decode cX7_delivers 189 = .ok (.aload_n 0, 1) := by decide +kernel
theorem dX7_delivers_190 : decode cX7_delivers 190 = .ok (.getfield 7, 3) := by decide +kernel
theorem dX7_delivers_193 : decode cX7_delivers 193 = .ok (.iload_n 1, 1) := by decide +kernel
theorem dX7_delivers_194 : decode cX7_delivers 194 = .ok (.bipush 8, 2) := by decide +kernel
theorem dX7_delivers_196 : decode cX7_delivers 196 = .ok (.invokestatic 249, 3) := by decide +kernel
theorem dX7_delivers_199 : decode cX7_delivers 199 = .ok (.dup2, 1) := by decide +kernel
theorem dX7_delivers_200 : decode cX7_delivers 200 = .ok (.iaload, 1) := by decide +kernel
theorem dX7_delivers_201 : decode cX7_delivers 201 = .ok (.iconst 1, 1) := by decide +kernel
theorem dX7_delivers_202 : decode cX7_delivers 202 = .ok (.iadd, 1) := by decide +kernel
theorem dX7_delivers_203 : decode cX7_delivers 203 = .ok (.iastore, 1) := by decide +kernel
theorem dX7_delivers_204 : decode cX7_delivers 204 = .ok (.iinc 2 1, 3) := by decide +kernel
theorem dX7_delivers_207 : decode cX7_delivers 207 = .ok (.goto (-144), 3) := by decide +kernel
theorem dX7_delivers_210 : decode cX7_delivers 210 = .ok (.iload_n 2, 1) := by decide +kernel
theorem dX7_delivers_211 : decode cX7_delivers 211 = .ok (.ireturn, 1) := by decide +kernel
theorem dX7_probes_0 : decode cX7_probes 0 = .ok (.aload_n 0, 1) := by decide +kernel
theorem dX7_probes_1 : decode cX7_probes 1 = .ok (.getfield 7, 3) := by decide +kernel
theorem dX7_probes_4 : decode cX7_probes 4 = .ok (.iload_n 1, 1) := by decide +kernel
theorem dX7_probes_5 : decode cX7_probes 5 = .ok (.iconst 3, 1) := by decide +kernel
theorem dX7_probes_6 : decode cX7_probes 6 = .ok (.invokestatic 249, 3) := by decide +kernel
theorem dX7_probes_9 : decode cX7_probes 9 = .ok (.iaload, 1) := by decide +kernel
theorem dX7_probes_10 : decode cX7_probes 10 = .ok (.bipush 100, 2) := by decide +kernel
theorem dX7_probes_12 : decode cX7_probes 12 = .ok (.if_icmp .eq 35, 3) := by decide +kernel
theorem dX7_probes_15 : decode cX7_probes 15 = .ok (.aload_n 0, 1) := by decide +kernel
theorem dX7_probes_16 : decode cX7_probes 16 = .ok (.getfield 7, 3) := by decide +kernel
theorem dX7_probes_19 : decode cX7_probes 19 = .ok (.iconst 0, 1) := by decide +kernel
theorem dX7_probes_20 : decode cX7_probes 20 = .ok (.iaload, 1) := by decide +kernel
theorem dX7_probes_21 : decode cX7_probes 21 = .ok (.aload_n 0, 1) := by decide +kernel
theorem dX7_probes_22 : decode cX7_probes 22 = .ok (.getfield 7, 3) := by decide +kernel
theorem dX7_probes_25 : decode cX7_probes 25 = .ok (.iload_n 1, 1) := by decide +kernel
theorem dX7_probes_26 : decode cX7_probes 26 = .ok (.bipush 6, 2) := by decide +kernel
theorem dX7_probes_28 : decode cX7_probes 28 = .ok (.invokestatic 249, 3) := by decide +kernel
theorem dX7_probes_31 : decode cX7_probes 31 = .ok (.iaload, 1) := by decide +kernel
theorem dX7_probes_32 : decode cX7_probes 32 = .ok (.isub, 1) := by decide +kernel
theorem dX7_probes_33 : decode cX7_probes 33 = .ok (.aload_n 0, 1) := by decide +kernel
theorem dX7_probes_34 : decode cX7_probes 34 = .ok (.getfield 13, 3) := by decide +kernel
theorem dX7_probes_37 : decode cX7_probes 37 = .ok (.iconst 1, 1) := by decide +kernel
theorem dX7_probes_38 : decode cX7_probes 38 = .ok (.iaload, 1) := by decide +kernel
theorem dX7_probes_39 : decode cX7_probes 39 = .ok (.irem, 1) := by decide +kernel
theorem dX7_probes_40 : decode cX7_probes 40 = .ok (.ifCond .ne 7, 3) := by decide +kernel
theorem dX7_probes_43 : decode cX7_probes 43 = .ok (.iconst 1, 1) := by decide +kernel
theorem dX7_probes_44 : decode cX7_probes 44 = .ok (.goto 4, 3) := by decide +kernel
theorem dX7_probes_47 : decode cX7_probes 47 = .ok (.iconst 0, 1) := by decide +kernel
theorem dX7_probes_48 : decode cX7_probes 48 = .ok (.istore_n 2, 1) := by decide +kernel
theorem dX7_probes_49 : decode cX7_probes 49 = .ok (.iload_n 2, 1) := by decide +kernel
theorem dX7_probes_50 : decode cX7_probes 50 = .ok (.ifCond .ne 4, 3) := by decide +kernel
theorem dX7_probes_53 : decode cX7_probes 53 = .ok (.return_, 1) := by decide +kernel
theorem dX7_probes_54 : decode cX7_probes 54 = .ok (.aload_n 0, 1) := by decide +kernel
theorem dX7_probes_55 : decode cX7_probes 55 = .ok (.getfield 7, 3) := by decide +kernel
theorem dX7_probes_58 : decode cX7_probes 58 = .ok (.iload_n 1, 1) := by decide +kernel
theorem dX7_probes_59 : decode cX7_probes 59 = .ok (.iconst 5, 1) := by decide +kernel
theorem dX7_probes_60 : decode cX7_probes 60 = .ok (.invokestatic 249, 3) := by decide +kernel
theorem dX7_probes_63 : decode cX7_probes 63 = .ok (.aload_n 0, 1) := by decide +kernel
theorem dX7_probes_64 : decode cX7_probes 64 = .ok (.aload_n 0, 1) := by decide +kernel
theorem dX7_probes_65 : decode cX7_probes 65 = .ok (.getfield 7, 3) := by decide +kernel
theorem dX7_probes_68 : decode cX7_probes 68 = .ok (.iload_n 1, 1) := by decide +kernel
theorem dX7_probes_69 : decode cX7_probes 69 = .ok (.iconst 1, 1) := by decide +kernel
theorem dX7_probes_70 : decode cX7_probes 70 = .ok (.invokestatic 249, 3) := by decide +kernel
theorem dX7_probes_73 : decode cX7_probes 73 = .ok (.iaload, 1) := by decide +kernel
theorem dX7_probes_74 : decode cX7_probes 74 = .ok (.aload_n 0, 1) := by decide +kernel
theorem dX7_probes_75 : decode cX7_probes 75 = .ok (.getfield 7, 3) := by decide +kernel
theorem dX7_probes_78 : decode cX7_probes 78 = .ok (.iload_n 1, 1) := by decide +kernel
theorem dX7_probes_79 : decode cX7_probes 79 = .ok (.iconst 2, 1) := by decide +kernel
theorem dX7_probes_80 : decode cX7_probes 80 = .ok (.invokestatic 249, 3) := by decide +kernel
theorem dX7_probes_83 : decode cX7_probes 83 = .ok (.iaload, 1) := by decide +kernel
theorem dX7_probes_84 : decode cX7_probes 84 = .ok (.invokevirtual 243, 3) := by decide +kernel
theorem dX7_probes_87 : decode cX7_probes 87 = .ok (.ifCond .eq 18, 3) := by decide +kernel
theorem dX7_probes_90 : decode cX7_probes 90 = .ok (.aload_n 0, 1) := by decide +kernel
theorem dX7_probes_91 : decode cX7_probes 91 = .ok (.getfield 7, 3) := by decide +kernel
theorem dX7_probes_94 : decode cX7_probes 94 = .ok (.iload_n 1, 1) := by decide +kernel
theorem dX7_probes_95 : decode cX7_probes 95 = .ok (.iconst 5, 1) := by decide +kernel
theorem dX7_probes_96 : decode cX7_probes 96 = .ok (.invokestatic 249, 3) := by decide +kernel
theorem dX7_probes_99 : decode cX7_probes 99 = .ok (.iaload, 1) := by decide +kernel
theorem dX7_probes_100 : decode cX7_probes 100 = .ok (.iconst 1, 1) := by decide +kernel
theorem dX7_probes_101 : decode cX7_probes 101 = .ok (.iadd, 1) := by decide +kernel
theorem dX7_probes_102 : decode cX7_probes 102 = .ok (.goto 4, 3) := by decide +kernel
theorem dX7_probes_105 : decode cX7_probes 105 = .ok (.iconst 0, 1) := by decide +kernel
theorem dX7_probes_106 : decode cX7_probes 106 = .ok (.iastore, 1) := by decide +kernel
theorem dX7_probes_107 : decode cX7_probes 107 = .ok (.aload_n 0, 1) := by decide +kernel
theorem dX7_probes_108 : decode cX7_probes 108 = .ok (.getfield 7, 3) := by decide +kernel
theorem dX7_probes_111 : decode cX7_probes 111 = .ok (.iload_n 1, 1) := by decide +kernel
theorem dX7_probes_112 : decode cX7_probes 112 = .ok (.iconst 5, 1) := by decide +kernel
theorem dX7_probes_113 : decode cX7_probes 113 = .ok (.invokestatic 249, 3) := by decide +kernel
theorem dX7_probes_116 : decode cX7_probes 116 = .ok (.iaload, 1) := by decide +kernel
theorem dX7_probes_117 : decode cX7_probes 117 = .ok (.aload_n 0, 1) := by decide +kernel
theorem dX7_probes_118 : decode cX7_probes 118 = .ok (.getfield 13, 3) := by decide +kernel
theorem dX7_probes_121 : decode cX7_probes 121 = .ok (.iconst 2, 1) := by decide +kernel
theorem dX7_probes_122 : decode cX7_probes 122 = .ok (.iaload, 1) := by decide +kernel
theorem dX7_probes_123 : decode cX7_probes 123 = .ok (.if_icmp .ne 61, 3) := by decide +kernel
theorem dX7_probes_126 : decode cX7_probes 126 = .ok (.aload_n 0, 1) := by decide +kernel
theorem dX7_probes_127 : decode cX7_probes 127 = .ok (.getfield 7, 3) := by decide +kernel
theorem dX7_probes_130 : decode cX7_probes 130 = .ok (.iload_n 1, 1) := by decide +kernel
theorem dX7_probes_131 : decode cX7_probes 131 = .ok (.iconst 3, 1) := by decide +kernel
theorem dX7_probes_132 : decode cX7_probes 132 = .ok (.invokestatic 249, 3) := by decide +kernel
theorem dX7_probes_135 : decode cX7_probes 135 = .ok (.iaload, 1) := by decide +kernel
theorem dX7_probes_136 : decode cX7_probes 136 = .ok (.istore_n 3, 1) := by decide +kernel
theorem dX7_probes_137 : decode cX7_probes 137 = .ok (.aload_n 0, 1) := by decide +kernel
theorem dX7_probes_138 : decode cX7_probes 138 = .ok (.getfield 7, 3) := by decide +kernel
theorem dX7_probes_141 : decode cX7_probes 141 = .ok (.iload_n 1, 1) := by decide +kernel
theorem dX7_probes_142 : decode cX7_probes 142 = .ok (.iconst 5, 1) := by decide +kernel
theorem dX7_probes_143 : decode cX7_probes 143 = .ok (.invokestatic 249, 3) := by decide +kernel
theorem dX7_probes_146 : decode cX7_probes 146 = .ok (.iconst 0, 1) := by decide +kernel
theorem dX7_probes_147 : decode cX7_probes 147 = .ok (.iastore, 1) := by decide +kernel
theorem dX7_probes_148 : decode cX7_probes 148 = .ok (.aload_n 0, 1) := by decide +kernel
theorem dX7_probes_149 : decode cX7_probes 149 = .ok (.getfield 7, 3) := by decide +kernel
theorem dX7_probes_152 : decode cX7_probes 152 = .ok (.iload_n 1, 1) := by decide +kernel
theorem dX7_probes_153 : decode cX7_probes 153 = .ok (.iconst 4, 1) := by decide +kernel
theorem dX7_probes_154 : decode cX7_probes 154 = .ok (.invokestatic 249, 3) := by decide +kernel
theorem dX7_probes_157 : decode cX7_probes 157 = .ok (.iload_n 3, 1) := by decide +kernel
theorem dX7_probes_158 : decode cX7_probes 158 = .ok (.iconst (-1), 1) := by decide +kernel
theorem dX7_probes_159 : decode cX7_probes 159 = .ok (.if_icmp .ne 16, 3) := by decide +kernel
theorem dX7_probes_162 : decode cX7_probes 162 = .ok (.aload_n 0, 1) := by decide +kernel
theorem dX7_probes_163 : decode cX7_probes 163 = .ok (.getfield 7, 3) := by decide +kernel
theorem dX7_probes_166 : decode cX7_probes 166 = .ok (.iload_n 1, 1) := by decide +kernel
theorem dX7_probes_167 : decode cX7_probes 167 = .ok (.iconst 4, 1) := by decide +kernel
theorem dX7_probes_168 : decode cX7_probes 168 = .ok (.invokestatic 249, 3) := by decide +kernel
theorem dX7_probes_171 : decode cX7_probes 171 = .ok (.iaload, 1) := by decide +kernel
theorem dX7_probes_172 : decode cX7_probes 172 = .ok (.goto 4, 3) := by decide +kernel
theorem dX7_probes_175 : decode cX7_probes 175 = .ok (.iload_n 3, 1) := by decide +kernel
theorem dX7_probes_176 : decode cX7_probes 176 = .ok (.iastore, 1) := by decide +kernel
theorem dX7_probes_177 : decode cX7_probes 177 = .ok (.aload_n 0, 1) := by decide +kernel
theorem dX7_probes_178 : decode cX7_probes 178 = .ok (.iload_n 1, 1) := by decide +kernel
theorem dX7_probes_179 : decode cX7_probes 179 = .ok (.bipush 100, 2) := by decide +kernel
theorem dX7_probes_181 : decode cX7_probes 181 = .ok (.invokevirtual 296, 3) := by decide +kernel
theorem dX7_probes_184 : decode cX7_probes 184 = .ok (.return_, 1) := by decide +kernel
theorem dX7_emptiesOld_0 : decode cX7_emptiesOld 0 = .ok (.iconst 0, 1) := by decide +kernel
theorem dX7_emptiesOld_1 : decode cX7_emptiesOld 1 = .ok (.istore_n 2, 1) := by decide +kernel
theorem dX7_emptiesOld_2 : decode cX7_emptiesOld 2 = .ok (.iconst 0, 1) := by decide +kernel
theorem dX7_emptiesOld_3 : decode cX7_emptiesOld 3 = .ok (.istore_n 3, 1) := by decide +kernel
theorem dX7_emptiesOld_4 : decode cX7_emptiesOld 4 = .ok (.iload_n 3, 1) := by decide +kernel
theorem dX7_emptiesOld_5 : decode cX7_emptiesOld 5 = .ok (.aload_n 0, 1) := by decide +kernel
theorem dX7_emptiesOld_6 : decode cX7_emptiesOld 6 = .ok (.iload_n 1, 1) := by decide +kernel
theorem dX7_emptiesOld_7 : decode cX7_emptiesOld 7 = .ok (.invokevirtual 277, 3) := by decide +kernel
theorem dX7_emptiesOld_10 : decode cX7_emptiesOld 10 = .ok (.if_icmp .ge 60, 3) := by decide +kernel
theorem dX7_emptiesOld_13 : decode cX7_emptiesOld 13 = .ok (.iload_n 2, 1) := by decide +kernel
theorem dX7_emptiesOld_14 : decode cX7_emptiesOld 14 = .ok (.ifCond .ne 44, 3) := by decide +kernel
theorem dX7_emptiesOld_17 : decode cX7_emptiesOld 17 = .ok (.aload_n 0, 1) := by decide +kernel
theorem dX7_emptiesOld_18 : decode cX7_emptiesOld 18 = .ok (.getfield 7, 3) := by decide +kernel
theorem dX7_emptiesOld_21 : decode cX7_emptiesOld 21 = .ok (.iload_n 1, 1) := by decide +kernel
theorem dX7_emptiesOld_22 : decode cX7_emptiesOld 22 = .ok (.iload_n 3, 1) := by decide +kernel
theorem dX7_emptiesOld_23 : decode cX7_emptiesOld 23 = .ok (.invokestatic 280, 3) := by decide +kernel
theorem dX7_emptiesOld_26 : decode cX7_emptiesOld 26 = .ok (.iconst 0, 1) := by decide +kernel
theorem dX7_emptiesOld_27 : decode cX7_emptiesOld 27 = .ok (.iadd, 1) := by decide +kernel
theorem dX7_emptiesOld_28 : decode cX7_emptiesOld 28 = .ok (.iaload, 1) := by decide +kernel
theorem dX7_emptiesOld_29 : decode cX7_emptiesOld 29 = .ok (.iconst 1, 1) := by decide +kernel
theorem dX7_emptiesOld_30 : decode cX7_emptiesOld 30 = .ok (.if_icmp .ne 32, 3) := by decide +kernel
theorem dX7_emptiesOld_33 : decode cX7_emptiesOld 33 = .ok (.aload_n 0, 1) := by decide +kernel
theorem dX7_emptiesOld_34 : decode cX7_emptiesOld 34 = .ok (.getfield 7, 3) := by decide +kernel
theorem dX7_emptiesOld_37 : decode cX7_emptiesOld 37 = .ok (.iload_n 1, 1) := by decide +kernel
theorem dX7_emptiesOld_38 : decode cX7_emptiesOld 38 = .ok (.iload_n 3, 1) := by decide +kernel
theorem dX7_emptiesOld_39 : decode cX7_emptiesOld 39 = .ok (.invokestatic 280, 3) := by decide +kernel
theorem dX7_emptiesOld_42 : decode cX7_emptiesOld 42 = .ok (.iconst 4, 1) := by decide +kernel
theorem dX7_emptiesOld_43 : decode cX7_emptiesOld 43 = .ok (.iadd, 1) := by decide +kernel
theorem dX7_emptiesOld_44 : decode cX7_emptiesOld 44 = .ok (.iaload, 1) := by decide +kernel
theorem dX7_emptiesOld_45 : decode cX7_emptiesOld 45 = .ok (.aload_n 0, 1) := by decide +kernel
theorem dX7_emptiesOld_46 : decode cX7_emptiesOld 46 = .ok (.getfield 7, 3) := by decide +kernel
theorem dX7_emptiesOld_49 : decode cX7_emptiesOld 49 = .ok (.iload_n 1, 1) := by decide +kernel
theorem dX7_emptiesOld_50 : decode cX7_emptiesOld 50 = .ok (.iconst 4, 1) := by decide +kernel
theorem dX7_emptiesOld_51 : decode cX7_emptiesOld 51 = .ok (.invokestatic 249, 3) := by decide +kernel
theorem dX7_emptiesOld_54 : decode cX7_emptiesOld 54 = .ok (.iaload, 1) := by decide +kernel
theorem dX7_emptiesOld_55 : decode cX7_emptiesOld 55 = .ok (.if_icmp .ne 7, 3) := by decide +kernel
theorem dX7_emptiesOld_58 : decode cX7_emptiesOld 58 = .ok (.iconst 1, 1) := by decide +kernel
theorem dX7_emptiesOld_59 : decode cX7_emptiesOld 59 = .ok (.goto 4, 3) := by decide +kernel
theorem dX7_emptiesOld_62 : decode cX7_emptiesOld 62 = .ok (.iconst 0, 1) := by decide +kernel
theorem dX7_emptiesOld_63 : decode cX7_emptiesOld 63 = .ok (.istore_n 2, 1) := by decide +kernel
theorem dX7_emptiesOld_64 : decode cX7_emptiesOld 64 = .ok (.iinc 3 1, 3) := by decide +kernel
theorem dX7_emptiesOld_67 : decode cX7_emptiesOld 67 = .ok (.goto (-63), 3) := by decide +kernel
theorem dX7_emptiesOld_70 : decode cX7_emptiesOld 70 = .ok (.aload_n 0, 1) := by decide +kernel
theorem dX7_emptiesOld_71 : decode cX7_emptiesOld 71 = .ok (.getfield 7, 3) := by decide +kernel
theorem dX7_emptiesOld_74 : decode cX7_emptiesOld 74 = .ok (.iload_n 1, 1) := by decide +kernel
theorem dX7_emptiesOld_75 : decode cX7_emptiesOld 75 = .ok (.iconst 4, 1) := by decide +kernel
theorem dX7_emptiesOld_76 : decode cX7_emptiesOld 76 = .ok (.invokestatic 249, 3) := by decide +kernel
theorem dX7_emptiesOld_79 : decode cX7_emptiesOld 79 = .ok (.iload_n 2, 1) := by decide +kernel
theorem dX7_emptiesOld_80 : decode cX7_emptiesOld 80 = .ok (.ifCond .eq 16, 3) := by decide +kernel
theorem dX7_emptiesOld_83 : decode cX7_emptiesOld 83 = .ok (.aload_n 0, 1) := by decide +kernel
theorem dX7_emptiesOld_84 : decode cX7_emptiesOld 84 = .ok (.getfield 7, 3) := by decide +kernel
theorem dX7_emptiesOld_87 : decode cX7_emptiesOld 87 = .ok (.iload_n 1, 1) := by decide +kernel
theorem dX7_emptiesOld_88 : decode cX7_emptiesOld 88 = .ok (.iconst 4, 1) := by decide +kernel
theorem dX7_emptiesOld_89 : decode cX7_emptiesOld 89 = .ok (.invokestatic 249, 3) := by decide +kernel
theorem dX7_emptiesOld_92 : decode cX7_emptiesOld 92 = .ok (.iaload, 1) := by decide +kernel
theorem dX7_emptiesOld_93 : decode cX7_emptiesOld 93 = .ok (.goto 4, 3) := by decide +kernel
theorem dX7_emptiesOld_96 : decode cX7_emptiesOld 96 = .ok (.iconst (-1), 1) := by decide +kernel
theorem dX7_emptiesOld_97 : decode cX7_emptiesOld 97 = .ok (.iastore, 1) := by decide +kernel
theorem dX7_emptiesOld_98 : decode cX7_emptiesOld 98 = .ok (.return_, 1) := by decide +kernel
theorem dX7_ticks_0 : decode cX7_ticks 0 = .ok (.aload_n 0, 1) := by decide +kernel
theorem dX7_ticks_1 : decode cX7_ticks 1 = .ok (.getfield 7, 3) := by decide +kernel
theorem dX7_ticks_4 : decode cX7_ticks 4 = .ok (.iconst 0, 1) := by decide +kernel
theorem dX7_ticks_5 : decode cX7_ticks 5 = .ok (.dup2, 1) := by decide +kernel
theorem dX7_ticks_6 : decode cX7_ticks 6 = .ok (.iaload, 1) := by decide +kernel
theorem dX7_ticks_7 : decode cX7_ticks 7 = .ok (.iconst 1, 1) := by decide +kernel
theorem dX7_ticks_8 : decode cX7_ticks 8 = .ok (.iadd, 1) := by decide +kernel
theorem dX7_ticks_9 : decode cX7_ticks 9 = .ok (.iastore, 1) := by decide +kernel
theorem dX7_ticks_10 : decode cX7_ticks 10 = .ok (.iconst 0, 1) := by decide +kernel
theorem dX7_ticks_11 : decode cX7_ticks 11 = .ok (.istore_n 1, 1) := by decide +kernel
theorem dX7_ticks_12 : decode cX7_ticks 12 = .ok (.iconst 0, 1) := by decide +kernel
theorem dX7_ticks_13 : decode cX7_ticks 13 = .ok (.istore_n 2, 1) := by decide +kernel
theorem dX7_ticks_14 : decode cX7_ticks 14 = .ok (.iload_n 2, 1) := by decide +kernel
theorem dX7_ticks_15 : decode cX7_ticks 15 = .ok (.bipush 6, 2) := by decide +kernel
theorem dX7_ticks_17 : decode cX7_ticks 17 = .ok (.if_icmp .ge 29, 3) := by decide +kernel
theorem dX7_ticks_20 : decode cX7_ticks 20 = .ok (.iload_n 1, 1) := by decide +kernel
theorem dX7_ticks_21 : decode cX7_ticks 21 = .ok (.aload_n 0, 1) := by decide +kernel
theorem dX7_ticks_22 : decode cX7_ticks 22 = .ok (.iload_n 2, 1) := by decide +kernel
theorem dX7_ticks_23 : decode cX7_ticks 23 = .ok (.invokevirtual 253, 3) := by decide +kernel
theorem dX7_ticks_26 : decode cX7_ticks 26 = .ok (.ifCond .eq 11, 3) := by decide +kernel
theorem dX7_ticks_29 : decode cX7_ticks 29 = .ok (.aload_n 0, 1) := by decide +kernel
theorem dX7_ticks_30 : decode cX7_ticks 30 = .ok (.iload_n 2, 1) := by decide +kernel
theorem dX7_ticks_31 : decode cX7_ticks 31 = .ok (.invokevirtual 299, 3) := by decide +kernel
theorem dX7_ticks_34 : decode cX7_ticks 34 = .ok (.goto 4, 3) := by decide +kernel
theorem dX7_ticks_37 : decode cX7_ticks 37 = .ok (.iconst 0, 1) := by decide +kernel
theorem dX7_ticks_38 : decode cX7_ticks 38 = .ok (.iadd, 1) := by decide +kernel
theorem dX7_ticks_39 : decode cX7_ticks 39 = .ok (.istore_n 1, 1) := by decide +kernel
theorem dX7_ticks_40 : decode cX7_ticks 40 = .ok (.iinc 2 1, 3) := by decide +kernel
theorem dX7_ticks_43 : decode cX7_ticks 43 = .ok (.goto (-29), 3) := by decide +kernel
theorem dX7_ticks_46 : decode cX7_ticks 46 = .ok (.iconst 0, 1) := by decide +kernel
theorem dX7_ticks_47 : decode cX7_ticks 47 = .ok (.istore_n 2, 1) := by decide +kernel
theorem dX7_ticks_48 : decode cX7_ticks 48 = .ok (.iload_n 2, 1) := by decide +kernel
theorem dX7_ticks_49 : decode cX7_ticks 49 = .ok (.bipush 6, 2) := by decide +kernel
theorem dX7_ticks_51 : decode cX7_ticks 51 = .ok (.if_icmp .ge 22, 3) := by decide +kernel
theorem dX7_ticks_54 : decode cX7_ticks 54 = .ok (.aload_n 0, 1) := by decide +kernel
theorem dX7_ticks_55 : decode cX7_ticks 55 = .ok (.iload_n 2, 1) := by decide +kernel
theorem dX7_ticks_56 : decode cX7_ticks 56 = .ok (.invokevirtual 253, 3) := by decide +kernel
theorem dX7_ticks_59 : decode cX7_ticks 59 = .ok (.ifCond .eq 8, 3) := by decide +kernel
theorem dX7_ticks_62 : decode cX7_ticks 62 = .ok (.aload_n 0, 1) := by decide +kernel
theorem dX7_ticks_63 : decode cX7_ticks 63 = .ok (.iload_n 2, 1) := by decide +kernel
theorem dX7_ticks_64 : decode cX7_ticks 64 = .ok (.invokevirtual 302, 3) := by decide +kernel
theorem dX7_ticks_67 : decode cX7_ticks 67 = .ok (.iinc 2 1, 3) := by decide +kernel
theorem dX7_ticks_70 : decode cX7_ticks 70 = .ok (.goto (-22), 3) := by decide +kernel
theorem dX7_ticks_73 : decode cX7_ticks 73 = .ok (.iconst 0, 1) := by decide +kernel
theorem dX7_ticks_74 : decode cX7_ticks 74 = .ok (.istore_n 2, 1) := by decide +kernel
theorem dX7_ticks_75 : decode cX7_ticks 75 = .ok (.iload_n 2, 1) := by decide +kernel
theorem dX7_ticks_76 : decode cX7_ticks 76 = .ok (.bipush 6, 2) := by decide +kernel
theorem dX7_ticks_78 : decode cX7_ticks 78 = .ok (.if_icmp .ge 67, 3) := by decide +kernel
theorem dX7_ticks_81 : decode cX7_ticks 81 = .ok (.aload_n 0, 1) := by decide +kernel
theorem dX7_ticks_82 : decode cX7_ticks 82 = .ok (.iload_n 2, 1) := by decide +kernel
theorem dX7_ticks_83 : decode cX7_ticks 83 = .ok (.invokevirtual 253, 3) := by decide +kernel
theorem dX7_ticks_86 : decode cX7_ticks 86 = .ok (.ifCond .eq 53, 3) := by decide +kernel
theorem dX7_ticks_89 : decode cX7_ticks 89 = .ok (.aload_n 0, 1) := by decide +kernel
theorem dX7_ticks_90 : decode cX7_ticks 90 = .ok (.getfield 7, 3) := by decide +kernel
theorem dX7_ticks_93 : decode cX7_ticks 93 = .ok (.iload_n 2, 1) := by decide +kernel
theorem dX7_ticks_94 : decode cX7_ticks 94 = .ok (.iconst 3, 1) := by decide +kernel
theorem dX7_ticks_95 : decode cX7_ticks 95 = .ok (.invokestatic 249, 3) := by decide +kernel
theorem dX7_ticks_98 : decode cX7_ticks 98 = .ok (.iaload, 1) := by decide +kernel
theorem dX7_ticks_99 : decode cX7_ticks 99 = .ok (.iconst (-1), 1) := by decide +kernel
theorem dX7_ticks_100 : decode cX7_ticks 100 = .ok (.if_icmp .ne 39, 3) := by decide +kernel
theorem dX7_ticks_103 : decode cX7_ticks 103 = .ok (.aload_n 0, 1) := by decide +kernel
theorem dX7_ticks_104 : decode cX7_ticks 104 = .ok (.aload_n 0, 1) := by decide +kernel
theorem dX7_ticks_105 : decode cX7_ticks 105 = .ok (.getfield 7, 3) := by decide +kernel
theorem dX7_ticks_108 : decode cX7_ticks 108 = .ok (.iload_n 2, 1) := by decide +kernel
theorem dX7_ticks_109 : decode cX7_ticks 109 = .ok (.iconst 1, 1) := by decide +kernel
theorem dX7_ticks_110 : decode cX7_ticks 110 = .ok (.invokestatic 249, 3) := by decide +kernel
theorem dX7_ticks_113 : decode cX7_ticks 113 = .ok (.iaload, 1) := by decide +kernel
theorem dX7_ticks_114 : decode cX7_ticks 114 = .ok (.aload_n 0, 1) := by decide +kernel
theorem dX7_ticks_115 : decode cX7_ticks 115 = .ok (.getfield 7, 3) := by decide +kernel
theorem dX7_ticks_118 : decode cX7_ticks 118 = .ok (.iload_n 2, 1) := by decide +kernel
theorem dX7_ticks_119 : decode cX7_ticks 119 = .ok (.iconst 2, 1) := by decide +kernel
theorem dX7_ticks_120 : decode cX7_ticks 120 = .ok (.invokestatic 249, 3) := by decide +kernel
theorem dX7_ticks_123 : decode cX7_ticks 123 = .ok (.iaload, 1) := by decide +kernel
theorem dX7_ticks_124 : decode cX7_ticks 124 = .ok (.invokevirtual 262, 3) := by decide +kernel
theorem dX7_ticks_127 : decode cX7_ticks 127 = .ok (.istore_n 3, 1) := by decide +kernel
theorem dX7_ticks_128 : decode cX7_ticks 128 = .ok (.iload_n 3, 1) := by decide +kernel
theorem dX7_ticks_129 : decode cX7_ticks 129 = .ok (.iconst (-1), 1) := by decide +kernel
theorem dX7_ticks_130 : decode cX7_ticks 130 = .ok (.if_icmp .eq 9, 3) := by decide +kernel
theorem dX7_ticks_133 : decode cX7_ticks 133 = .ok (.aload_n 0, 1) := by decide +kernel
theorem dX7_ticks_134 : decode cX7_ticks 134 = .ok (.iload_n 2, 1) := by decide +kernel
theorem dX7_ticks_135 : decode cX7_ticks 135 = .ok (.iload_n 3, 1) := by decide +kernel
theorem dX7_ticks_136 : decode cX7_ticks 136 = .ok (.invokevirtual 296, 3) := by decide +kernel
theorem dX7_ticks_139 : decode cX7_ticks 139 = .ok (.iinc 2 1, 3) := by decide +kernel
theorem dX7_ticks_142 : decode cX7_ticks 142 = .ok (.goto (-67), 3) := by decide +kernel
theorem dX7_ticks_145 : decode cX7_ticks 145 = .ok (.iconst 0, 1) := by decide +kernel
theorem dX7_ticks_146 : decode cX7_ticks 146 = .ok (.istore_n 2, 1) := by decide +kernel
theorem dX7_ticks_147 : decode cX7_ticks 147 = .ok (.iload_n 2, 1) := by decide +kernel
theorem dX7_ticks_148 : decode cX7_ticks 148 = .ok (.bipush 6, 2) := by decide +kernel
theorem dX7_ticks_150 : decode cX7_ticks 150 = .ok (.if_icmp .ge 22, 3) := by decide +kernel
theorem dX7_ticks_153 : decode cX7_ticks 153 = .ok (.aload_n 0, 1) := by decide +kernel
theorem dX7_ticks_154 : decode cX7_ticks 154 = .ok (.iload_n 2, 1) := by decide +kernel
theorem dX7_ticks_155 : decode cX7_ticks 155 = .ok (.invokevirtual 253, 3) := by decide +kernel
theorem dX7_ticks_158 : decode cX7_ticks 158 = .ok (.ifCond .eq 8, 3) := by decide +kernel
theorem dX7_ticks_161 : decode cX7_ticks 161 = .ok (.aload_n 0, 1) := by decide +kernel
theorem dX7_ticks_162 : decode cX7_ticks 162 = .ok (.iload_n 2, 1) := by decide +kernel
theorem dX7_ticks_163 : decode cX7_ticks 163 = .ok (.invokevirtual 305, 3) := by decide +kernel
theorem dX7_ticks_166 : decode cX7_ticks 166 = .ok (.iinc 2 1, 3) := by decide +kernel
theorem dX7_ticks_169 : decode cX7_ticks 169 = .ok (.goto (-22), 3) := by decide +kernel
theorem dX7_ticks_172 : decode cX7_ticks 172 = .ok (.iload_n 1, 1) := by decide +kernel
theorem dX7_ticks_173 : decode cX7_ticks 173 = .ok (.ireturn, 1) := by decide +kernel
theorem dX7_usesLink_0 : decode cX7_usesLink 0 = .ok (.aload_n 0, 1) := by decide +kernel
theorem dX7_usesLink_1 : decode cX7_usesLink 1 = .ok (.getfield 7, 3) := by decide +kernel
theorem dX7_usesLink_4 : decode cX7_usesLink 4 = .ok (.iload_n 1, 1) := by decide +kernel
theorem dX7_usesLink_5 : decode cX7_usesLink 5 = .ok (.iconst 1, 1) := by decide +kernel
theorem dX7_usesLink_6 : decode cX7_usesLink 6 = .ok (.invokestatic 249, 3) := by decide +kernel
theorem dX7_usesLink_9 : decode cX7_usesLink 9 = .ok (.iaload, 1) := by decide +kernel
theorem dX7_usesLink_10 : decode cX7_usesLink 10 = .ok (.istore 5, 2) := by decide +kernel
theorem dX7_usesLink_12 : decode cX7_usesLink 12 = .ok (.aload_n 0, 1) := by decide +kernel
theorem dX7_usesLink_13 : decode cX7_usesLink 13 = .ok (.getfield 7, 3) := by decide +kernel
theorem dX7_usesLink_16 : decode cX7_usesLink 16 = .ok (.iload_n 1, 1) := by decide +kernel
theorem dX7_usesLink_17 : decode cX7_usesLink 17 = .ok (.iconst 2, 1) := by decide +kernel
theorem dX7_usesLink_18 : decode cX7_usesLink 18 = .ok (.invokestatic 249, 3) := by decide +kernel
theorem dX7_usesLink_21 : decode cX7_usesLink 21 = .ok (.iaload, 1) := by decide +kernel
theorem dX7_usesLink_22 : decode cX7_usesLink 22 = .ok (.istore 6, 2) := by decide +kernel
theorem dX7_usesLink_24 : decode cX7_usesLink 24 = .ok (.iload_n 2, 1) := by decide +kernel
theorem dX7_usesLink_25 : decode cX7_usesLink 25 = .ok (.iconst (-1), 1) := by decide +kernel
theorem dX7_usesLink_26 : decode cX7_usesLink 26 = .ok (.if_icmp .ne 5, 3) := by decide +kernel
theorem dX7_usesLink_29 : decode cX7_usesLink 29 = .ok (.iconst 0, 1) := by decide +kernel
theorem dX7_usesLink_30 : decode cX7_usesLink 30 = .ok (.ireturn, 1) := by decide +kernel
theorem dX7_usesLink_31 : decode cX7_usesLink 31 = .ok (.iload_n 2, 1) := by decide +kernel
theorem dX7_usesLink_32 : decode cX7_usesLink 32 = .ok (.bipush 100, 2) := by decide +kernel
theorem dX7_usesLink_34 : decode cX7_usesLink 34 = .ok (.if_icmp .ne 35, 3) := by decide +kernel
theorem dX7_usesLink_37 : decode cX7_usesLink 37 = .ok (.iload 5, 2) := by decide +kernel
theorem dX7_usesLink_39 : decode cX7_usesLink 39 = .ok (.iload_n 3, 1) := by decide +kernel
theorem dX7_usesLink_40 : decode cX7_usesLink 40 = .ok (.if_icmp .ne 10, 3) := by decide +kernel
theorem dX7_usesLink_43 : decode cX7_usesLink 43 = .ok (.iload 6, 2) := by decide +kernel
theorem dX7_usesLink_45 : decode cX7_usesLink 45 = .ok (.iload 4, 2) := by decide +kernel
theorem dX7_usesLink_47 : decode cX7_usesLink 47 = .ok (.if_icmp .eq 16, 3) := by decide +kernel
theorem dX7_usesLink_50 : decode cX7_usesLink 50 = .ok (.iload 5, 2) := by decide +kernel
theorem dX7_usesLink_52 : decode cX7_usesLink 52 = .ok (.iload 4, 2) := by decide +kernel
theorem dX7_usesLink_54 : decode cX7_usesLink 54 = .ok (.if_icmp .ne 13, 3) := by decide +kernel
theorem dX7_usesLink_57 : decode cX7_usesLink 57 = .ok (.iload 6, 2) := by decide +kernel
theorem dX7_usesLink_59 : decode cX7_usesLink 59 = .ok (.iload_n 3, 1) := by decide +kernel
theorem dX7_usesLink_60 : decode cX7_usesLink 60 = .ok (.if_icmp .ne 7, 3) := by decide +kernel
theorem dX7_usesLink_63 : decode cX7_usesLink 63 = .ok (.iconst 1, 1) := by decide +kernel
theorem dX7_usesLink_64 : decode cX7_usesLink 64 = .ok (.goto 4, 3) := by decide +kernel
theorem dX7_usesLink_67 : decode cX7_usesLink 67 = .ok (.iconst 0, 1) := by decide +kernel
theorem dX7_usesLink_68 : decode cX7_usesLink 68 = .ok (.ireturn, 1) := by decide +kernel
theorem dX7_usesLink_69 : decode cX7_usesLink 69 = .ok (.iload_n 2, 1) := by decide +kernel
theorem dX7_usesLink_70 : decode cX7_usesLink 70 = .ok (.iload_n 3, 1) := by decide +kernel
theorem dX7_usesLink_71 : decode cX7_usesLink 71 = .ok (.if_icmp .ne 17, 3) := by decide +kernel
theorem dX7_usesLink_74 : decode cX7_usesLink 74 = .ok (.iload 4, 2) := by decide +kernel
theorem dX7_usesLink_76 : decode cX7_usesLink 76 = .ok (.iload 5, 2) := by decide +kernel
theorem dX7_usesLink_78 : decode cX7_usesLink 78 = .ok (.if_icmp .eq 28, 3) := by decide +kernel
theorem dX7_usesLink_81 : decode cX7_usesLink 81 = .ok (.iload 4, 2) := by decide +kernel
theorem dX7_usesLink_83 : decode cX7_usesLink 83 = .ok (.iload 6, 2) := by decide +kernel
theorem dX7_usesLink_85 : decode cX7_usesLink 85 = .ok (.if_icmp .eq 21, 3) := by decide +kernel
theorem dX7_usesLink_88 : decode cX7_usesLink 88 = .ok (.iload_n 2, 1) := by decide +kernel
theorem dX7_usesLink_89 : decode cX7_usesLink 89 = .ok (.iload 4, 2) := by decide +kernel
theorem dX7_usesLink_91 : decode cX7_usesLink 91 = .ok (.if_icmp .ne 19, 3) := by decide +kernel
theorem dX7_usesLink_94 : decode cX7_usesLink 94 = .ok (.iload_n 3, 1) := by decide +kernel
theorem dX7_usesLink_95 : decode cX7_usesLink 95 = .ok (.iload 5, 2) := by decide +kernel
theorem dX7_usesLink_97 : decode cX7_usesLink 97 = .ok (.if_icmp .eq 9, 3) := by decide +kernel
theorem dX7_usesLink_100 : decode cX7_usesLink 100 = .ok (.iload_n 3, 1) := by decide +kernel
theorem dX7_usesLink_101 : decode cX7_usesLink 101 = .ok (.iload 6, 2) := by decide +kernel
theorem dX7_usesLink_103 : decode cX7_usesLink 103 = .ok (.if_icmp .ne 7, 3) := by decide +kernel
theorem dX7_usesLink_106 : decode cX7_usesLink 106 = .ok (.iconst 1, 1) := by decide +kernel
theorem dX7_usesLink_107 : decode cX7_usesLink 107 = .ok (.goto 4, 3) := by decide +kernel
theorem dX7_usesLink_110 : decode cX7_usesLink 110 = .ok (.iconst 0, 1) := by decide +kernel
theorem dX7_usesLink_111 : decode cX7_usesLink 111 = .ok (.ireturn, 1) := by decide +kernel
theorem dX7_breaks_0 : decode cX7_breaks 0 = .ok (.aload_n 0, 1) := by decide +kernel
theorem dX7_breaks_1 : decode cX7_breaks 1 = .ok (.iload_n 1, 1) := by decide +kernel
theorem dX7_breaks_2 : decode cX7_breaks 2 = .ok (.aload_n 0, 1) := by decide +kernel
theorem dX7_breaks_3 : decode cX7_breaks 3 = .ok (.getfield 7, 3) := by decide +kernel
theorem dX7_breaks_6 : decode cX7_breaks 6 = .ok (.iload_n 1, 1) := by decide +kernel
theorem dX7_breaks_7 : decode cX7_breaks 7 = .ok (.iconst 4, 1) := by decide +kernel
theorem dX7_breaks_8 : decode cX7_breaks 8 = .ok (.invokestatic 249, 3) := by decide +kernel
theorem dX7_breaks_11 : decode cX7_breaks 11 = .ok (.iaload, 1) := by decide +kernel
theorem dX7_breaks_12 : decode cX7_breaks 12 = .ok (.iload_n 2, 1) := by decide +kernel
theorem dX7_breaks_13 : decode cX7_breaks 13 = .ok (.iload_n 3, 1) := by decide +kernel
theorem dX7_breaks_14 : decode cX7_breaks 14 = .ok (.invokevirtual 308, 3) := by decide +kernel
theorem dX7_breaks_17 : decode cX7_breaks 17 = .ok (.ifCond .eq 14, 3) := by decide +kernel
theorem dX7_breaks_20 : decode cX7_breaks 20 = .ok (.aload_n 0, 1) := by decide +kernel
theorem dX7_breaks_21 : decode cX7_breaks 21 = .ok (.getfield 7, 3) := by decide +kernel
theorem dX7_breaks_24 : decode cX7_breaks 24 = .ok (.iload_n 1, 1) := by decide +kernel
theorem dX7_breaks_25 : decode cX7_breaks 25 = .ok (.iconst 4, 1) := by decide +kernel
theorem dX7_breaks_26 : decode cX7_breaks 26 = .ok (.invokestatic 249, 3) := by decide +kernel
theorem dX7_breaks_29 : decode cX7_breaks 29 = .ok (.iconst (-1), 1) := by decide +kernel
theorem dX7_breaks_30 : decode cX7_breaks 30 = .ok (.iastore, 1) := by decide +kernel
theorem dX7_breaks_31 : decode cX7_breaks 31 = .ok (.aload_n 0, 1) := by decide +kernel
theorem dX7_breaks_32 : decode cX7_breaks 32 = .ok (.iload_n 1, 1) := by decide +kernel
theorem dX7_breaks_33 : decode cX7_breaks 33 = .ok (.aload_n 0, 1) := by decide +kernel
theorem dX7_breaks_34 : decode cX7_breaks 34 = .ok (.getfield 7, 3) := by decide +kernel
theorem dX7_breaks_37 : decode cX7_breaks 37 = .ok (.iload_n 1, 1) := by decide +kernel
theorem dX7_breaks_38 : decode cX7_breaks 38 = .ok (.iconst 3, 1) := by decide +kernel
theorem dX7_breaks_39 : decode cX7_breaks 39 = .ok (.invokestatic 249, 3) := by decide +kernel
theorem dX7_breaks_42 : decode cX7_breaks 42 = .ok (.iaload, 1) := by decide +kernel
theorem dX7_breaks_43 : decode cX7_breaks 43 = .ok (.iload_n 2, 1) := by decide +kernel
theorem dX7_breaks_44 : decode cX7_breaks 44 = .ok (.iload_n 3, 1) := by decide +kernel
theorem dX7_breaks_45 : decode cX7_breaks 45 = .ok (.invokevirtual 308, 3) := by decide +kernel
theorem dX7_breaks_48 : decode cX7_breaks 48 = .ok (.ifCond .eq 43, 3) := by decide +kernel
theorem dX7_breaks_51 : decode cX7_breaks 51 = .ok (.aload_n 0, 1) := by decide +kernel
theorem dX7_breaks_52 : decode cX7_breaks 52 = .ok (.getfield 7, 3) := by decide +kernel
theorem dX7_breaks_55 : decode cX7_breaks 55 = .ok (.iload_n 1, 1) := by decide +kernel
theorem dX7_breaks_56 : decode cX7_breaks 56 = .ok (.iconst 5, 1) := by decide +kernel
theorem dX7_breaks_57 : decode cX7_breaks 57 = .ok (.invokestatic 249, 3) := by decide +kernel
theorem dX7_breaks_60 : decode cX7_breaks 60 = .ok (.iconst 0, 1) := by decide +kernel
theorem dX7_breaks_61 : decode cX7_breaks 61 = .ok (.iastore, 1) := by decide +kernel
theorem dX7_breaks_62 : decode cX7_breaks 62 = .ok (.aload_n 0, 1) := by decide +kernel
theorem dX7_breaks_63 : decode cX7_breaks 63 = .ok (.iload_n 1, 1) := by decide +kernel
theorem dX7_breaks_64 : decode cX7_breaks 64 = .ok (.aload_n 0, 1) := by decide +kernel
theorem dX7_breaks_65 : decode cX7_breaks 65 = .ok (.aload_n 0, 1) := by decide +kernel
theorem dX7_breaks_66 : decode cX7_breaks 66 = .ok (.getfield 7, 3) := by decide +kernel
theorem dX7_breaks_69 : decode cX7_breaks 69 = .ok (.iload_n 1, 1) := by decide +kernel
theorem dX7_breaks_70 : decode cX7_breaks 70 = .ok (.iconst 1, 1) := by decide +kernel
theorem dX7_breaks_71 : decode cX7_breaks 71 = .ok (.invokestatic 249, 3) := by decide +kernel
theorem dX7_breaks_74 : decode cX7_breaks 74 = .ok (.iaload, 1) := by decide +kernel
theorem dX7_breaks_75 : decode cX7_breaks 75 = .ok (.aload_n 0, 1) := by decide +kernel
theorem dX7_breaks_76 : decode cX7_breaks 76 = .ok (.getfield 7, 3) := by decide +kernel
theorem dX7_breaks_79 : decode cX7_breaks 79 = .ok (.iload_n 1, 1) := by decide +kernel
theorem dX7_breaks_80 : decode cX7_breaks 80 = .ok (.iconst 2, 1) := by decide +kernel
theorem dX7_breaks_81 : decode cX7_breaks 81 = .ok (.invokestatic 249, 3) := by decide +kernel
theorem dX7_breaks_84 : decode cX7_breaks 84 = .ok (.iaload, 1) := by decide +kernel
theorem dX7_breaks_85 : decode cX7_breaks 85 = .ok (.invokevirtual 262, 3) := by decide +kernel
theorem dX7_breaks_88 : decode cX7_breaks 88 = .ok (.invokevirtual 296, 3) := by decide +kernel
theorem dX7_breaks_91 : decode cX7_breaks 91 = .ok (.iconst 0, 1) := by decide +kernel
theorem dX7_breaks_92 : decode cX7_breaks 92 = .ok (.istore 4, 2) := by decide +kernel
theorem dX7_breaks_94 : decode cX7_breaks 94 = .ok (.iconst 0, 1) := by decide +kernel
theorem dX7_breaks_95 : decode cX7_breaks 95 = .ok (.istore 5, 2) := by decide +kernel
theorem dX7_breaks_97 : decode cX7_breaks 97 = .ok (.iload 5, 2) := by decide +kernel
theorem dX7_breaks_99 : decode cX7_breaks 99 = .ok (.aload_n 0, 1) := by decide +kernel
theorem dX7_breaks_100 : decode cX7_breaks 100 = .ok (.iload_n 1, 1) := by decide +kernel
theorem dX7_breaks_101 : decode cX7_breaks 101 = .ok (.invokevirtual 277, 3) := by decide +kernel
theorem dX7_breaks_104 : decode cX7_breaks 104 = .ok (.if_icmp .ge 59, 3) := by decide +kernel
theorem dX7_breaks_107 : decode cX7_breaks 107 = .ok (.iload_n 1, 1) := by decide +kernel
theorem dX7_breaks_108 : decode cX7_breaks 108 = .ok (.iload 5, 2) := by decide +kernel
theorem dX7_breaks_110 : decode cX7_breaks 110 = .ok (.invokestatic 280, 3) := by decide +kernel
theorem dX7_breaks_113 : decode cX7_breaks 113 = .ok (.istore 6, 2) := by decide +kernel
theorem dX7_breaks_115 : decode cX7_breaks 115 = .ok (.aload_n 0, 1) := by decide +kernel
theorem dX7_breaks_116 : decode cX7_breaks 116 = .ok (.getfield 7, 3) := by decide +kernel
theorem dX7_breaks_119 : decode cX7_breaks 119 = .ok (.iload 6, 2) := by decide +kernel
theorem dX7_breaks_121 : decode cX7_breaks 121 = .ok (.iconst 0, 1) := by decide +kernel
theorem dX7_breaks_122 : decode cX7_breaks 122 = .ok (.iadd, 1) := by decide +kernel
theorem dX7_breaks_123 : decode cX7_breaks 123 = .ok (.iaload, 1) := by decide +kernel
theorem dX7_breaks_124 : decode cX7_breaks 124 = .ok (.iconst 1, 1) := by decide +kernel
theorem dX7_breaks_125 : decode cX7_breaks 125 = .ok (.if_icmp .ne 32, 3) := by decide +kernel
theorem dX7_breaks_128 : decode cX7_breaks 128 = .ok (.aload_n 0, 1) := by decide +kernel
theorem dX7_breaks_129 : decode cX7_breaks 129 = .ok (.iload_n 1, 1) := by decide +kernel
theorem dX7_breaks_130 : decode cX7_breaks 130 = .ok (.aload_n 0, 1) := by decide +kernel
theorem dX7_breaks_131 : decode cX7_breaks 131 = .ok (.getfield 7, 3) := by decide +kernel
theorem dX7_breaks_134 : decode cX7_breaks 134 = .ok (.iload 6, 2) := by decide +kernel
theorem dX7_breaks_136 : decode cX7_breaks 136 = .ok (.iconst 4, 1) := by decide +kernel
theorem dX7_breaks_137 : decode cX7_breaks 137 = .ok (.iadd, 1) := by decide +kernel
theorem dX7_breaks_138 : decode cX7_breaks 138 = .ok (.iaload, 1) := by decide +kernel
theorem dX7_breaks_139 : decode cX7_breaks 139 = .ok (.iload_n 2, 1) := by decide +kernel
theorem dX7_breaks_140 : decode cX7_breaks 140 = .ok (.iload_n 3, 1) := by decide +kernel
theorem dX7_breaks_141 : decode cX7_breaks 141 = .ok (.invokevirtual 308, 3) := by decide +kernel
theorem dX7_breaks_144 : decode cX7_breaks 144 = .ok (.ifCond .eq 13, 3) := by decide +kernel
theorem dX7_breaks_147 : decode cX7_breaks 147 = .ok (.aload_n 0, 1) := by decide +kernel
theorem dX7_breaks_148 : decode cX7_breaks 148 = .ok (.iload_n 1, 1) := by decide +kernel
theorem dX7_breaks_149 : decode cX7_breaks 149 = .ok (.iload 6, 2) := by decide +kernel
theorem dX7_breaks_151 : decode cX7_breaks 151 = .ok (.invokevirtual 292, 3) := by decide +kernel
theorem dX7_breaks_154 : decode cX7_breaks 154 = .ok (.iinc 4 1, 3) := by decide +kernel
theorem dX7_breaks_157 : decode cX7_breaks 157 = .ok (.iinc 5 1, 3) := by decide +kernel
theorem dX7_breaks_160 : decode cX7_breaks 160 = .ok (.goto (-63), 3) := by decide +kernel
theorem dX7_breaks_163 : decode cX7_breaks 163 = .ok (.iload 4, 2) := by decide +kernel
theorem dX7_breaks_165 : decode cX7_breaks 165 = .ok (.ireturn, 1) := by decide +kernel
theorem dX7_ticksToDeliver_0 : decode cX7_ticksToDeliver 0 = .ok (.aload_n 0, 1) := by decide +kernel
theorem dX7_ticksToDeliver_1 : decode cX7_ticksToDeliver 1 = .ok (.iload_n 1, 1) := by decide +kernel
theorem dX7_ticksToDeliver_2 : decode cX7_ticksToDeliver 2 = .ok (.invokevirtual 271, 3) := by decide +kernel
theorem dX7_ticksToDeliver_5 : decode cX7_ticksToDeliver 5 = .ok (.ifCond .eq 5, 3) := by decide +kernel
theorem dX7_ticksToDeliver_8 : decode cX7_ticksToDeliver 8 = .ok (.iconst 0, 1) := by decide +kernel
theorem dX7_ticksToDeliver_9 : decode cX7_ticksToDeliver 9 = .ok (.ireturn, 1) := by decide +kernel
theorem dX7_ticksToDeliver_10 : decode cX7_ticksToDeliver 10 = .ok (.aload_n 0, 1) := by decide +kernel
theorem dX7_ticksToDeliver_11 : decode cX7_ticksToDeliver 11 = .ok (.getfield 7, 3) := by decide +kernel
theorem dX7_ticksToDeliver_14 : decode cX7_ticksToDeliver 14 = .ok (.iconst 0, 1) := by decide +kernel
theorem dX7_ticksToDeliver_15 : decode cX7_ticksToDeliver 15 = .ok (.aload_n 0, 1) := by decide +kernel
theorem dX7_ticksToDeliver_16 : decode cX7_ticksToDeliver 16 = .ok (.getfield 48, 3) := by decide +kernel
theorem dX7_ticksToDeliver_19 : decode cX7_ticksToDeliver 19 = .ok (.iconst 0, 1) := by decide +kernel
theorem dX7_ticksToDeliver_20 : decode cX7_ticksToDeliver 20 = .ok (.sipush 821, 3) := by decide +kernel
theorem dX7_ticksToDeliver_23 : decode cX7_ticksToDeliver 23 = .ok (.invokestatic 312, 3) := by decide +kernel
theorem dX7_ticksToDeliver_26 : decode cX7_ticksToDeliver 26 = .ok (.iconst 0, 1) := by decide +kernel
theorem dX7_ticksToDeliver_27 : decode cX7_ticksToDeliver 27 = .ok (.istore_n 2, 1) := by decide +kernel
theorem dX7_ticksToDeliver_28 : decode cX7_ticksToDeliver 28 = .ok (.iload_n 2, 1) := by decide +kernel
theorem dX7_ticksToDeliver_29 : decode cX7_ticksToDeliver 29 = .ok (.sipush 300, 3) := by decide +kernel
theorem dX7_ticksToDeliver_32 : decode cX7_ticksToDeliver 32 = .ok (.if_icmp .ge 22, 3) := by decide +kernel
theorem dX7_ticksToDeliver_35 : decode cX7_ticksToDeliver 35 = .ok (.aload_n 0, 1) := by decide +kernel
theorem dX7_ticksToDeliver_36 : decode cX7_ticksToDeliver 36 = .ok (.iload_n 1, 1) := by decide +kernel
theorem dX7_ticksToDeliver_37 : decode cX7_ticksToDeliver 37 = .ok (.invokevirtual 277, 3) := by decide +kernel
theorem dX7_ticksToDeliver_40 : decode cX7_ticksToDeliver 40 = .ok (.ifCond .le 14, 3) := by decide +kernel
theorem dX7_ticksToDeliver_43 : decode cX7_ticksToDeliver 43 = .ok (.aload_n 0, 1) := by decide +kernel
theorem dX7_ticksToDeliver_44 : decode cX7_ticksToDeliver 44 = .ok (.invokevirtual 316, 3) := by decide +kernel
theorem dX7_ticksToDeliver_47 : decode cX7_ticksToDeliver 47 = .ok (.pop, 1) := by decide +kernel
theorem dX7_ticksToDeliver_48 : decode cX7_ticksToDeliver 48 = .ok (.iinc 2 1, 3) := by decide +kernel
theorem dX7_ticksToDeliver_51 : decode cX7_ticksToDeliver 51 = .ok (.goto (-23), 3) := by decide +kernel
theorem dX7_ticksToDeliver_54 : decode cX7_ticksToDeliver 54 = .ok (.aload_n 0, 1) := by decide +kernel
theorem dX7_ticksToDeliver_55 : decode cX7_ticksToDeliver 55 = .ok (.iload_n 1, 1) := by decide +kernel
theorem dX7_ticksToDeliver_56 : decode cX7_ticksToDeliver 56 = .ok (.invokevirtual 277, 3) := by decide +kernel
theorem dX7_ticksToDeliver_59 : decode cX7_ticksToDeliver 59 = .ok (.ifCond .ne 7, 3) := by decide +kernel
theorem dX7_ticksToDeliver_62 : decode cX7_ticksToDeliver 62 = .ok (.iconst 1, 1) := by decide +kernel
theorem dX7_ticksToDeliver_63 : decode cX7_ticksToDeliver 63 = .ok (.goto 4, 3) := by decide +kernel
theorem dX7_ticksToDeliver_66 : decode cX7_ticksToDeliver 66 = .ok (.iconst 0, 1) := by decide +kernel
theorem dX7_ticksToDeliver_67 : decode cX7_ticksToDeliver 67 = .ok (.istore_n 3, 1) := by decide +kernel
theorem dX7_ticksToDeliver_68 : decode cX7_ticksToDeliver 68 = .ok (.aload_n 0, 1) := by decide +kernel
theorem dX7_ticksToDeliver_69 : decode cX7_ticksToDeliver 69 = .ok (.getfield 48, 3) := by decide +kernel
theorem dX7_ticksToDeliver_72 : decode cX7_ticksToDeliver 72 = .ok (.iconst 0, 1) := by decide +kernel
theorem dX7_ticksToDeliver_73 : decode cX7_ticksToDeliver 73 = .ok (.aload_n 0, 1) := by decide +kernel
theorem dX7_ticksToDeliver_74 : decode cX7_ticksToDeliver 74 = .ok (.getfield 7, 3) := by decide +kernel
theorem dX7_ticksToDeliver_77 : decode cX7_ticksToDeliver 77 = .ok (.iconst 0, 1) := by decide +kernel
theorem dX7_ticksToDeliver_78 : decode cX7_ticksToDeliver 78 = .ok (.sipush 821, 3) := by decide +kernel
theorem dX7_ticksToDeliver_81 : decode cX7_ticksToDeliver 81 = .ok (.invokestatic 312, 3) := by decide +kernel
theorem dX7_ticksToDeliver_84 : decode cX7_ticksToDeliver 84 = .ok (.iload_n 3, 1) := by decide +kernel
theorem dX7_ticksToDeliver_85 : decode cX7_ticksToDeliver 85 = .ok (.ifCond .eq 7, 3) := by decide +kernel
theorem dX7_ticksToDeliver_88 : decode cX7_ticksToDeliver 88 = .ok (.iload_n 2, 1) := by decide +kernel
theorem dX7_ticksToDeliver_89 : decode cX7_ticksToDeliver 89 = .ok (.goto 4, 3) := by decide +kernel
theorem dX7_ticksToDeliver_92 : decode cX7_ticksToDeliver 92 = .ok (.iconst (-1), 1) := by decide +kernel
theorem dX7_ticksToDeliver_93 : decode cX7_ticksToDeliver 93 = .ok (.ireturn, 1) := by decide +kernel
theorem dX7_ticksToDirect_0 : decode cX7_ticksToDirect 0 = .ok (.aload_n 0, 1) := by decide +kernel
theorem dX7_ticksToDirect_1 : decode cX7_ticksToDirect 1 = .ok (.iload_n 1, 1) := by decide +kernel
theorem dX7_ticksToDirect_2 : decode cX7_ticksToDirect 2 = .ok (.invokevirtual 271, 3) := by decide +kernel
theorem dX7_ticksToDirect_5 : decode cX7_ticksToDirect 5 = .ok (.ifCond .eq 5, 3) := by decide +kernel
theorem dX7_ticksToDirect_8 : decode cX7_ticksToDirect 8 = .ok (.iconst 0, 1) := by decide +kernel
theorem dX7_ticksToDirect_9 : decode cX7_ticksToDirect 9 = .ok (.ireturn, 1) := by decide +kernel
theorem dX7_ticksToDirect_10 : decode cX7_ticksToDirect 10 = .ok (.aload_n 0, 1) := by decide +kernel
theorem dX7_ticksToDirect_11 : decode cX7_ticksToDirect 11 = .ok (.getfield 7, 3) := by decide +kernel
theorem dX7_ticksToDirect_14 : decode cX7_ticksToDirect 14 = .ok (.iconst 0, 1) := by decide +kernel
theorem dX7_ticksToDirect_15 : decode cX7_ticksToDirect 15 = .ok (.aload_n 0, 1) := by decide +kernel
theorem dX7_ticksToDirect_16 : decode cX7_ticksToDirect 16 = .ok (.getfield 48, 3) := by decide +kernel
theorem dX7_ticksToDirect_19 : decode cX7_ticksToDirect 19 = .ok (.iconst 0, 1) := by decide +kernel
theorem dX7_ticksToDirect_20 : decode cX7_ticksToDirect 20 = .ok (.sipush 821, 3) := by decide +kernel
theorem dX7_ticksToDirect_23 : decode cX7_ticksToDirect 23 = .ok (.invokestatic 312, 3) := by decide +kernel
theorem dX7_ticksToDirect_26 : decode cX7_ticksToDirect 26 = .ok (.iconst 0, 1) := by decide +kernel
theorem dX7_ticksToDirect_27 : decode cX7_ticksToDirect 27 = .ok (.istore_n 2, 1) := by decide +kernel
theorem dX7_ticksToDirect_28 : decode cX7_ticksToDirect 28 = .ok (.iload_n 2, 1) := by decide +kernel
theorem dX7_ticksToDirect_29 : decode cX7_ticksToDirect 29 = .ok (.sipush 300, 3) := by decide +kernel
theorem dX7_ticksToDirect_32 : decode cX7_ticksToDirect 32 = .ok (.if_icmp .ge 29, 3) := by decide +kernel
theorem dX7_ticksToDirect_35 : decode cX7_ticksToDirect 35 = .ok (.aload_n 0, 1) := by decide +kernel
theorem dX7_ticksToDirect_36 : decode cX7_ticksToDirect 36 = .ok (.getfield 7, 3) := by decide +kernel
theorem dX7_ticksToDirect_39 : decode cX7_ticksToDirect 39 = .ok (.iload_n 1, 1) := by decide +kernel
theorem dX7_ticksToDirect_40 : decode cX7_ticksToDirect 40 = .ok (.iconst 3, 1) := by decide +kernel
theorem dX7_ticksToDirect_41 : decode cX7_ticksToDirect 41 = .ok (.invokestatic 249, 3) := by decide +kernel
theorem dX7_ticksToDirect_44 : decode cX7_ticksToDirect 44 = .ok (.iaload, 1) := by decide +kernel
theorem dX7_ticksToDirect_45 : decode cX7_ticksToDirect 45 = .ok (.bipush 100, 2) := by decide +kernel
theorem dX7_ticksToDirect_47 : decode cX7_ticksToDirect 47 = .ok (.if_icmp .eq 14, 3) := by decide +kernel
theorem dX7_ticksToDirect_50 : decode cX7_ticksToDirect 50 = .ok (.aload_n 0, 1) := by decide +kernel
theorem dX7_ticksToDirect_51 : decode cX7_ticksToDirect 51 = .ok (.invokevirtual 316, 3) := by decide +kernel
theorem dX7_ticksToDirect_54 : decode cX7_ticksToDirect 54 = .ok (.pop, 1) := by decide +kernel
theorem dX7_ticksToDirect_55 : decode cX7_ticksToDirect 55 = .ok (.iinc 2 1, 3) := by decide +kernel
theorem dX7_ticksToDirect_58 : decode cX7_ticksToDirect 58 = .ok (.goto (-30), 3) := by decide +kernel
theorem dX7_ticksToDirect_61 : decode cX7_ticksToDirect 61 = .ok (.aload_n 0, 1) := by decide +kernel
theorem dX7_ticksToDirect_62 : decode cX7_ticksToDirect 62 = .ok (.getfield 7, 3) := by decide +kernel
theorem dX7_ticksToDirect_65 : decode cX7_ticksToDirect 65 = .ok (.iload_n 1, 1) := by decide +kernel
theorem dX7_ticksToDirect_66 : decode cX7_ticksToDirect 66 = .ok (.iconst 3, 1) := by decide +kernel
theorem dX7_ticksToDirect_67 : decode cX7_ticksToDirect 67 = .ok (.invokestatic 249, 3) := by decide +kernel
theorem dX7_ticksToDirect_70 : decode cX7_ticksToDirect 70 = .ok (.iaload, 1) := by decide +kernel
theorem dX7_ticksToDirect_71 : decode cX7_ticksToDirect 71 = .ok (.bipush 100, 2) := by decide +kernel
theorem dX7_ticksToDirect_73 : decode cX7_ticksToDirect 73 = .ok (.if_icmp .ne 7, 3) := by decide +kernel
theorem dX7_ticksToDirect_76 : decode cX7_ticksToDirect 76 = .ok (.iconst 1, 1) := by decide +kernel
theorem dX7_ticksToDirect_77 : decode cX7_ticksToDirect 77 = .ok (.goto 4, 3) := by decide +kernel
theorem dX7_ticksToDirect_80 : decode cX7_ticksToDirect 80 = .ok (.iconst 0, 1) := by decide +kernel
theorem dX7_ticksToDirect_81 : decode cX7_ticksToDirect 81 = .ok (.istore_n 3, 1) := by decide +kernel
theorem dX7_ticksToDirect_82 : decode cX7_ticksToDirect 82 = .ok (.aload_n 0, 1) := by decide +kernel
theorem dX7_ticksToDirect_83 : decode cX7_ticksToDirect 83 = .ok (.getfield 48, 3) := by decide +kernel
theorem dX7_ticksToDirect_86 : decode cX7_ticksToDirect 86 = .ok (.iconst 0, 1) := by decide +kernel
theorem dX7_ticksToDirect_87 : decode cX7_ticksToDirect 87 = .ok (.aload_n 0, 1) := by decide +kernel
theorem dX7_ticksToDirect_88 : decode cX7_ticksToDirect 88 = .ok (.getfield 7, 3) := by decide +kernel
theorem dX7_ticksToDirect_91 : decode cX7_ticksToDirect 91 = .ok (.iconst 0, 1) := by decide +kernel
theorem dX7_ticksToDirect_92 : decode cX7_ticksToDirect 92 = .ok (.sipush 821, 3) := by decide +kernel
theorem dX7_ticksToDirect_95 : decode cX7_ticksToDirect 95 = .ok (.invokestatic 312, 3) := by decide +kernel
theorem dX7_ticksToDirect_98 : decode cX7_ticksToDirect 98 = .ok (.iload_n 3, 1) := by decide +kernel
theorem dX7_ticksToDirect_99 : decode cX7_ticksToDirect 99 = .ok (.ifCond .eq 7, 3) := by decide +kernel
theorem dX7_ticksToDirect_102 : decode cX7_ticksToDirect 102 = .ok (.iload_n 2, 1) := by decide +kernel
theorem dX7_ticksToDirect_103 : decode cX7_ticksToDirect 103 = .ok (.goto 4, 3) := by decide +kernel
theorem dX7_ticksToDirect_106 : decode cX7_ticksToDirect 106 = .ok (.iconst (-1), 1) := by decide +kernel
theorem dX7_ticksToDirect_107 : decode cX7_ticksToDirect 107 = .ok (.ireturn, 1) := by decide +kernel
theorem dX7_run_0 : decode cX7_run 0 = .ok (.aload_n 0, 1) := by decide +kernel
theorem dX7_run_1 : decode cX7_run 1 = .ok (.iconst 0, 1) := by decide +kernel
theorem dX7_run_2 : decode cX7_run 2 = .ok (.putfield 70, 3) := by decide +kernel
theorem dX7_run_5 : decode cX7_run 5 = .ok (.aload_n 0, 1) := by decide +kernel
theorem dX7_run_6 : decode cX7_run 6 = .ok (.iload_n 1, 1) := by decide +kernel
theorem dX7_run_7 : decode cX7_run 7 = .ok (.iconst 1, 1) := by decide +kernel
theorem dX7_run_8 : decode cX7_run 8 = .ok (.sipush 300, 3) := by decide +kernel
theorem dX7_run_11 : decode cX7_run 11 = .ok (.invokestatic 107, 3) := by decide +kernel
theorem dX7_run_14 : decode cX7_run 14 = .ok (.ifCond .ne 7, 3) := by decide +kernel
theorem dX7_run_17 : decode cX7_run 17 = .ok (.iconst 1, 1) := by decide +kernel
theorem dX7_run_18 : decode cX7_run 18 = .ok (.goto 4, 3) := by decide +kernel
theorem dX7_run_21 : decode cX7_run 21 = .ok (.iconst 0, 1) := by decide +kernel
theorem dX7_run_22 : decode cX7_run 22 = .ok (.iconst 1, 1) := by decide +kernel
theorem dX7_run_23 : decode cX7_run 23 = .ok (.invokevirtual 224, 3) := by decide +kernel
theorem dX7_run_26 : decode cX7_run 26 = .ok (.ifCond .ne 30, 3) := by decide +kernel
theorem dX7_run_29 : decode cX7_run 29 = .ok (.aload_n 0, 1) := by decide +kernel
theorem dX7_run_30 : decode cX7_run 30 = .ok (.aload_n 0, 1) := by decide +kernel
theorem dX7_run_31 : decode cX7_run 31 = .ok (.getfield 7, 3) := by decide +kernel
theorem dX7_run_34 : decode cX7_run 34 = .ok (.iconst 0, 1) := by decide +kernel
theorem dX7_run_35 : decode cX7_run 35 = .ok (.iaload, 1) := by decide +kernel
theorem dX7_run_36 : decode cX7_run 36 = .ok (.iload_n 1, 1) := by decide +kernel
theorem dX7_run_37 : decode cX7_run 37 = .ok (.iadd, 1) := by decide +kernel
theorem dX7_run_38 : decode cX7_run 38 = .ok (.sipush 9999, 3) := by decide +kernel
theorem dX7_run_41 : decode cX7_run 41 = .ok (.if_icmp .le 7, 3) := by decide +kernel
theorem dX7_run_44 : decode cX7_run 44 = .ok (.iconst 1, 1) := by decide +kernel
theorem dX7_run_45 : decode cX7_run 45 = .ok (.goto 4, 3) := by decide +kernel
theorem dX7_run_48 : decode cX7_run 48 = .ok (.iconst 0, 1) := by decide +kernel
theorem dX7_run_49 : decode cX7_run 49 = .ok (.iconst 2, 1) := by decide +kernel
theorem dX7_run_50 : decode cX7_run 50 = .ok (.invokevirtual 224, 3) := by decide +kernel
theorem dX7_run_53 : decode cX7_run 53 = .ok (.ifCond .eq 5, 3) := by decide +kernel
theorem dX7_run_56 : decode cX7_run 56 = .ok (.iconst 0, 1) := by decide +kernel
theorem dX7_run_57 : decode cX7_run 57 = .ok (.ireturn, 1) := by decide +kernel
theorem dX7_run_58 : decode cX7_run 58 = .ok (.aload_n 0, 1) := by decide +kernel
theorem dX7_run_59 : decode cX7_run 59 = .ok (.invokevirtual 319, 3) := by decide +kernel
theorem dX7_run_62 : decode cX7_run 62 = .ok (.iconst 0, 1) := by decide +kernel
theorem dX7_run_63 : decode cX7_run 63 = .ok (.istore_n 2, 1) := by decide +kernel
theorem dX7_run_64 : decode cX7_run 64 = .ok (.iconst 0, 1) := by decide +kernel
theorem dX7_run_65 : decode cX7_run 65 = .ok (.istore_n 3, 1) := by decide +kernel
theorem dX7_run_66 : decode cX7_run 66 = .ok (.iload_n 3, 1) := by decide +kernel
theorem dX7_run_67 : decode cX7_run 67 = .ok (.iload_n 1, 1) := by decide +kernel
theorem dX7_run_68 : decode cX7_run 68 = .ok (.if_icmp .ge 16, 3) := by decide +kernel
theorem dX7_run_71 : decode cX7_run 71 = .ok (.iload_n 2, 1) := by decide +kernel
theorem dX7_run_72 : decode cX7_run 72 = .ok (.aload_n 0, 1) := by decide +kernel
theorem dX7_run_73 : decode cX7_run 73 = .ok (.invokevirtual 316, 3) := by decide +kernel
theorem dX7_run_76 : decode cX7_run 76 = .ok (.iadd, 1) := by decide +kernel
theorem dX7_run_77 : decode cX7_run 77 = .ok (.istore_n 2, 1) := by decide +kernel
theorem dX7_run_78 : decode cX7_run 78 = .ok (.iinc 3 1, 3) := by decide +kernel
theorem dX7_run_81 : decode cX7_run 81 = .ok (.goto (-15), 3) := by decide +kernel
theorem dX7_run_84 : decode cX7_run 84 = .ok (.iload_n 2, 1) := by decide +kernel
theorem dX7_run_85 : decode cX7_run 85 = .ok (.ireturn, 1) := by decide +kernel
theorem dX7_introduce_0 : decode cX7_introduce 0 = .ok (.aload_n 0, 1) := by decide +kernel
theorem dX7_introduce_1 : decode cX7_introduce 1 = .ok (.iload_n 1, 1) := by decide +kernel
theorem dX7_introduce_2 : decode cX7_introduce 2 = .ok (.iload_n 2, 1) := by decide +kernel
theorem dX7_introduce_3 : decode cX7_introduce 3 = .ok (.iload_n 3, 1) := by decide +kernel
theorem dX7_introduce_4 : decode cX7_introduce 4 = .ok (.invokevirtual 265, 3) := by decide +kernel
theorem dX7_introduce_7 : decode cX7_introduce 7 = .ok (.ifCond .ne 43, 3) := by decide +kernel
theorem dX7_introduce_10 : decode cX7_introduce 10 = .ok (.aload_n 0, 1) := by decide +kernel
theorem dX7_introduce_11 : decode cX7_introduce 11 = .ok (.aload_n 0, 1) := by decide +kernel
theorem dX7_introduce_12 : decode cX7_introduce 12 = .ok (.iload_n 1, 1) := by decide +kernel
theorem dX7_introduce_13 : decode cX7_introduce 13 = .ok (.iload_n 2, 1) := by decide +kernel
theorem dX7_introduce_14 : decode cX7_introduce 14 = .ok (.invokevirtual 240, 3) := by decide +kernel
theorem dX7_introduce_17 : decode cX7_introduce 17 = .ok (.ifCond .eq 21, 3) := by decide +kernel
theorem dX7_introduce_20 : decode cX7_introduce 20 = .ok (.aload_n 0, 1) := by decide +kernel
theorem dX7_introduce_21 : decode cX7_introduce 21 = .ok (.iload_n 1, 1) := by decide +kernel
theorem dX7_introduce_22 : decode cX7_introduce 22 = .ok (.iload_n 3, 1) := by decide +kernel
theorem dX7_introduce_23 : decode cX7_introduce 23 = .ok (.invokevirtual 240, 3) := by decide +kernel
theorem dX7_introduce_26 : decode cX7_introduce 26 = .ok (.ifCond .eq 12, 3) := by decide +kernel
theorem dX7_introduce_29 : decode cX7_introduce 29 = .ok (.aload_n 0, 1) := by decide +kernel
theorem dX7_introduce_30 : decode cX7_introduce 30 = .ok (.iload_n 2, 1) := by decide +kernel
theorem dX7_introduce_31 : decode cX7_introduce 31 = .ok (.iload_n 3, 1) := by decide +kernel
theorem dX7_introduce_32 : decode cX7_introduce 32 = .ok (.invokevirtual 240, 3) := by decide +kernel
theorem dX7_introduce_35 : decode cX7_introduce 35 = .ok (.ifCond .eq 7, 3) := by decide +kernel
theorem dX7_introduce_38 : decode cX7_introduce 38 = .ok (.iconst 1, 1) := by decide +kernel
theorem dX7_introduce_39 : decode cX7_introduce 39 = .ok (.goto 4, 3) := by decide +kernel
theorem dX7_introduce_42 : decode cX7_introduce 42 = .ok (.iconst 0, 1) := by decide +kernel
theorem dX7_introduce_43 : decode cX7_introduce 43 = .ok (.iconst 3, 1) := by decide +kernel
theorem dX7_introduce_44 : decode cX7_introduce 44 = .ok (.invokevirtual 224, 3) := by decide +kernel
theorem dX7_introduce_47 : decode cX7_introduce 47 = .ok (.ifCond .eq 5, 3) := by decide +kernel
theorem dX7_introduce_50 : decode cX7_introduce 50 = .ok (.iconst 0, 1) := by decide +kernel
theorem dX7_introduce_51 : decode cX7_introduce 51 = .ok (.ireturn, 1) := by decide +kernel
theorem dX7_introduce_52 : decode cX7_introduce 52 = .ok (.aload_n 0, 1) := by decide +kernel
theorem dX7_introduce_53 : decode cX7_introduce 53 = .ok (.invokevirtual 319, 3) := by decide +kernel
theorem dX7_introduce_56 : decode cX7_introduce 56 = .ok (.aload_n 0, 1) := by decide +kernel
theorem dX7_introduce_57 : decode cX7_introduce 57 = .ok (.getfield 7, 3) := by decide +kernel
theorem dX7_introduce_60 : decode cX7_introduce 60 = .ok (.iconst 1, 1) := by decide +kernel
theorem dX7_introduce_61 : decode cX7_introduce 61 = .ok (.iload_n 2, 1) := by decide +kernel
theorem dX7_introduce_62 : decode cX7_introduce 62 = .ok (.iadd, 1) := by decide +kernel
theorem dX7_introduce_63 : decode cX7_introduce 63 = .ok (.dup2, 1) := by decide +kernel
theorem dX7_introduce_64 : decode cX7_introduce 64 = .ok (.iaload, 1) := by decide +kernel
theorem dX7_introduce_65 : decode cX7_introduce 65 = .ok (.iconst 1, 1) := by decide +kernel
theorem dX7_introduce_66 : decode cX7_introduce 66 = .ok (.iload_n 3, 1) := by decide +kernel
theorem dX7_introduce_67 : decode cX7_introduce 67 = .ok (.ishl, 1) := by decide +kernel
theorem dX7_introduce_68 : decode cX7_introduce 68 = .ok (.ior, 1) := by decide +kernel
theorem dX7_introduce_69 : decode cX7_introduce 69 = .ok (.iastore, 1) := by decide +kernel
theorem dX7_introduce_70 : decode cX7_introduce 70 = .ok (.aload_n 0, 1) := by decide +kernel
theorem dX7_introduce_71 : decode cX7_introduce 71 = .ok (.getfield 7, 3) := by decide +kernel
theorem dX7_introduce_74 : decode cX7_introduce 74 = .ok (.iconst 1, 1) := by decide +kernel
theorem dX7_introduce_75 : decode cX7_introduce 75 = .ok (.iload_n 3, 1) := by decide +kernel
theorem dX7_introduce_76 : decode cX7_introduce 76 = .ok (.iadd, 1) := by decide +kernel
theorem dX7_introduce_77 : decode cX7_introduce 77 = .ok (.dup2, 1) := by decide +kernel
theorem dX7_introduce_78 : decode cX7_introduce 78 = .ok (.iaload, 1) := by decide +kernel
theorem dX7_introduce_79 : decode cX7_introduce 79 = .ok (.iconst 1, 1) := by decide +kernel
theorem dX7_introduce_80 : decode cX7_introduce 80 = .ok (.iload_n 2, 1) := by decide +kernel
theorem dX7_introduce_81 : decode cX7_introduce 81 = .ok (.ishl, 1) := by decide +kernel
theorem dX7_introduce_82 : decode cX7_introduce 82 = .ok (.ior, 1) := by decide +kernel
theorem dX7_introduce_83 : decode cX7_introduce 83 = .ok (.iastore, 1) := by decide +kernel
theorem dX7_introduce_84 : decode cX7_introduce 84 = .ok (.aload_n 0, 1) := by decide +kernel
theorem dX7_introduce_85 : decode cX7_introduce 85 = .ok (.getfield 7, 3) := by decide +kernel
theorem dX7_introduce_88 : decode cX7_introduce 88 = .ok (.iconst 1, 1) := by decide +kernel
theorem dX7_introduce_89 : decode cX7_introduce 89 = .ok (.iload_n 2, 1) := by decide +kernel
theorem dX7_introduce_90 : decode cX7_introduce 90 = .ok (.iadd, 1) := by decide +kernel
theorem dX7_introduce_91 : decode cX7_introduce 91 = .ok (.iaload, 1) := by decide +kernel
theorem dX7_introduce_92 : decode cX7_introduce 92 = .ok (.invokestatic 322, 3) := by decide +kernel
theorem dX7_introduce_95 : decode cX7_introduce 95 = .ok (.ireturn, 1) := by decide +kernel
theorem dX7_open_0 : decode cX7_open 0 = .ok (.aload_n 0, 1) := by decide +kernel
theorem dX7_open_1 : decode cX7_open 1 = .ok (.iload_n 1, 1) := by decide +kernel
theorem dX7_open_2 : decode cX7_open 2 = .ok (.iload_n 2, 1) := by decide +kernel
theorem dX7_open_3 : decode cX7_open 3 = .ok (.invokevirtual 246, 3) := by decide +kernel
theorem dX7_open_6 : decode cX7_open 6 = .ok (.ifCond .eq 5, 3) := by decide +kernel
theorem dX7_open_9 : decode cX7_open 9 = .ok (.iconst 0, 1) := by decide +kernel
theorem dX7_open_10 : decode cX7_open 10 = .ok (.ireturn, 1) := by decide +kernel
theorem dX7_open_11 : decode cX7_open 11 = .ok (.iconst 0, 1) := by decide +kernel
theorem dX7_open_12 : decode cX7_open 12 = .ok (.istore_n 3, 1) := by decide +kernel
theorem dX7_open_13 : decode cX7_open 13 = .ok (.iload_n 3, 1) := by decide +kernel
theorem dX7_open_14 : decode cX7_open 14 = .ok (.bipush 6, 2) := by decide +kernel
theorem dX7_open_16 : decode cX7_open 16 = .ok (.if_icmp .ge 17, 3) := by decide +kernel
theorem dX7_open_19 : decode cX7_open 19 = .ok (.aload_n 0, 1) := by decide +kernel
theorem dX7_open_20 : decode cX7_open 20 = .ok (.iload_n 3, 1) := by decide +kernel
theorem dX7_open_21 : decode cX7_open 21 = .ok (.invokevirtual 253, 3) := by decide +kernel
theorem dX7_open_24 : decode cX7_open 24 = .ok (.ifCond .eq 9, 3) := by decide +kernel
theorem dX7_open_27 : decode cX7_open 27 = .ok (.iinc 3 1, 3) := by decide +kernel
theorem dX7_open_30 : decode cX7_open 30 = .ok (.goto (-17), 3) := by decide +kernel
theorem dX7_open_33 : decode cX7_open 33 = .ok (.aload_n 0, 1) := by decide +kernel
theorem dX7_open_34 : decode cX7_open 34 = .ok (.aload_n 0, 1) := by decide +kernel
theorem dX7_open_35 : decode cX7_open 35 = .ok (.iload_n 1, 1) := by decide +kernel
theorem dX7_open_36 : decode cX7_open 36 = .ok (.iload_n 2, 1) := by decide +kernel
theorem dX7_open_37 : decode cX7_open 37 = .ok (.invokevirtual 240, 3) := by decide +kernel
theorem dX7_open_40 : decode cX7_open 40 = .ok (.ifCond .eq 19, 3) := by decide +kernel
theorem dX7_open_43 : decode cX7_open 43 = .ok (.aload_n 0, 1) := by decide +kernel
theorem dX7_open_44 : decode cX7_open 44 = .ok (.iload_n 1, 1) := by decide +kernel
theorem dX7_open_45 : decode cX7_open 45 = .ok (.iload_n 2, 1) := by decide +kernel
theorem dX7_open_46 : decode cX7_open 46 = .ok (.invokevirtual 268, 3) := by decide +kernel
theorem dX7_open_49 : decode cX7_open 49 = .ok (.iconst (-1), 1) := by decide +kernel
theorem dX7_open_50 : decode cX7_open 50 = .ok (.if_icmp .ne 9, 3) := by decide +kernel
theorem dX7_open_53 : decode cX7_open 53 = .ok (.iload_n 3, 1) := by decide +kernel
theorem dX7_open_54 : decode cX7_open 54 = .ok (.bipush 6, 2) := by decide +kernel
theorem dX7_open_56 : decode cX7_open 56 = .ok (.if_icmp .ne 7, 3) := by decide +kernel
theorem dX7_open_59 : decode cX7_open 59 = .ok (.iconst 1, 1) := by decide +kernel
theorem dX7_open_60 : decode cX7_open 60 = .ok (.goto 4, 3) := by decide +kernel
theorem dX7_open_63 : decode cX7_open 63 = .ok (.iconst 0, 1) := by decide +kernel
theorem dX7_open_64 : decode cX7_open 64 = .ok (.iconst 3, 1) := by decide +kernel
theorem dX7_open_65 : decode cX7_open 65 = .ok (.invokevirtual 224, 3) := by decide +kernel
theorem dX7_open_68 : decode cX7_open 68 = .ok (.ifCond .eq 5, 3) := by decide +kernel
theorem dX7_open_71 : decode cX7_open 71 = .ok (.iconst 0, 1) := by decide +kernel
theorem dX7_open_72 : decode cX7_open 72 = .ok (.ireturn, 1) := by decide +kernel
theorem dX7_open_73 : decode cX7_open 73 = .ok (.aload_n 0, 1) := by decide +kernel
theorem dX7_open_74 : decode cX7_open 74 = .ok (.invokevirtual 319, 3) := by decide +kernel
theorem dX7_open_77 : decode cX7_open 77 = .ok (.aload_n 0, 1) := by decide +kernel
theorem dX7_open_78 : decode cX7_open 78 = .ok (.iload_n 1, 1) := by decide +kernel
theorem dX7_open_79 : decode cX7_open 79 = .ok (.iload_n 2, 1) := by decide +kernel
theorem dX7_open_80 : decode cX7_open 80 = .ok (.invokevirtual 262, 3) := by decide +kernel
theorem dX7_open_83 : decode cX7_open 83 = .ok (.istore 4, 2) := by decide +kernel
theorem dX7_open_85 : decode cX7_open 85 = .ok (.iconst 0, 1) := by decide +kernel
theorem dX7_open_86 : decode cX7_open 86 = .ok (.istore 5, 2) := by decide +kernel
theorem dX7_open_88 : decode cX7_open 88 = .ok (.iload 5, 2) := by decide +kernel
theorem dX7_open_90 : decode cX7_open 90 = .ok (.sipush 134, 3) := by decide +kernel
theorem dX7_open_93 : decode cX7_open 93 = .ok (.if_icmp .ge 21, 3) := by decide +kernel
theorem dX7_open_96 : decode cX7_open 96 = .ok (.aload_n 0, 1) := by decide +kernel
theorem dX7_open_97 : decode cX7_open 97 = .ok (.getfield 7, 3) := by decide +kernel
theorem dX7_open_100 : decode cX7_open 100 = .ok (.iload_n 3, 1) := by decide +kernel
theorem dX7_open_101 : decode cX7_open 101 = .ok (.iload 5, 2) := by decide +kernel
theorem dX7_open_103 : decode cX7_open 103 = .ok (.invokestatic 249, 3) := by decide +kernel
theorem dX7_open_106 : decode cX7_open 106 = .ok (.iconst 0, 1) := by decide +kernel
theorem dX7_open_107 : decode cX7_open 107 = .ok (.iastore, 1) := by decide +kernel
theorem dX7_open_108 : decode cX7_open 108 = .ok (.iinc 5 1, 3) := by decide +kernel
theorem dX7_open_111 : decode cX7_open 111 = .ok (.goto (-23), 3) := by decide +kernel
theorem dX7_open_114 : decode cX7_open 114 = .ok (.aload_n 0, 1) := by decide +kernel
theorem dX7_open_115 : decode cX7_open 115 = .ok (.getfield 7, 3) := by decide +kernel
theorem dX7_open_118 : decode cX7_open 118 = .ok (.iload_n 3, 1) := by decide +kernel
theorem dX7_open_119 : decode cX7_open 119 = .ok (.iconst 0, 1) := by decide +kernel
theorem dX7_open_120 : decode cX7_open 120 = .ok (.invokestatic 249, 3) := by decide +kernel
theorem dX7_open_123 : decode cX7_open 123 = .ok (.iconst 1, 1) := by decide +kernel
theorem dX7_open_124 : decode cX7_open 124 = .ok (.iastore, 1) := by decide +kernel
theorem dX7_open_125 : decode cX7_open 125 = .ok (.aload_n 0, 1) := by decide +kernel
theorem dX7_open_126 : decode cX7_open 126 = .ok (.getfield 7, 3) := by decide +kernel
theorem dX7_open_129 : decode cX7_open 129 = .ok (.iload_n 3, 1) := by decide +kernel
theorem dX7_open_130 : decode cX7_open 130 = .ok (.iconst 1, 1) := by decide +kernel
theorem dX7_open_131 : decode cX7_open 131 = .ok (.invokestatic 249, 3) := by decide +kernel
theorem dX7_open_134 : decode cX7_open 134 = .ok (.iload_n 1, 1) := by decide +kernel
theorem dX7_open_135 : decode cX7_open 135 = .ok (.iastore, 1) := by decide +kernel
theorem dX7_open_136 : decode cX7_open 136 = .ok (.aload_n 0, 1) := by decide +kernel
theorem dX7_open_137 : decode cX7_open 137 = .ok (.getfield 7, 3) := by decide +kernel
theorem dX7_open_140 : decode cX7_open 140 = .ok (.iload_n 3, 1) := by decide +kernel
theorem dX7_open_141 : decode cX7_open 141 = .ok (.iconst 2, 1) := by decide +kernel
theorem dX7_open_142 : decode cX7_open 142 = .ok (.invokestatic 249, 3) := by decide +kernel
theorem dX7_open_145 : decode cX7_open 145 = .ok (.iload_n 2, 1) := by decide +kernel
theorem dX7_open_146 : decode cX7_open 146 = .ok (.iastore, 1) := by decide +kernel
theorem dX7_open_147 : decode cX7_open 147 = .ok (.aload_n 0, 1) := by decide +kernel
theorem dX7_open_148 : decode cX7_open 148 = .ok (.getfield 7, 3) := by decide +kernel
theorem dX7_open_151 : decode cX7_open 151 = .ok (.iload_n 3, 1) := by decide +kernel
theorem dX7_open_152 : decode cX7_open 152 = .ok (.iconst 3, 1) := by decide +kernel
theorem dX7_open_153 : decode cX7_open 153 = .ok (.invokestatic 249, 3) := by decide +kernel
theorem dX7_open_156 : decode cX7_open 156 = .ok (.iload 4, 2) := by decide +kernel
theorem dX7_open_158 : decode cX7_open 158 = .ok (.iastore, 1) := by decide +kernel
theorem dX7_open_159 : decode cX7_open 159 = .ok (.aload_n 0, 1) := by decide +kernel
theorem dX7_open_160 : decode cX7_open 160 = .ok (.getfield 7, 3) := by decide +kernel
theorem dX7_open_163 : decode cX7_open 163 = .ok (.iload_n 3, 1) := by decide +kernel
theorem dX7_open_164 : decode cX7_open 164 = .ok (.iconst 4, 1) := by decide +kernel
theorem dX7_open_165 : decode cX7_open 165 = .ok (.invokestatic 249, 3) := by decide +kernel
theorem dX7_open_168 : decode cX7_open 168 = .ok (.iconst (-1), 1) := by decide +kernel
theorem dX7_open_169 : decode cX7_open 169 = .ok (.iastore, 1) := by decide +kernel
theorem dX7_open_170 : decode cX7_open 170 = .ok (.aload_n 0, 1) := by decide +kernel
theorem dX7_open_171 : decode cX7_open 171 = .ok (.getfield 7, 3) := by decide +kernel
theorem dX7_open_174 : decode cX7_open 174 = .ok (.iload_n 3, 1) := by decide +kernel
theorem dX7_open_175 : decode cX7_open 175 = .ok (.bipush 6, 2) := by decide +kernel
theorem dX7_open_177 : decode cX7_open 177 = .ok (.invokestatic 249, 3) := by decide +kernel
theorem dX7_open_180 : decode cX7_open 180 = .ok (.aload_n 0, 1) := by decide +kernel
theorem dX7_open_181 : decode cX7_open 181 = .ok (.getfield 7, 3) := by decide +kernel
theorem dX7_open_184 : decode cX7_open 184 = .ok (.iconst 0, 1) := by decide +kernel
theorem dX7_open_185 : decode cX7_open 185 = .ok (.iaload, 1) := by decide +kernel
theorem dX7_open_186 : decode cX7_open 186 = .ok (.iastore, 1) := by decide +kernel
theorem dX7_open_187 : decode cX7_open 187 = .ok (.iload_n 3, 1) := by decide +kernel
theorem dX7_open_188 : decode cX7_open 188 = .ok (.ireturn, 1) := by decide +kernel
theorem dX7_send_0 : decode cX7_send 0 = .ok (.aload_n 0, 1) := by decide +kernel
theorem dX7_send_1 : decode cX7_send 1 = .ok (.iload_n 1, 1) := by decide +kernel
theorem dX7_send_2 : decode cX7_send 2 = .ok (.invokevirtual 271, 3) := by decide +kernel
theorem dX7_send_5 : decode cX7_send 5 = .ok (.ifCond .ne 26, 3) := by decide +kernel
theorem dX7_send_8 : decode cX7_send 8 = .ok (.aload_n 0, 1) := by decide +kernel
theorem dX7_send_9 : decode cX7_send 9 = .ok (.aload_n 0, 1) := by decide +kernel
theorem dX7_send_10 : decode cX7_send 10 = .ok (.iload_n 1, 1) := by decide +kernel
theorem dX7_send_11 : decode cX7_send 11 = .ok (.invokevirtual 277, 3) := by decide +kernel
theorem dX7_send_14 : decode cX7_send 14 = .ok (.bipush 24, 2) := by decide +kernel
theorem dX7_send_16 : decode cX7_send 16 = .ok (.if_icmp .ne 7, 3) := by decide +kernel
theorem dX7_send_19 : decode cX7_send 19 = .ok (.iconst 1, 1) := by decide +kernel
theorem dX7_send_20 : decode cX7_send 20 = .ok (.goto 4, 3) := by decide +kernel
theorem dX7_send_23 : decode cX7_send 23 = .ok (.iconst 0, 1) := by decide +kernel
theorem dX7_send_24 : decode cX7_send 24 = .ok (.iconst 2, 1) := by decide +kernel
theorem dX7_send_25 : decode cX7_send 25 = .ok (.invokevirtual 224, 3) := by decide +kernel
theorem dX7_send_28 : decode cX7_send 28 = .ok (.ifCond .eq 5, 3) := by decide +kernel
theorem dX7_send_31 : decode cX7_send 31 = .ok (.iconst 0, 1) := by decide +kernel
theorem dX7_send_32 : decode cX7_send 32 = .ok (.ireturn, 1) := by decide +kernel
theorem dX7_send_33 : decode cX7_send 33 = .ok (.aload_n 0, 1) := by decide +kernel
theorem dX7_send_34 : decode cX7_send 34 = .ok (.invokevirtual 319, 3) := by decide +kernel
theorem dX7_send_37 : decode cX7_send 37 = .ok (.aload_n 0, 1) := by decide +kernel
theorem dX7_send_38 : decode cX7_send 38 = .ok (.getfield 7, 3) := by decide +kernel
theorem dX7_send_41 : decode cX7_send 41 = .ok (.iload_n 1, 1) := by decide +kernel
theorem dX7_send_42 : decode cX7_send 42 = .ok (.bipush 12, 2) := by decide +kernel
theorem dX7_send_44 : decode cX7_send 44 = .ok (.invokestatic 249, 3) := by decide +kernel
theorem dX7_send_47 : decode cX7_send 47 = .ok (.iaload, 1) := by decide +kernel
theorem dX7_send_48 : decode cX7_send 48 = .ok (.aload_n 0, 1) := by decide +kernel
theorem dX7_send_49 : decode cX7_send 49 = .ok (.getfield 13, 3) := by decide +kernel
theorem dX7_send_52 : decode cX7_send 52 = .ok (.iconst 3, 1) := by decide +kernel
theorem dX7_send_53 : decode cX7_send 53 = .ok (.iaload, 1) := by decide +kernel
theorem dX7_send_54 : decode cX7_send 54 = .ok (.if_icmp .ne 8, 3) := by decide +kernel
theorem dX7_send_57 : decode cX7_send 57 = .ok (.aload_n 0, 1) := by decide +kernel
theorem dX7_send_58 : decode cX7_send 58 = .ok (.iload_n 1, 1) := by decide +kernel
theorem dX7_send_59 : decode cX7_send 59 = .ok (.invokevirtual 289, 3) := by decide +kernel
theorem dX7_send_62 : decode cX7_send 62 = .ok (.iload_n 1, 1) := by decide +kernel
theorem dX7_send_63 : decode cX7_send 63 = .ok (.aload_n 0, 1) := by decide +kernel
theorem dX7_send_64 : decode cX7_send 64 = .ok (.iload_n 1, 1) := by decide +kernel
theorem dX7_send_65 : decode cX7_send 65 = .ok (.invokevirtual 277, 3) := by decide +kernel
theorem dX7_send_68 : decode cX7_send 68 = .ok (.invokestatic 280, 3) := by decide +kernel
theorem dX7_send_71 : decode cX7_send 71 = .ok (.istore_n 3, 1) := by decide +kernel
theorem dX7_send_72 : decode cX7_send 72 = .ok (.aload_n 0, 1) := by decide +kernel
theorem dX7_send_73 : decode cX7_send 73 = .ok (.getfield 7, 3) := by decide +kernel
theorem dX7_send_76 : decode cX7_send 76 = .ok (.iload_n 3, 1) := by decide +kernel
theorem dX7_send_77 : decode cX7_send 77 = .ok (.iconst 1, 1) := by decide +kernel
theorem dX7_send_78 : decode cX7_send 78 = .ok (.iadd, 1) := by decide +kernel
theorem dX7_send_79 : decode cX7_send 79 = .ok (.iload_n 2, 1) := by decide +kernel
theorem dX7_send_80 : decode cX7_send 80 = .ok (.iastore, 1) := by decide +kernel
theorem dX7_send_81 : decode cX7_send 81 = .ok (.aload_n 0, 1) := by decide +kernel
theorem dX7_send_82 : decode cX7_send 82 = .ok (.getfield 7, 3) := by decide +kernel
theorem dX7_send_85 : decode cX7_send 85 = .ok (.iload_n 3, 1) := by decide +kernel
theorem dX7_send_86 : decode cX7_send 86 = .ok (.iconst 2, 1) := by decide +kernel
theorem dX7_send_87 : decode cX7_send 87 = .ok (.iadd, 1) := by decide +kernel
theorem dX7_send_88 : decode cX7_send 88 = .ok (.aload_n 0, 1) := by decide +kernel
theorem dX7_send_89 : decode cX7_send 89 = .ok (.getfield 7, 3) := by decide +kernel
theorem dX7_send_92 : decode cX7_send 92 = .ok (.iload_n 1, 1) := by decide +kernel
theorem dX7_send_93 : decode cX7_send 93 = .ok (.bipush 11, 2) := by decide +kernel
theorem dX7_send_95 : decode cX7_send 95 = .ok (.invokestatic 249, 3) := by decide +kernel
theorem dX7_send_98 : decode cX7_send 98 = .ok (.iaload, 1) := by decide +kernel
theorem dX7_send_99 : decode cX7_send 99 = .ok (.iastore, 1) := by decide +kernel
theorem dX7_send_100 : decode cX7_send 100 = .ok (.aload_n 0, 1) := by decide +kernel
theorem dX7_send_101 : decode cX7_send 101 = .ok (.iload_n 1, 1) := by decide +kernel
theorem dX7_send_102 : decode cX7_send 102 = .ok (.iload_n 3, 1) := by decide +kernel
theorem dX7_send_103 : decode cX7_send 103 = .ok (.invokevirtual 292, 3) := by decide +kernel
theorem dX7_send_106 : decode cX7_send 106 = .ok (.aload_n 0, 1) := by decide +kernel
theorem dX7_send_107 : decode cX7_send 107 = .ok (.getfield 7, 3) := by decide +kernel
theorem dX7_send_110 : decode cX7_send 110 = .ok (.iload_n 1, 1) := by decide +kernel
theorem dX7_send_111 : decode cX7_send 111 = .ok (.bipush 12, 2) := by decide +kernel
theorem dX7_send_113 : decode cX7_send 113 = .ok (.invokestatic 249, 3) := by decide +kernel
theorem dX7_send_116 : decode cX7_send 116 = .ok (.dup2, 1) := by decide +kernel
theorem dX7_send_117 : decode cX7_send 117 = .ok (.iaload, 1) := by decide +kernel
theorem dX7_send_118 : decode cX7_send 118 = .ok (.iconst 1, 1) := by decide +kernel
theorem dX7_send_119 : decode cX7_send 119 = .ok (.iadd, 1) := by decide +kernel
theorem dX7_send_120 : decode cX7_send 120 = .ok (.iastore, 1) := by decide +kernel
theorem dX7_send_121 : decode cX7_send 121 = .ok (.aload_n 0, 1) := by decide +kernel
theorem dX7_send_122 : decode cX7_send 122 = .ok (.getfield 7, 3) := by decide +kernel
theorem dX7_send_125 : decode cX7_send 125 = .ok (.iload_n 1, 1) := by decide +kernel
theorem dX7_send_126 : decode cX7_send 126 = .ok (.bipush 7, 2) := by decide +kernel
theorem dX7_send_128 : decode cX7_send 128 = .ok (.invokestatic 249, 3) := by decide +kernel
theorem dX7_send_131 : decode cX7_send 131 = .ok (.dup2, 1) := by decide +kernel
theorem dX7_send_132 : decode cX7_send 132 = .ok (.iaload, 1) := by decide +kernel
theorem dX7_send_133 : decode cX7_send 133 = .ok (.iconst 1, 1) := by decide +kernel
theorem dX7_send_134 : decode cX7_send 134 = .ok (.iadd, 1) := by decide +kernel
theorem dX7_send_135 : decode cX7_send 135 = .ok (.iastore, 1) := by decide +kernel
theorem dX7_send_136 : decode cX7_send 136 = .ok (.aload_n 0, 1) := by decide +kernel
theorem dX7_send_137 : decode cX7_send 137 = .ok (.getfield 7, 3) := by decide +kernel
theorem dX7_send_140 : decode cX7_send 140 = .ok (.iload_n 1, 1) := by decide +kernel
theorem dX7_send_141 : decode cX7_send 141 = .ok (.bipush 7, 2) := by decide +kernel
theorem dX7_send_143 : decode cX7_send 143 = .ok (.invokestatic 249, 3) := by decide +kernel
theorem dX7_send_146 : decode cX7_send 146 = .ok (.iaload, 1) := by decide +kernel
theorem dX7_send_147 : decode cX7_send 147 = .ok (.iconst 1, 1) := by decide +kernel
theorem dX7_send_148 : decode cX7_send 148 = .ok (.isub, 1) := by decide +kernel
theorem dX7_send_149 : decode cX7_send 149 = .ok (.ireturn, 1) := by decide +kernel
theorem dX7_setLink_0 : decode cX7_setLink 0 = .ok (.aload_n 0, 1) := by decide +kernel
theorem dX7_setLink_1 : decode cX7_setLink 1 = .ok (.iload_n 1, 1) := by decide +kernel
theorem dX7_setLink_2 : decode cX7_setLink 2 = .ok (.iload_n 2, 1) := by decide +kernel
theorem dX7_setLink_3 : decode cX7_setLink 3 = .ok (.invokevirtual 246, 3) := by decide +kernel
theorem dX7_setLink_6 : decode cX7_setLink 6 = .ok (.ifCond .ne 40, 3) := by decide +kernel
theorem dX7_setLink_9 : decode cX7_setLink 9 = .ok (.aload_n 0, 1) := by decide +kernel
theorem dX7_setLink_10 : decode cX7_setLink 10 = .ok (.aload_n 0, 1) := by decide +kernel
theorem dX7_setLink_11 : decode cX7_setLink 11 = .ok (.getfield 22, 3) := by decide +kernel
theorem dX7_setLink_14 : decode cX7_setLink 14 = .ok (.bipush 8, 2) := by decide +kernel
theorem dX7_setLink_16 : decode cX7_setLink 16 = .ok (.iload_n 1, 1) := by decide +kernel
theorem dX7_setLink_17 : decode cX7_setLink 17 = .ok (.imul, 1) := by decide +kernel
theorem dX7_setLink_18 : decode cX7_setLink 18 = .ok (.iload_n 2, 1) := by decide +kernel
theorem dX7_setLink_19 : decode cX7_setLink 19 = .ok (.iadd, 1) := by decide +kernel
theorem dX7_setLink_20 : decode cX7_setLink 20 = .ok (.iaload, 1) := by decide +kernel
theorem dX7_setLink_21 : decode cX7_setLink 21 = .ok (.ifCond .eq 13, 3) := by decide +kernel
theorem dX7_setLink_24 : decode cX7_setLink 24 = .ok (.aload_n 0, 1) := by decide +kernel
theorem dX7_setLink_25 : decode cX7_setLink 25 = .ok (.iload_n 1, 1) := by decide +kernel
theorem dX7_setLink_26 : decode cX7_setLink 26 = .ok (.iload_n 2, 1) := by decide +kernel
theorem dX7_setLink_27 : decode cX7_setLink 27 = .ok (.invokevirtual 243, 3) := by decide +kernel
theorem dX7_setLink_30 : decode cX7_setLink 30 = .ok (.iload_n 3, 1) := by decide +kernel
theorem dX7_setLink_31 : decode cX7_setLink 31 = .ok (.if_icmp .ne 7, 3) := by decide +kernel
theorem dX7_setLink_34 : decode cX7_setLink 34 = .ok (.iconst 1, 1) := by decide +kernel
theorem dX7_setLink_35 : decode cX7_setLink 35 = .ok (.goto 4, 3) := by decide +kernel
theorem dX7_setLink_38 : decode cX7_setLink 38 = .ok (.iconst 0, 1) := by decide +kernel
theorem dX7_setLink_39 : decode cX7_setLink 39 = .ok (.iconst 3, 1) := by decide +kernel
theorem dX7_setLink_40 : decode cX7_setLink 40 = .ok (.invokevirtual 224, 3) := by decide +kernel
theorem dX7_setLink_43 : decode cX7_setLink 43 = .ok (.ifCond .eq 5, 3) := by decide +kernel
theorem dX7_setLink_46 : decode cX7_setLink 46 = .ok (.iconst 0, 1) := by decide +kernel
theorem dX7_setLink_47 : decode cX7_setLink 47 = .ok (.ireturn, 1) := by decide +kernel
theorem dX7_setLink_48 : decode cX7_setLink 48 = .ok (.aload_n 0, 1) := by decide +kernel
theorem dX7_setLink_49 : decode cX7_setLink 49 = .ok (.invokevirtual 319, 3) := by decide +kernel
theorem dX7_setLink_52 : decode cX7_setLink 52 = .ok (.aload_n 0, 1) := by decide +kernel
theorem dX7_setLink_53 : decode cX7_setLink 53 = .ok (.getfield 7, 3) := by decide +kernel
theorem dX7_setLink_56 : decode cX7_setLink 56 = .ok (.bipush 9, 2) := by decide +kernel
theorem dX7_setLink_58 : decode cX7_setLink 58 = .ok (.iload_n 1, 1) := by decide +kernel
theorem dX7_setLink_59 : decode cX7_setLink 59 = .ok (.iadd, 1) := by decide +kernel
theorem dX7_setLink_60 : decode cX7_setLink 60 = .ok (.dup2, 1) := by decide +kernel
theorem dX7_setLink_61 : decode cX7_setLink 61 = .ok (.iaload, 1) := by decide +kernel
theorem dX7_setLink_62 : decode cX7_setLink 62 = .ok (.iconst 1, 1) := by decide +kernel
theorem dX7_setLink_63 : decode cX7_setLink 63 = .ok (.iload_n 2, 1) := by decide +kernel
theorem dX7_setLink_64 : decode cX7_setLink 64 = .ok (.ishl, 1) := by decide +kernel
theorem dX7_setLink_65 : decode cX7_setLink 65 = .ok (.ixor, 1) := by decide +kernel
theorem dX7_setLink_66 : decode cX7_setLink 66 = .ok (.iastore, 1) := by decide +kernel
theorem dX7_setLink_67 : decode cX7_setLink 67 = .ok (.aload_n 0, 1) := by decide +kernel
theorem dX7_setLink_68 : decode cX7_setLink 68 = .ok (.getfield 7, 3) := by decide +kernel
theorem dX7_setLink_71 : decode cX7_setLink 71 = .ok (.bipush 9, 2) := by decide +kernel
theorem dX7_setLink_73 : decode cX7_setLink 73 = .ok (.iload_n 2, 1) := by decide +kernel
theorem dX7_setLink_74 : decode cX7_setLink 74 = .ok (.iadd, 1) := by decide +kernel
theorem dX7_setLink_75 : decode cX7_setLink 75 = .ok (.dup2, 1) := by decide +kernel
theorem dX7_setLink_76 : decode cX7_setLink 76 = .ok (.iaload, 1) := by decide +kernel
theorem dX7_setLink_77 : decode cX7_setLink 77 = .ok (.iconst 1, 1) := by decide +kernel
theorem dX7_setLink_78 : decode cX7_setLink 78 = .ok (.iload_n 1, 1) := by decide +kernel
theorem dX7_setLink_79 : decode cX7_setLink 79 = .ok (.ishl, 1) := by decide +kernel
theorem dX7_setLink_80 : decode cX7_setLink 80 = .ok (.ixor, 1) := by decide +kernel
theorem dX7_setLink_81 : decode cX7_setLink 81 = .ok (.iastore, 1) := by decide +kernel
theorem dX7_setLink_82 : decode cX7_setLink 82 = .ok (.iconst 0, 1) := by decide +kernel
theorem dX7_setLink_83 : decode cX7_setLink 83 = .ok (.istore 4, 2) := by decide +kernel
theorem dX7_setLink_85 : decode cX7_setLink 85 = .ok (.iconst 0, 1) := by decide +kernel
theorem dX7_setLink_86 : decode cX7_setLink 86 = .ok (.istore 5, 2) := by decide +kernel
theorem dX7_setLink_88 : decode cX7_setLink 88 = .ok (.iload 5, 2) := by decide +kernel
theorem dX7_setLink_90 : decode cX7_setLink 90 = .ok (.bipush 6, 2) := by decide +kernel
theorem dX7_setLink_92 : decode cX7_setLink 92 = .ok (.if_icmp .ge 39, 3) := by decide +kernel
theorem dX7_setLink_95 : decode cX7_setLink 95 = .ok (.iload_n 3, 1) := by decide +kernel
theorem dX7_setLink_96 : decode cX7_setLink 96 = .ok (.ifCond .ne 35, 3) := by decide +kernel
theorem dX7_setLink_99 : decode cX7_setLink 99 = .ok (.iload 4, 2) := by decide +kernel
theorem dX7_setLink_101 : decode cX7_setLink 101 = .ok (.aload_n 0, 1) := by decide +kernel
theorem dX7_setLink_102 : decode cX7_setLink 102 = .ok (.iload 5, 2) := by decide +kernel
theorem dX7_setLink_104 : decode cX7_setLink 104 = .ok (.invokevirtual 253, 3) := by decide +kernel
theorem dX7_setLink_107 : decode cX7_setLink 107 = .ok (.ifCond .eq 14, 3) := by decide +kernel
theorem dX7_setLink_110 : decode cX7_setLink 110 = .ok (.aload_n 0, 1) := by decide +kernel
theorem dX7_setLink_111 : decode cX7_setLink 111 = .ok (.iload 5, 2) := by decide +kernel
theorem dX7_setLink_113 : decode cX7_setLink 113 = .ok (.iload_n 1, 1) := by decide +kernel
theorem dX7_setLink_114 : decode cX7_setLink 114 = .ok (.iload_n 2, 1) := by decide +kernel
theorem dX7_setLink_115 : decode cX7_setLink 115 = .ok (.invokevirtual 325, 3) := by decide +kernel
theorem dX7_setLink_118 : decode cX7_setLink 118 = .ok (.goto 4, 3) := by decide +kernel
theorem dX7_setLink_121 : decode cX7_setLink 121 = .ok (.iconst 0, 1) := by decide +kernel
theorem dX7_setLink_122 : decode cX7_setLink 122 = .ok (.iadd, 1) := by decide +kernel
theorem dX7_setLink_123 : decode cX7_setLink 123 = .ok (.istore 4, 2) := by decide +kernel
theorem dX7_setLink_125 : decode cX7_setLink 125 = .ok (.iinc 5 1, 3) := by decide +kernel
theorem dX7_setLink_128 : decode cX7_setLink 128 = .ok (.goto (-40), 3) := by decide +kernel
theorem dX7_setLink_131 : decode cX7_setLink 131 = .ok (.iload 4, 2) := by decide +kernel
theorem dX7_setLink_133 : decode cX7_setLink 133 = .ok (.ireturn, 1) := by decide +kernel
theorem dX7_close_0 : decode cX7_close 0 = .ok (.aload_n 0, 1) := by decide +kernel
theorem dX7_close_1 : decode cX7_close 1 = .ok (.iload_n 1, 1) := by decide +kernel
theorem dX7_close_2 : decode cX7_close 2 = .ok (.invokevirtual 271, 3) := by decide +kernel
theorem dX7_close_5 : decode cX7_close 5 = .ok (.ifCond .ne 24, 3) := by decide +kernel
theorem dX7_close_8 : decode cX7_close 8 = .ok (.aload_n 0, 1) := by decide +kernel
theorem dX7_close_9 : decode cX7_close 9 = .ok (.aload_n 0, 1) := by decide +kernel
theorem dX7_close_10 : decode cX7_close 10 = .ok (.iload_n 1, 1) := by decide +kernel
theorem dX7_close_11 : decode cX7_close 11 = .ok (.invokevirtual 277, 3) := by decide +kernel
theorem dX7_close_14 : decode cX7_close 14 = .ok (.ifCond .le 7, 3) := by decide +kernel
theorem dX7_close_17 : decode cX7_close 17 = .ok (.iconst 1, 1) := by decide +kernel
theorem dX7_close_18 : decode cX7_close 18 = .ok (.goto 4, 3) := by decide +kernel
theorem dX7_close_21 : decode cX7_close 21 = .ok (.iconst 0, 1) := by decide +kernel
theorem dX7_close_22 : decode cX7_close 22 = .ok (.iconst 2, 1) := by decide +kernel
theorem dX7_close_23 : decode cX7_close 23 = .ok (.invokevirtual 224, 3) := by decide +kernel
theorem dX7_close_26 : decode cX7_close 26 = .ok (.ifCond .eq 5, 3) := by decide +kernel
theorem dX7_close_29 : decode cX7_close 29 = .ok (.iconst 0, 1) := by decide +kernel
theorem dX7_close_30 : decode cX7_close 30 = .ok (.ireturn, 1) := by decide +kernel
theorem dX7_close_31 : decode cX7_close 31 = .ok (.aload_n 0, 1) := by decide +kernel
theorem dX7_close_32 : decode cX7_close 32 = .ok (.invokevirtual 319, 3) := by decide +kernel
theorem dX7_close_35 : decode cX7_close 35 = .ok (.aload_n 0, 1) := by decide +kernel
theorem dX7_close_36 : decode cX7_close 36 = .ok (.getfield 7, 3) := by decide +kernel
theorem dX7_close_39 : decode cX7_close 39 = .ok (.iload_n 1, 1) := by decide +kernel
theorem dX7_close_40 : decode cX7_close 40 = .ok (.iconst 0, 1) := by decide +kernel
theorem dX7_close_41 : decode cX7_close 41 = .ok (.invokestatic 249, 3) := by decide +kernel
theorem dX7_close_44 : decode cX7_close 44 = .ok (.iconst 0, 1) := by decide +kernel
theorem dX7_close_45 : decode cX7_close 45 = .ok (.iastore, 1) := by decide +kernel
theorem dX7_close_46 : decode cX7_close 46 = .ok (.aload_n 0, 1) := by decide +kernel
theorem dX7_close_47 : decode cX7_close 47 = .ok (.getfield 7, 3) := by decide +kernel
theorem dX7_close_50 : decode cX7_close 50 = .ok (.iload_n 1, 1) := by decide +kernel
theorem dX7_close_51 : decode cX7_close 51 = .ok (.bipush 7, 2) := by decide +kernel
theorem dX7_close_53 : decode cX7_close 53 = .ok (.invokestatic 249, 3) := by decide +kernel
theorem dX7_close_56 : decode cX7_close 56 = .ok (.iaload, 1) := by decide +kernel
theorem dX7_close_57 : decode cX7_close 57 = .ok (.ireturn, 1) := by decide +kernel
theorem dX7_copies_0 : decode cX7_copies 0 = .ok (.iconst 0, 1) := by decide +kernel
theorem dX7_copies_1 : decode cX7_copies 1 = .ok (.istore 5, 2) := by decide +kernel
theorem dX7_copies_3 : decode cX7_copies 3 = .ok (.iload 5, 2) := by decide +kernel
theorem dX7_copies_5 : decode cX7_copies 5 = .ok (.iload 4, 2) := by decide +kernel
theorem dX7_copies_7 : decode cX7_copies 7 = .ok (.if_icmp .ge 21, 3) := by decide +kernel
theorem dX7_copies_10 : decode cX7_copies 10 = .ok (.aload_n 2, 1) := by decide +kernel
theorem dX7_copies_11 : decode cX7_copies 11 = .ok (.iload_n 3, 1) := by decide +kernel
theorem dX7_copies_12 : decode cX7_copies 12 = .ok (.iload 5, 2) := by decide +kernel
theorem dX7_copies_14 : decode cX7_copies 14 = .ok (.iadd, 1) := by decide +kernel
theorem dX7_copies_15 : decode cX7_copies 15 = .ok (.aload_n 0, 1) := by decide +kernel
theorem dX7_copies_16 : decode cX7_copies 16 = .ok (.iload_n 1, 1) := by decide +kernel
theorem dX7_copies_17 : decode cX7_copies 17 = .ok (.iload 5, 2) := by decide +kernel
theorem dX7_copies_19 : decode cX7_copies 19 = .ok (.iadd, 1) := by decide +kernel
theorem dX7_copies_20 : decode cX7_copies 20 = .ok (.iaload, 1) := by decide +kernel
theorem dX7_copies_21 : decode cX7_copies 21 = .ok (.iastore, 1) := by decide +kernel
theorem dX7_copies_22 : decode cX7_copies 22 = .ok (.iinc 5 1, 3) := by decide +kernel
theorem dX7_copies_25 : decode cX7_copies 25 = .ok (.goto (-22), 3) := by decide +kernel
theorem dX7_copies_28 : decode cX7_copies 28 = .ok (.return_, 1) := by decide +kernel
theorem dX7_keeps_0 : decode cX7_keeps 0 = .ok (.aload_n 0, 1) := by decide +kernel
theorem dX7_keeps_1 : decode cX7_keeps 1 = .ok (.getfield 231, 3) := by decide +kernel
theorem dX7_keeps_4 : decode cX7_keeps 4 = .ok (.bipush 10, 2) := by decide +kernel
theorem dX7_keeps_6 : decode cX7_keeps 6 = .ok (.if_icmp .ne 36, 3) := by decide +kernel
theorem dX7_keeps_9 : decode cX7_keeps 9 = .ok (.aload_n 0, 1) := by decide +kernel
theorem dX7_keeps_10 : decode cX7_keeps 10 = .ok (.dup, 1) := by decide +kernel
theorem dX7_keeps_11 : decode cX7_keeps 11 = .ok (.getfield 231, 3) := by decide +kernel
theorem dX7_keeps_14 : decode cX7_keeps 14 = .ok (.iconst 1, 1) := by decide +kernel
theorem dX7_keeps_15 : decode cX7_keeps 15 = .ok (.isub, 1) := by decide +kernel
theorem dX7_keeps_16 : decode cX7_keeps 16 = .ok (.putfield 231, 3) := by decide +kernel
theorem dX7_keeps_19 : decode cX7_keeps 19 = .ok (.aload_n 0, 1) := by decide +kernel
theorem dX7_keeps_20 : decode cX7_keeps 20 = .ok (.getfield 51, 3) := by decide +kernel
theorem dX7_keeps_23 : decode cX7_keeps 23 = .ok (.sipush 821, 3) := by decide +kernel
theorem dX7_keeps_26 : decode cX7_keeps 26 = .ok (.aload_n 0, 1) := by decide +kernel
theorem dX7_keeps_27 : decode cX7_keeps 27 = .ok (.getfield 51, 3) := by decide +kernel
theorem dX7_keeps_30 : decode cX7_keeps 30 = .ok (.iconst 0, 1) := by decide +kernel
theorem dX7_keeps_31 : decode cX7_keeps 31 = .ok (.sipush 821, 3) := by decide +kernel
theorem dX7_keeps_34 : decode cX7_keeps 34 = .ok (.aload_n 0, 1) := by decide +kernel
theorem dX7_keeps_35 : decode cX7_keeps 35 = .ok (.getfield 231, 3) := by decide +kernel
theorem dX7_keeps_38 : decode cX7_keeps 38 = .ok (.imul, 1) := by decide +kernel
theorem dX7_keeps_39 : decode cX7_keeps 39 = .ok (.invokestatic 312, 3) := by decide +kernel
theorem dX7_keeps_42 : decode cX7_keeps 42 = .ok (.aload_n 0, 1) := by decide +kernel
theorem dX7_keeps_43 : decode cX7_keeps 43 = .ok (.getfield 7, 3) := by decide +kernel
theorem dX7_keeps_46 : decode cX7_keeps 46 = .ok (.iconst 0, 1) := by decide +kernel
theorem dX7_keeps_47 : decode cX7_keeps 47 = .ok (.aload_n 0, 1) := by decide +kernel
theorem dX7_keeps_48 : decode cX7_keeps 48 = .ok (.getfield 51, 3) := by decide +kernel
theorem dX7_keeps_51 : decode cX7_keeps 51 = .ok (.sipush 821, 3) := by decide +kernel
theorem dX7_keeps_54 : decode cX7_keeps 54 = .ok (.aload_n 0, 1) := by decide +kernel
theorem dX7_keeps_55 : decode cX7_keeps 55 = .ok (.getfield 231, 3) := by decide +kernel
theorem dX7_keeps_58 : decode cX7_keeps 58 = .ok (.imul, 1) := by decide +kernel
theorem dX7_keeps_59 : decode cX7_keeps 59 = .ok (.sipush 821, 3) := by decide +kernel
theorem dX7_keeps_62 : decode cX7_keeps 62 = .ok (.invokestatic 312, 3) := by decide +kernel
theorem dX7_keeps_65 : decode cX7_keeps 65 = .ok (.aload_n 0, 1) := by decide +kernel
theorem dX7_keeps_66 : decode cX7_keeps 66 = .ok (.dup, 1) := by decide +kernel
theorem dX7_keeps_67 : decode cX7_keeps 67 = .ok (.getfield 231, 3) := by decide +kernel
theorem dX7_keeps_70 : decode cX7_keeps 70 = .ok (.iconst 1, 1) := by decide +kernel
theorem dX7_keeps_71 : decode cX7_keeps 71 = .ok (.iadd, 1) := by decide +kernel
theorem dX7_keeps_72 : decode cX7_keeps 72 = .ok (.putfield 231, 3) := by decide +kernel
theorem dX7_keeps_75 : decode cX7_keeps 75 = .ok (.return_, 1) := by decide +kernel
theorem dX7_undo_0 : decode cX7_undo 0 = .ok (.aload_n 0, 1) := by decide +kernel
theorem dX7_undo_1 : decode cX7_undo 1 = .ok (.iconst 0, 1) := by decide +kernel
theorem dX7_undo_2 : decode cX7_undo 2 = .ok (.putfield 70, 3) := by decide +kernel
theorem dX7_undo_5 : decode cX7_undo 5 = .ok (.aload_n 0, 1) := by decide +kernel
theorem dX7_undo_6 : decode cX7_undo 6 = .ok (.getfield 231, 3) := by decide +kernel
theorem dX7_undo_9 : decode cX7_undo 9 = .ok (.ifCond .ne 5, 3) := by decide +kernel
theorem dX7_undo_12 : decode cX7_undo 12 = .ok (.iconst (-1), 1) := by decide +kernel
theorem dX7_undo_13 : decode cX7_undo 13 = .ok (.ireturn, 1) := by decide +kernel
theorem dX7_undo_14 : decode cX7_undo 14 = .ok (.aload_n 0, 1) := by decide +kernel
theorem dX7_undo_15 : decode cX7_undo 15 = .ok (.dup, 1) := by decide +kernel
theorem dX7_undo_16 : decode cX7_undo 16 = .ok (.getfield 231, 3) := by decide +kernel
theorem dX7_undo_19 : decode cX7_undo 19 = .ok (.iconst 1, 1) := by decide +kernel
theorem dX7_undo_20 : decode cX7_undo 20 = .ok (.isub, 1) := by decide +kernel
theorem dX7_undo_21 : decode cX7_undo 21 = .ok (.putfield 231, 3) := by decide +kernel
theorem dX7_undo_24 : decode cX7_undo 24 = .ok (.aload_n 0, 1) := by decide +kernel
theorem dX7_undo_25 : decode cX7_undo 25 = .ok (.getfield 51, 3) := by decide +kernel
theorem dX7_undo_28 : decode cX7_undo 28 = .ok (.sipush 821, 3) := by decide +kernel
theorem dX7_undo_31 : decode cX7_undo 31 = .ok (.aload_n 0, 1) := by decide +kernel
theorem dX7_undo_32 : decode cX7_undo 32 = .ok (.getfield 231, 3) := by decide +kernel
theorem dX7_undo_35 : decode cX7_undo 35 = .ok (.imul, 1) := by decide +kernel
theorem dX7_undo_36 : decode cX7_undo 36 = .ok (.aload_n 0, 1) := by decide +kernel
theorem dX7_undo_37 : decode cX7_undo 37 = .ok (.getfield 7, 3) := by decide +kernel
theorem dX7_undo_40 : decode cX7_undo 40 = .ok (.iconst 0, 1) := by decide +kernel
theorem dX7_undo_41 : decode cX7_undo 41 = .ok (.sipush 821, 3) := by decide +kernel
theorem dX7_undo_44 : decode cX7_undo 44 = .ok (.invokestatic 312, 3) := by decide +kernel
theorem dX7_undo_47 : decode cX7_undo 47 = .ok (.aload_n 0, 1) := by decide +kernel
theorem dX7_undo_48 : decode cX7_undo 48 = .ok (.getfield 231, 3) := by decide +kernel
theorem dX7_undo_51 : decode cX7_undo 51 = .ok (.ireturn, 1) := by decide +kernel
theorem dX7_noSlot_0 : decode cX7_noSlot 0 = .ok (.aload_n 0, 1) := by decide +kernel
theorem dX7_noSlot_1 : decode cX7_noSlot 1 = .ok (.iconst 0, 1) := by decide +kernel
theorem dX7_noSlot_2 : decode cX7_noSlot 2 = .ok (.putfield 70, 3) := by decide +kernel
theorem dX7_noSlot_5 : decode cX7_noSlot 5 = .ok (.aload_n 0, 1) := by decide +kernel
theorem dX7_noSlot_6 : decode cX7_noSlot 6 = .ok (.iload_n 1, 1) := by decide +kernel
theorem dX7_noSlot_7 : decode cX7_noSlot 7 = .ok (.iconst 2, 1) := by decide +kernel
theorem dX7_noSlot_8 : decode cX7_noSlot 8 = .ok (.invokevirtual 234, 3) := by decide +kernel
theorem dX7_noSlot_11 : decode cX7_noSlot 11 = .ok (.ireturn, 1) := by decide +kernel
theorem dX7_saveSnapshot_0 : decode cX7_saveSnapshot 0 = .ok (.aload_n 0, 1) := by decide +kernel
theorem dX7_saveSnapshot_1 : decode cX7_saveSnapshot 1 = .ok (.iload_n 1, 1) := by decide +kernel
theorem dX7_saveSnapshot_2 : decode cX7_saveSnapshot 2 = .ok (.invokevirtual 328, 3) := by decide +kernel
theorem dX7_saveSnapshot_5 : decode cX7_saveSnapshot 5 = .ok (.ifCond .eq 5, 3) := by decide +kernel
theorem dX7_saveSnapshot_8 : decode cX7_saveSnapshot 8 = .ok (.iconst 0, 1) := by decide +kernel
theorem dX7_saveSnapshot_9 : decode cX7_saveSnapshot 9 = .ok (.ireturn, 1) := by decide +kernel
theorem dX7_saveSnapshot_10 : decode cX7_saveSnapshot 10 = .ok (.aload_n 0, 1) := by decide +kernel
theorem dX7_saveSnapshot_11 : decode cX7_saveSnapshot 11 = .ok (.getfield 57, 3) := by decide +kernel
theorem dX7_saveSnapshot_14 : decode cX7_saveSnapshot 14 = .ok (.iload_n 1, 1) := by decide +kernel
theorem dX7_saveSnapshot_15 : decode cX7_saveSnapshot 15 = .ok (.baload, 1) := by decide +kernel
theorem dX7_saveSnapshot_16 : decode cX7_saveSnapshot 16 = .ok (.istore_n 2, 1) := by decide +kernel
theorem dX7_saveSnapshot_17 : decode cX7_saveSnapshot 17 = .ok (.aload_n 0, 1) := by decide +kernel
theorem dX7_saveSnapshot_18 : decode cX7_saveSnapshot 18 = .ok (.getfield 7, 3) := by decide +kernel
theorem dX7_saveSnapshot_21 : decode cX7_saveSnapshot 21 = .ok (.iconst 0, 1) := by decide +kernel
theorem dX7_saveSnapshot_22 : decode cX7_saveSnapshot 22 = .ok (.aload_n 0, 1) := by decide +kernel
theorem dX7_saveSnapshot_23 : decode cX7_saveSnapshot 23 = .ok (.getfield 54, 3) := by decide +kernel
theorem dX7_saveSnapshot_26 : decode cX7_saveSnapshot 26 = .ok (.sipush 821, 3) := by decide +kernel
theorem dX7_saveSnapshot_29 : decode cX7_saveSnapshot 29 = .ok (.iload_n 1, 1) := by decide +kernel
theorem dX7_saveSnapshot_30 : decode cX7_saveSnapshot 30 = .ok (.imul, 1) := by decide +kernel
theorem dX7_saveSnapshot_31 : decode cX7_saveSnapshot 31 = .ok (.sipush 821, 3) := by decide +kernel
theorem dX7_saveSnapshot_34 : decode cX7_saveSnapshot 34 = .ok (.invokestatic 312, 3) := by decide +kernel
theorem dX7_saveSnapshot_37 : decode cX7_saveSnapshot 37 = .ok (.aload_n 0, 1) := by decide +kernel
theorem dX7_saveSnapshot_38 : decode cX7_saveSnapshot 38 = .ok (.getfield 57, 3) := by decide +kernel
theorem dX7_saveSnapshot_41 : decode cX7_saveSnapshot 41 = .ok (.iload_n 1, 1) := by decide +kernel
theorem dX7_saveSnapshot_42 : decode cX7_saveSnapshot 42 = .ok (.iconst 1, 1) := by decide +kernel
theorem dX7_saveSnapshot_43 : decode cX7_saveSnapshot 43 = .ok (.bastore, 1) := by decide +kernel
theorem dX7_saveSnapshot_44 : decode cX7_saveSnapshot 44 = .ok (.iload_n 2, 1) := by decide +kernel
theorem dX7_saveSnapshot_45 : decode cX7_saveSnapshot 45 = .ok (.ireturn, 1) := by decide +kernel
theorem dX7_restoreSnapshot_0 : decode cX7_restoreSnapshot 0 = .ok (.aload_n 0, 1) := by decide +kernel
theorem dX7_restoreSnapshot_1 : decode cX7_restoreSnapshot 1 = .ok (.iload_n 1, 1) := by decide +kernel
theorem dX7_restoreSnapshot_2 : decode cX7_restoreSnapshot 2 = .ok (.invokevirtual 328, 3) := by decide +kernel
theorem dX7_restoreSnapshot_5 : decode cX7_restoreSnapshot 5 = .ok (.ifCond .ne 25, 3) := by decide +kernel
theorem dX7_restoreSnapshot_8 : decode cX7_restoreSnapshot 8 = .ok (.aload_n 0, 1) := by decide +kernel
theorem dX7_restoreSnapshot_9 : decode cX7_restoreSnapshot 9 = .ok (.aload_n 0, 1) := by decide +kernel
theorem dX7_restoreSnapshot_10 : decode cX7_restoreSnapshot 10 = .ok (.getfield 57, 3) := by decide +kernel
theorem dX7_restoreSnapshot_13 : decode cX7_restoreSnapshot 13 = .ok (.iload_n 1, 1) := by decide +kernel
theorem dX7_restoreSnapshot_14 : decode cX7_restoreSnapshot 14 = .ok (.baload, 1) := by decide +kernel
theorem dX7_restoreSnapshot_15 : decode cX7_restoreSnapshot 15 = .ok (.ifCond .ne 7, 3) := by decide +kernel
theorem dX7_restoreSnapshot_18 : decode cX7_restoreSnapshot 18 = .ok (.iconst 1, 1) := by decide +kernel
theorem dX7_restoreSnapshot_19 : decode cX7_restoreSnapshot 19 = .ok (.goto 4, 3) := by decide +kernel
theorem dX7_restoreSnapshot_22 : decode cX7_restoreSnapshot 22 = .ok (.iconst 0, 1) := by decide +kernel
theorem dX7_restoreSnapshot_23 : decode cX7_restoreSnapshot 23 = .ok (.iconst 2, 1) := by decide +kernel
theorem dX7_restoreSnapshot_24 : decode cX7_restoreSnapshot 24 = .ok (.invokevirtual 224, 3) := by decide +kernel
theorem dX7_restoreSnapshot_27 : decode cX7_restoreSnapshot 27 = .ok (.ifCond .eq 5, 3) := by decide +kernel
theorem dX7_restoreSnapshot_30 : decode cX7_restoreSnapshot 30 = .ok (.iconst 0, 1) := by decide +kernel
theorem dX7_restoreSnapshot_31 : decode cX7_restoreSnapshot 31 = .ok (.ireturn, 1) := by decide +kernel
theorem dX7_restoreSnapshot_32 : decode cX7_restoreSnapshot 32 = .ok (.aload_n 0, 1) := by decide +kernel
theorem dX7_restoreSnapshot_33 : decode cX7_restoreSnapshot 33 = .ok (.getfield 54, 3) := by decide +kernel
theorem dX7_restoreSnapshot_36 : decode cX7_restoreSnapshot 36 = .ok (.sipush 821, 3) := by decide +kernel
theorem dX7_restoreSnapshot_39 : decode cX7_restoreSnapshot 39 = .ok (.iload_n 1, 1) := by decide +kernel
theorem dX7_restoreSnapshot_40 : decode cX7_restoreSnapshot 40 = .ok (.imul, 1) := by decide +kernel
theorem dX7_restoreSnapshot_41 : decode cX7_restoreSnapshot 41 = .ok (.aload_n 0, 1) := by decide +kernel
theorem dX7_restoreSnapshot_42 : decode cX7_restoreSnapshot 42 = .ok (.getfield 7, 3) := by decide +kernel
theorem dX7_restoreSnapshot_45 : decode cX7_restoreSnapshot 45 = .ok (.iconst 0, 1) := by decide +kernel
theorem dX7_restoreSnapshot_46 : decode cX7_restoreSnapshot 46 = .ok (.sipush 821, 3) := by decide +kernel
theorem dX7_restoreSnapshot_49 : decode cX7_restoreSnapshot 49 = .ok (.invokestatic 312, 3) := by decide +kernel
theorem dX7_restoreSnapshot_52 : decode cX7_restoreSnapshot 52 = .ok (.aload_n 0, 1) := by decide +kernel
theorem dX7_restoreSnapshot_53 : decode cX7_restoreSnapshot 53 = .ok (.iconst 0, 1) := by decide +kernel
theorem dX7_restoreSnapshot_54 : decode cX7_restoreSnapshot 54 = .ok (.putfield 231, 3) := by decide +kernel
theorem dX7_restoreSnapshot_57 : decode cX7_restoreSnapshot 57 = .ok (.aload_n 0, 1) := by decide +kernel
theorem dX7_restoreSnapshot_58 : decode cX7_restoreSnapshot 58 = .ok (.getfield 7, 3) := by decide +kernel
theorem dX7_restoreSnapshot_61 : decode cX7_restoreSnapshot 61 = .ok (.iconst 0, 1) := by decide +kernel
theorem dX7_restoreSnapshot_62 : decode cX7_restoreSnapshot 62 = .ok (.iaload, 1) := by decide +kernel
theorem dX7_restoreSnapshot_63 : decode cX7_restoreSnapshot 63 = .ok (.ireturn, 1) := by decide +kernel
theorem dJ6_bitCount_0f7a4_0 : decode cJ6_bitCount_0f7a4 0 = .ok (.iload_n 0, 1) := by decide +kernel
theorem dJ6_bitCount_0f7a4_1 : decode cJ6_bitCount_0f7a4 1 = .ok (.iload_n 0, 1) := by decide +kernel
theorem dJ6_bitCount_0f7a4_2 : decode cJ6_bitCount_0f7a4 2 = .ok (.iconst 1, 1) := by decide +kernel
theorem dJ6_bitCount_0f7a4_3 : decode cJ6_bitCount_0f7a4 3 = .ok (.iushr, 1) := by decide +kernel
theorem dJ6_bitCount_0f7a4_4 : decode cJ6_bitCount_0f7a4 4 = .ok (.ldc_w 265, 3) := by decide +kernel
theorem dJ6_bitCount_0f7a4_7 : decode cJ6_bitCount_0f7a4 7 = .ok (.iand, 1) := by decide +kernel
theorem dJ6_bitCount_0f7a4_8 : decode cJ6_bitCount_0f7a4 8 = .ok (.isub, 1) := by decide +kernel
theorem dJ6_bitCount_0f7a4_9 : decode cJ6_bitCount_0f7a4 9 = .ok (.istore_n 0, 1) := by decide +kernel
theorem dJ6_bitCount_0f7a4_10 : decode cJ6_bitCount_0f7a4 10 = .ok (.iload_n 0, 1) := by decide +kernel
theorem dJ6_bitCount_0f7a4_11 : decode cJ6_bitCount_0f7a4 11 = .ok (.ldc_w 266, 3) := by decide +kernel
theorem dJ6_bitCount_0f7a4_14 : decode cJ6_bitCount_0f7a4 14 = .ok (.iand, 1) := by decide +kernel
theorem dJ6_bitCount_0f7a4_15 : decode cJ6_bitCount_0f7a4 15 = .ok (.iload_n 0, 1) := by decide +kernel
theorem dJ6_bitCount_0f7a4_16 : decode cJ6_bitCount_0f7a4 16 = .ok (.iconst 2, 1) := by decide +kernel
theorem dJ6_bitCount_0f7a4_17 : decode cJ6_bitCount_0f7a4 17 = .ok (.iushr, 1) := by decide +kernel
theorem dJ6_bitCount_0f7a4_18 : decode cJ6_bitCount_0f7a4 18 = .ok (.ldc_w 266, 3) := by decide +kernel
theorem dJ6_bitCount_0f7a4_21 : decode cJ6_bitCount_0f7a4 21 = .ok (.iand, 1) := by decide +kernel
theorem dJ6_bitCount_0f7a4_22 : decode cJ6_bitCount_0f7a4 22 = .ok (.iadd, 1) := by decide +kernel
theorem dJ6_bitCount_0f7a4_23 : decode cJ6_bitCount_0f7a4 23 = .ok (.istore_n 0, 1) := by decide +kernel
theorem dJ6_bitCount_0f7a4_24 : decode cJ6_bitCount_0f7a4 24 = .ok (.iload_n 0, 1) := by decide +kernel
theorem dJ6_bitCount_0f7a4_25 : decode cJ6_bitCount_0f7a4 25 = .ok (.iload_n 0, 1) := by decide +kernel
theorem dJ6_bitCount_0f7a4_26 : decode cJ6_bitCount_0f7a4 26 = .ok (.iconst 4, 1) := by decide +kernel
theorem dJ6_bitCount_0f7a4_27 : decode cJ6_bitCount_0f7a4 27 = .ok (.iushr, 1) := by decide +kernel
theorem dJ6_bitCount_0f7a4_28 : decode cJ6_bitCount_0f7a4 28 = .ok (.iadd, 1) := by decide +kernel
theorem dJ6_bitCount_0f7a4_29 : decode cJ6_bitCount_0f7a4 29 = .ok (.ldc_w 267, 3) := by decide +kernel
theorem dJ6_bitCount_0f7a4_32 : decode cJ6_bitCount_0f7a4 32 = .ok (.iand, 1) := by decide +kernel
theorem dJ6_bitCount_0f7a4_33 : decode cJ6_bitCount_0f7a4 33 = .ok (.istore_n 0, 1) := by decide +kernel
theorem dJ6_bitCount_0f7a4_34 : decode cJ6_bitCount_0f7a4 34 = .ok (.iload_n 0, 1) := by decide +kernel
theorem dJ6_bitCount_0f7a4_35 : decode cJ6_bitCount_0f7a4 35 = .ok (.iload_n 0, 1) := by decide +kernel
theorem dJ6_bitCount_0f7a4_36 : decode cJ6_bitCount_0f7a4 36 = .ok (.bipush 8, 2) := by decide +kernel
theorem dJ6_bitCount_0f7a4_38 : decode cJ6_bitCount_0f7a4 38 = .ok (.iushr, 1) := by decide +kernel
theorem dJ6_bitCount_0f7a4_39 : decode cJ6_bitCount_0f7a4 39 = .ok (.iadd, 1) := by decide +kernel
theorem dJ6_bitCount_0f7a4_40 : decode cJ6_bitCount_0f7a4 40 = .ok (.istore_n 0, 1) := by decide +kernel
theorem dJ6_bitCount_0f7a4_41 : decode cJ6_bitCount_0f7a4 41 = .ok (.iload_n 0, 1) := by decide +kernel
theorem dJ6_bitCount_0f7a4_42 : decode cJ6_bitCount_0f7a4 42 = .ok (.iload_n 0, 1) := by decide +kernel
theorem dJ6_bitCount_0f7a4_43 : decode cJ6_bitCount_0f7a4 43 = .ok (.bipush 16, 2) := by decide +kernel
theorem dJ6_bitCount_0f7a4_45 : decode cJ6_bitCount_0f7a4 45 = .ok (.iushr, 1) := by decide +kernel
theorem dJ6_bitCount_0f7a4_46 : decode cJ6_bitCount_0f7a4 46 = .ok (.iadd, 1) := by decide +kernel
theorem dJ6_bitCount_0f7a4_47 : decode cJ6_bitCount_0f7a4 47 = .ok (.istore_n 0, 1) := by decide +kernel
theorem dJ6_bitCount_0f7a4_48 : decode cJ6_bitCount_0f7a4 48 = .ok (.iload_n 0, 1) := by decide +kernel
theorem dJ6_bitCount_0f7a4_49 : decode cJ6_bitCount_0f7a4 49 = .ok (.bipush 63, 2) := by decide +kernel
theorem dJ6_bitCount_0f7a4_51 : decode cJ6_bitCount_0f7a4 51 = .ok (.iand, 1) := by decide +kernel
theorem dJ6_bitCount_0f7a4_52 : decode cJ6_bitCount_0f7a4 52 = .ok (.ireturn, 1) := by decide +kernel
theorem dJ9_floorMod_7cf53_0 : decode cJ9_floorMod_7cf53 0 = .ok (.iload_n 0, 1) := by decide +kernel
theorem dJ9_floorMod_7cf53_1 : decode cJ9_floorMod_7cf53 1 = .ok (.iload_n 1, 1) := by decide +kernel
theorem dJ9_floorMod_7cf53_2 : decode cJ9_floorMod_7cf53 2 = .ok (.irem, 1) := by decide +kernel
theorem dJ9_floorMod_7cf53_3 : decode cJ9_floorMod_7cf53 3 = .ok (.istore_n 2, 1) := by decide +kernel
theorem dJ9_floorMod_7cf53_4 : decode cJ9_floorMod_7cf53 4 = .ok (.iload_n 0, 1) := by decide +kernel
theorem dJ9_floorMod_7cf53_5 : decode cJ9_floorMod_7cf53 5 = .ok (.iload_n 1, 1) := by decide +kernel
theorem dJ9_floorMod_7cf53_6 : decode cJ9_floorMod_7cf53 6 = .ok (.ixor, 1) := by decide +kernel
theorem dJ9_floorMod_7cf53_7 : decode cJ9_floorMod_7cf53 7 = .ok (.ifCond .ge 11, 3) := by decide +kernel
theorem dJ9_floorMod_7cf53_10 : decode cJ9_floorMod_7cf53 10 = .ok (.iload_n 2, 1) := by decide +kernel
theorem dJ9_floorMod_7cf53_11 : decode cJ9_floorMod_7cf53 11 = .ok (.ifCond .eq 7, 3) := by decide +kernel
theorem dJ9_floorMod_7cf53_14 : decode cJ9_floorMod_7cf53 14 = .ok (.iload_n 2, 1) := by decide +kernel
theorem dJ9_floorMod_7cf53_15 : decode cJ9_floorMod_7cf53 15 = .ok (.iload_n 1, 1) := by decide +kernel
theorem dJ9_floorMod_7cf53_16 : decode cJ9_floorMod_7cf53 16 = .ok (.iadd, 1) := by decide +kernel
theorem dJ9_floorMod_7cf53_17 : decode cJ9_floorMod_7cf53 17 = .ok (.ireturn, 1) := by decide +kernel
theorem dJ9_floorMod_7cf53_18 : decode cJ9_floorMod_7cf53 18 = .ok (.iload_n 2, 1) := by decide +kernel
theorem dJ9_floorMod_7cf53_19 : decode cJ9_floorMod_7cf53 19 = .ok (.ireturn, 1) := by decide +kernel
theorem dJ9_min_7cf53_0 : decode cJ9_min_7cf53 0 = .ok (.iload_n 0, 1) := by decide +kernel
theorem dJ9_min_7cf53_1 : decode cJ9_min_7cf53 1 = .ok (.iload_n 1, 1) := by decide +kernel
theorem dJ9_min_7cf53_2 : decode cJ9_min_7cf53 2 = .ok (.if_icmp .gt 7, 3) := by decide +kernel
theorem dJ9_min_7cf53_5 : decode cJ9_min_7cf53 5 = .ok (.iload_n 0, 1) := by decide +kernel
theorem dJ9_min_7cf53_6 : decode cJ9_min_7cf53 6 = .ok (.goto 4, 3) := by decide +kernel
theorem dJ9_min_7cf53_9 : decode cJ9_min_7cf53 9 = .ok (.iload_n 1, 1) := by decide +kernel
theorem dJ9_min_7cf53_10 : decode cJ9_min_7cf53 10 = .ok (.ireturn, 1) := by decide +kernel
theorem dJ0_length_8abf5_0 : decode cJ0_length_8abf5 0 = .ok (.aload_n 0, 1) := by decide +kernel
theorem dJ0_length_8abf5_1 : decode cJ0_length_8abf5 1 = .ok (.getfield 9, 3) := by decide +kernel
theorem dJ0_length_8abf5_4 : decode cJ0_length_8abf5 4 = .ok (.arraylength, 1) := by decide +kernel
theorem dJ0_length_8abf5_5 : decode cJ0_length_8abf5 5 = .ok (.aload_n 0, 1) := by decide +kernel
theorem dJ0_length_8abf5_6 : decode cJ0_length_8abf5 6 = .ok (.invokevirtual 335, 3) := by decide +kernel
theorem dJ0_length_8abf5_9 : decode cJ0_length_8abf5 9 = .ok (.ishr, 1) := by decide +kernel
theorem dJ0_length_8abf5_10 : decode cJ0_length_8abf5 10 = .ok (.ireturn, 1) := by decide +kernel
theorem dJ0_charAt_5068e_0 : decode cJ0_charAt_5068e 0 = .ok (.aload_n 0, 1) := by decide +kernel
theorem dJ0_charAt_5068e_1 : decode cJ0_charAt_5068e 1 = .ok (.invokevirtual 492, 3) := by decide +kernel
theorem dJ0_charAt_5068e_4 : decode cJ0_charAt_5068e 4 = .ok (.ifCond .eq 12, 3) := by decide +kernel
theorem dJ0_charAt_5068e_7 : decode cJ0_charAt_5068e 7 = .ok (.aload_n 0, 1) := by decide +kernel
theorem dJ0_charAt_5068e_8 : decode cJ0_charAt_5068e 8 = .ok (.getfield 9, 3) := by decide +kernel
theorem dJ0_charAt_5068e_11 : decode cJ0_charAt_5068e 11 = .ok (.iload_n 1, 1) := by decide +kernel
theorem dJ0_charAt_5068e_12 : decode cJ0_charAt_5068e 12 = .ok (.invokestatic 495, 3) := by decide +kernel
theorem dJ0_charAt_5068e_15 : decode cJ0_charAt_5068e 15 = .ok (.ireturn, 1) := by decide +kernel
theorem dJ0_charAt_5068e_16 : decode cJ0_charAt_5068e 16 = .ok (.aload_n 0, 1) := by decide +kernel
theorem dJ0_charAt_5068e_17 : decode cJ0_charAt_5068e 17 = .ok (.getfield 9, 3) := by decide +kernel
theorem dJ0_charAt_5068e_20 : decode cJ0_charAt_5068e 20 = .ok (.iload_n 1, 1) := by decide +kernel
theorem dJ0_charAt_5068e_21 : decode cJ0_charAt_5068e 21 = .ok (.invokestatic 498, 3) := by decide +kernel
theorem dJ0_charAt_5068e_24 : decode cJ0_charAt_5068e 24 = .ok (.ireturn, 1) := by decide +kernel
theorem dJ0_coder_7d493_0 : decode cJ0_coder_7d493 0 = .ok (.getstatic 38, 3) := by decide +kernel
theorem dJ0_coder_7d493_3 : decode cJ0_coder_7d493 3 = .ok (.ifCond .eq 10, 3) := by decide +kernel
theorem dJ0_coder_7d493_6 : decode cJ0_coder_7d493 6 = .ok (.aload_n 0, 1) := by decide +kernel
theorem dJ0_coder_7d493_7 : decode cJ0_coder_7d493 7 = .ok (.getfield 15, 3) := by decide +kernel
theorem dJ0_coder_7d493_10 : decode cJ0_coder_7d493 10 = .ok (.goto 4, 3) := by decide +kernel
theorem dJ0_coder_7d493_13 : decode cJ0_coder_7d493 13 = .ok (.iconst 1, 1) := by decide +kernel
theorem dJ0_coder_7d493_14 : decode cJ0_coder_7d493 14 = .ok (.ireturn, 1) := by decide +kernel
theorem dJ0_isLatin1_aae02_0 : decode cJ0_isLatin1_aae02 0 = .ok (.getstatic 38, 3) := by decide +kernel
theorem dJ0_isLatin1_aae02_3 : decode cJ0_isLatin1_aae02 3 = .ok (.ifCond .eq 14, 3) := by decide +kernel
theorem dJ0_isLatin1_aae02_6 : decode cJ0_isLatin1_aae02 6 = .ok (.aload_n 0, 1) := by decide +kernel
theorem dJ0_isLatin1_aae02_7 : decode cJ0_isLatin1_aae02 7 = .ok (.getfield 15, 3) := by decide +kernel
theorem dJ0_isLatin1_aae02_10 : decode cJ0_isLatin1_aae02 10 = .ok (.ifCond .ne 7, 3) := by decide +kernel
theorem dJ0_isLatin1_aae02_13 : decode cJ0_isLatin1_aae02 13 = .ok (.iconst 1, 1) := by decide +kernel
theorem dJ0_isLatin1_aae02_14 : decode cJ0_isLatin1_aae02 14 = .ok (.goto 4, 3) := by decide +kernel
theorem dJ0_isLatin1_aae02_17 : decode cJ0_isLatin1_aae02 17 = .ok (.iconst 0, 1) := by decide +kernel
theorem dJ0_isLatin1_aae02_18 : decode cJ0_isLatin1_aae02 18 = .ok (.ireturn, 1) := by decide +kernel
theorem dJ0_checkIndex_df160_0 : decode cJ0_checkIndex_df160 0 = .ok (.iload_n 0, 1) := by decide +kernel
theorem dJ0_checkIndex_df160_1 : decode cJ0_checkIndex_df160 1 = .ok (.iload_n 1, 1) := by decide +kernel
theorem dJ0_checkIndex_df160_2 : decode cJ0_checkIndex_df160 2 = .ok (.getstatic 1053, 3) := by decide +kernel
theorem dJ0_checkIndex_df160_5 : decode cJ0_checkIndex_df160 5 = .ok (.invokestatic 1059, 3) := by decide +kernel
theorem dJ0_checkIndex_df160_8 : decode cJ0_checkIndex_df160 8 = .ok (.pop, 1) := by decide +kernel
theorem dJ0_checkIndex_df160_9 : decode cJ0_checkIndex_df160 9 = .ok (.return_, 1) := by decide +kernel
theorem dJ1_charAt_3b067_0 : decode cJ1_charAt_3b067 0 = .ok (.iload_n 1, 1) := by decide +kernel
theorem dJ1_charAt_3b067_1 : decode cJ1_charAt_3b067 1 = .ok (.aload_n 0, 1) := by decide +kernel
theorem dJ1_charAt_3b067_2 : decode cJ1_charAt_3b067 2 = .ok (.arraylength, 1) := by decide +kernel
theorem dJ1_charAt_3b067_3 : decode cJ1_charAt_3b067 3 = .ok (.invokestatic 9, 3) := by decide +kernel
theorem dJ1_charAt_3b067_6 : decode cJ1_charAt_3b067 6 = .ok (.aload_n 0, 1) := by decide +kernel
theorem dJ1_charAt_3b067_7 : decode cJ1_charAt_3b067 7 = .ok (.iload_n 1, 1) := by decide +kernel
theorem dJ1_charAt_3b067_8 : decode cJ1_charAt_3b067 8 = .ok (.baload, 1) := by decide +kernel
theorem dJ1_charAt_3b067_9 : decode cJ1_charAt_3b067 9 = .ok (.sipush 255, 3) := by decide +kernel
theorem dJ1_charAt_3b067_12 : decode cJ1_charAt_3b067 12 = .ok (.iand, 1) := by decide +kernel
theorem dJ1_charAt_3b067_13 : decode cJ1_charAt_3b067 13 = .ok (.i2c, 1) := by decide +kernel
theorem dJ1_charAt_3b067_14 : decode cJ1_charAt_3b067 14 = .ok (.ireturn, 1) := by decide +kernel
theorem dJ2_getChar_3b067_0 : decode cJ2_getChar_3b067 0 = .ok (.getstatic 44, 3) := by decide +kernel
theorem dJ2_getChar_3b067_3 : decode cJ2_getChar_3b067 3 = .ok (.ifCond .ne 25, 3) := by decide +kernel
theorem dJ2_getChar_3b067_6 : decode cJ2_getChar_3b067 6 = .ok (.iload_n 1, 1) := by decide +kernel
theorem dJ2_getChar_3b067_7 : decode cJ2_getChar_3b067 7 = .ok (.ifCond .lt 11, 3) := by decide +kernel
theorem dJ2_getChar_3b067_10 : decode cJ2_getChar_3b067 10 = .ok (.iload_n 1, 1) := by decide +kernel
theorem dJ2_getChar_3b067_11 : decode cJ2_getChar_3b067 11 = .ok (.aload_n 0, 1) := by decide +kernel
theorem dJ2_getChar_3b067_12 : decode cJ2_getChar_3b067 12 = .ok (.invokestatic 48, 3) := by decide +kernel
theorem dJ2_getChar_3b067_15 : decode cJ2_getChar_3b067 15 = .ok (.if_icmp .lt 13, 3) := by decide +kernel
theorem dJ2_getChar_3b067_18 : decode cJ2_getChar_3b067 18 = .ok (.new 52, 3) := by decide +kernel
theorem dJ2_getChar_3b067_21 : decode cJ2_getChar_3b067 21 = .ok (.dup, 1) := by decide +kernel
theorem dJ2_getChar_3b067_22 : decode cJ2_getChar_3b067 22 = .ok (.ldc 54, 2) := by decide +kernel
theorem dJ2_getChar_3b067_24 : decode cJ2_getChar_3b067 24 = .ok (.invokespecial 56, 3) := by decide +kernel
theorem dJ2_getChar_3b067_27 : decode cJ2_getChar_3b067 27 = .ok (.athrow, 1) := by decide +kernel
theorem dJ2_getChar_3b067_28 : decode cJ2_getChar_3b067 28 = .ok (.iload_n 1, 1) := by decide +kernel
theorem dJ2_getChar_3b067_29 : decode cJ2_getChar_3b067 29 = .ok (.iconst 1, 1) := by decide +kernel
theorem dJ2_getChar_3b067_30 : decode cJ2_getChar_3b067 30 = .ok (.ishl, 1) := by decide +kernel
theorem dJ2_getChar_3b067_31 : decode cJ2_getChar_3b067 31 = .ok (.istore_n 1, 1) := by decide +kernel
theorem dJ2_getChar_3b067_32 : decode cJ2_getChar_3b067 32 = .ok (.aload_n 0, 1) := by decide +kernel
theorem dJ2_getChar_3b067_33 : decode cJ2_getChar_3b067 33 = .ok (.iload_n 1, 1) := by decide +kernel
theorem dJ2_getChar_3b067_34 : decode cJ2_getChar_3b067 34 = .ok (.iinc 1 1, 3) := by decide +kernel
theorem dJ2_getChar_3b067_37 : decode cJ2_getChar_3b067 37 = .ok (.baload, 1) := by decide +kernel
theorem dJ2_getChar_3b067_38 : decode cJ2_getChar_3b067 38 = .ok (.sipush 255, 3) := by decide +kernel
theorem dJ2_getChar_3b067_41 : decode cJ2_getChar_3b067 41 = .ok (.iand, 1) := by decide +kernel
theorem dJ2_getChar_3b067_42 : decode cJ2_getChar_3b067 42 = .ok (.getstatic 59, 3) := by decide +kernel
theorem dJ2_getChar_3b067_45 : decode cJ2_getChar_3b067 45 = .ok (.ishl, 1) := by decide +kernel
theorem dJ2_getChar_3b067_46 : decode cJ2_getChar_3b067 46 = .ok (.aload_n 0, 1) := by decide +kernel
theorem dJ2_getChar_3b067_47 : decode cJ2_getChar_3b067 47 = .ok (.iload_n 1, 1) := by decide +kernel
theorem dJ2_getChar_3b067_48 : decode cJ2_getChar_3b067 48 = .ok (.baload, 1) := by decide +kernel
theorem dJ2_getChar_3b067_49 : decode cJ2_getChar_3b067 49 = .ok (.sipush 255, 3) := by decide +kernel
theorem dJ2_getChar_3b067_52 : decode cJ2_getChar_3b067 52 = .ok (.iand, 1) := by decide +kernel
theorem dJ2_getChar_3b067_53 : decode cJ2_getChar_3b067 53 = .ok (.getstatic 63, 3) := by decide +kernel
theorem dJ2_getChar_3b067_56 : decode cJ2_getChar_3b067 56 = .ok (.ishl, 1) := by decide +kernel
theorem dJ2_getChar_3b067_57 : decode cJ2_getChar_3b067 57 = .ok (.ior, 1) := by decide +kernel
theorem dJ2_getChar_3b067_58 : decode cJ2_getChar_3b067 58 = .ok (.i2c, 1) := by decide +kernel
theorem dJ2_getChar_3b067_59 : decode cJ2_getChar_3b067 59 = .ok (.ireturn, 1) := by decide +kernel
theorem dJ2_length_9d52b_0 : decode cJ2_length_9d52b 0 = .ok (.aload_n 0, 1) := by decide +kernel
theorem dJ2_length_9d52b_1 : decode cJ2_length_9d52b 1 = .ok (.arraylength, 1) := by decide +kernel
theorem dJ2_length_9d52b_2 : decode cJ2_length_9d52b 2 = .ok (.iconst 1, 1) := by decide +kernel
theorem dJ2_length_9d52b_3 : decode cJ2_length_9d52b 3 = .ok (.ishr, 1) := by decide +kernel
theorem dJ2_length_9d52b_4 : decode cJ2_length_9d52b 4 = .ok (.ireturn, 1) := by decide +kernel
theorem dJ2_charAt_3b067_0 : decode cJ2_charAt_3b067 0 = .ok (.iload_n 1, 1) := by decide +kernel
theorem dJ2_charAt_3b067_1 : decode cJ2_charAt_3b067 1 = .ok (.aload_n 0, 1) := by decide +kernel
theorem dJ2_charAt_3b067_2 : decode cJ2_charAt_3b067 2 = .ok (.invokestatic 67, 3) := by decide +kernel
theorem dJ2_charAt_3b067_5 : decode cJ2_charAt_3b067 5 = .ok (.aload_n 0, 1) := by decide +kernel
theorem dJ2_charAt_3b067_6 : decode cJ2_charAt_3b067 6 = .ok (.iload_n 1, 1) := by decide +kernel
theorem dJ2_charAt_3b067_7 : decode cJ2_charAt_3b067 7 = .ok (.invokestatic 71, 3) := by decide +kernel
theorem dJ2_charAt_3b067_10 : decode cJ2_charAt_3b067 10 = .ok (.ireturn, 1) := by decide +kernel
theorem dJ2_checkIndex_2214a_0 : decode cJ2_checkIndex_2214a 0 = .ok (.iload_n 0, 1) := by decide +kernel
theorem dJ2_checkIndex_2214a_1 : decode cJ2_checkIndex_2214a 1 = .ok (.aload_n 1, 1) := by decide +kernel
theorem dJ2_checkIndex_2214a_2 : decode cJ2_checkIndex_2214a 2 = .ok (.invokestatic 48, 3) := by decide +kernel
theorem dJ2_checkIndex_2214a_5 : decode cJ2_checkIndex_2214a 5 = .ok (.invokestatic 414, 3) := by decide +kernel
theorem dJ2_checkIndex_2214a_8 : decode cJ2_checkIndex_2214a 8 = .ok (.return_, 1) := by decide +kernel
theorem dJ3_checkIndex_8e157_0 : decode cJ3_checkIndex_8e157 0 = .ok (.iload_n 0, 1) := by decide +kernel
theorem dJ3_checkIndex_8e157_1 : decode cJ3_checkIndex_8e157 1 = .ok (.ifCond .lt 8, 3) := by decide +kernel
theorem dJ3_checkIndex_8e157_4 : decode cJ3_checkIndex_8e157 4 = .ok (.iload_n 0, 1) := by decide +kernel
theorem dJ3_checkIndex_8e157_5 : decode cJ3_checkIndex_8e157 5 = .ok (.iload_n 1, 1) := by decide +kernel
theorem dJ3_checkIndex_8e157_6 : decode cJ3_checkIndex_8e157 6 = .ok (.if_icmp .lt 10, 3) := by decide +kernel
theorem dJ3_checkIndex_8e157_9 : decode cJ3_checkIndex_8e157 9 = .ok (.aload_n 2, 1) := by decide +kernel
theorem dJ3_checkIndex_8e157_10 : decode cJ3_checkIndex_8e157 10 = .ok (.iload_n 0, 1) := by decide +kernel
theorem dJ3_checkIndex_8e157_11 : decode cJ3_checkIndex_8e157 11 = .ok (.iload_n 1, 1) := by decide +kernel
theorem dJ3_checkIndex_8e157_12 : decode cJ3_checkIndex_8e157 12 = .ok (.invokestatic 95, 3) := by decide +kernel
theorem dJ3_checkIndex_8e157_15 : decode cJ3_checkIndex_8e157 15 = .ok (.athrow, 1) := by decide +kernel
theorem dJ3_checkIndex_8e157_16 : decode cJ3_checkIndex_8e157 16 = .ok (.iload_n 0, 1) := by decide +kernel
theorem dJ3_checkIndex_8e157_17 : decode cJ3_checkIndex_8e157 17 = .ok (.ireturn, 1) := by decide +kernel
