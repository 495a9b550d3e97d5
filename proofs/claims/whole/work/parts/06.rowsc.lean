theorem eX6_init_0 : decode cX6_init 0 = .ok (.aload_n 0, 1) ∧ 0 + 1 = 1 := ⟨by decide +kernel, rfl⟩
theorem eX6_init_1 : decode cX6_init 1 = .ok (.invokespecial 1, 3) ∧ 1 + 3 = 4 := ⟨by decide +kernel, rfl⟩
theorem eX6_init_4 : decode cX6_init 4 = .ok (.aload_n 0, 1) ∧ 4 + 1 = 5 := ⟨by decide +kernel, rfl⟩
theorem eX6_init_5 : decode cX6_init 5 = .ok (.bipush 6, 2) ∧ 5 + 2 = 7 := ⟨by decide +kernel, rfl⟩
theorem eX6_init_7 : decode cX6_init 7 = .ok (.newarray .int, 2) ∧ 7 + 2 = 9 := ⟨by decide +kernel, rfl⟩
theorem eX6_init_9 : decode cX6_init 9 = .ok (.putfield 7, 3) ∧ 9 + 3 = 12 := ⟨by decide +kernel, rfl⟩
theorem eX6_init_12 : decode cX6_init 12 = .ok (.aload_n 0, 1) ∧ 12 + 1 = 13 := ⟨by decide +kernel, rfl⟩
theorem eX6_init_13 : decode cX6_init 13 = .ok (.bipush 6, 2) ∧ 13 + 2 = 15 := ⟨by decide +kernel, rfl⟩
theorem eX6_init_15 : decode cX6_init 15 = .ok (.newarray .int, 2) ∧ 15 + 2 = 17 := ⟨by decide +kernel, rfl⟩
theorem eX6_init_17 : decode cX6_init 17 = .ok (.putfield 13, 3) ∧ 17 + 3 = 20 := ⟨by decide +kernel, rfl⟩
theorem eX6_init_20 : decode cX6_init 20 = .ok (.aload_n 0, 1) ∧ 20 + 1 = 21 := ⟨by decide +kernel, rfl⟩
theorem eX6_init_21 : decode cX6_init 21 = .ok (.bipush 6, 2) ∧ 21 + 2 = 23 := ⟨by decide +kernel, rfl⟩
theorem eX6_init_23 : decode cX6_init 23 = .ok (.newarray .int, 2) ∧ 23 + 2 = 25 := ⟨by decide +kernel, rfl⟩
theorem eX6_init_25 : decode cX6_init 25 = .ok (.putfield 16, 3) ∧ 25 + 3 = 28 := ⟨by decide +kernel, rfl⟩
theorem eX6_init_28 : decode cX6_init 28 = .ok (.aload_n 0, 1) ∧ 28 + 1 = 29 := ⟨by decide +kernel, rfl⟩
theorem eX6_init_29 : decode cX6_init 29 = .ok (.bipush 6, 2) ∧ 29 + 2 = 31 := ⟨by decide +kernel, rfl⟩
theorem eX6_init_31 : decode cX6_init 31 = .ok (.newarray .int, 2) ∧ 31 + 2 = 33 := ⟨by decide +kernel, rfl⟩
theorem eX6_init_33 : decode cX6_init 33 = .ok (.putfield 19, 3) ∧ 33 + 3 = 36 := ⟨by decide +kernel, rfl⟩
theorem eX6_init_36 : decode cX6_init 36 = .ok (.aload_n 0, 1) ∧ 36 + 1 = 37 := ⟨by decide +kernel, rfl⟩
theorem eX6_init_37 : decode cX6_init 37 = .ok (.bipush 6, 2) ∧ 37 + 2 = 39 := ⟨by decide +kernel, rfl⟩
theorem eX6_init_39 : decode cX6_init 39 = .ok (.newarray .int, 2) ∧ 39 + 2 = 41 := ⟨by decide +kernel, rfl⟩
theorem eX6_init_41 : decode cX6_init 41 = .ok (.putfield 22, 3) ∧ 41 + 3 = 44 := ⟨by decide +kernel, rfl⟩
theorem eX6_init_44 : decode cX6_init 44 = .ok (.aload_n 0, 1) ∧ 44 + 1 = 45 := ⟨by decide +kernel, rfl⟩
theorem eX6_init_45 : decode cX6_init 45 = .ok (.bipush 16, 2) ∧ 45 + 2 = 47 := ⟨by decide +kernel, rfl⟩
theorem eX6_init_47 : decode cX6_init 47 = .ok (.newarray .int, 2) ∧ 47 + 2 = 49 := ⟨by decide +kernel, rfl⟩
theorem eX6_init_49 : decode cX6_init 49 = .ok (.putfield 25, 3) ∧ 49 + 3 = 52 := ⟨by decide +kernel, rfl⟩
theorem eX6_init_52 : decode cX6_init 52 = .ok (.aload_n 0, 1) ∧ 52 + 1 = 53 := ⟨by decide +kernel, rfl⟩
theorem eX6_init_53 : decode cX6_init 53 = .ok (.bipush 48, 2) ∧ 53 + 2 = 55 := ⟨by decide +kernel, rfl⟩
theorem eX6_init_55 : decode cX6_init 55 = .ok (.newarray .int, 2) ∧ 55 + 2 = 57 := ⟨by decide +kernel, rfl⟩
theorem eX6_init_57 : decode cX6_init 57 = .ok (.putfield 28, 3) ∧ 57 + 3 = 60 := ⟨by decide +kernel, rfl⟩
theorem eX6_init_60 : decode cX6_init 60 = .ok (.aload_n 0, 1) ∧ 60 + 1 = 61 := ⟨by decide +kernel, rfl⟩
theorem eX6_init_61 : decode cX6_init 61 = .ok (.bipush 112, 2) ∧ 61 + 2 = 63 := ⟨by decide +kernel, rfl⟩
theorem eX6_init_63 : decode cX6_init 63 = .ok (.newarray .int, 2) ∧ 63 + 2 = 65 := ⟨by decide +kernel, rfl⟩
theorem eX6_init_65 : decode cX6_init 65 = .ok (.putfield 31, 3) ∧ 65 + 3 = 68 := ⟨by decide +kernel, rfl⟩
theorem eX6_init_68 : decode cX6_init 68 = .ok (.aload_n 0, 1) ∧ 68 + 1 = 69 := ⟨by decide +kernel, rfl⟩
theorem eX6_init_69 : decode cX6_init 69 = .ok (.sipush 384, 3) ∧ 69 + 3 = 72 := ⟨by decide +kernel, rfl⟩
theorem eX6_init_72 : decode cX6_init 72 = .ok (.newarray .int, 2) ∧ 72 + 2 = 74 := ⟨by decide +kernel, rfl⟩
theorem eX6_init_74 : decode cX6_init 74 = .ok (.putfield 34, 3) ∧ 74 + 3 = 77 := ⟨by decide +kernel, rfl⟩
theorem eX6_init_77 : decode cX6_init 77 = .ok (.aload_n 0, 1) ∧ 77 + 1 = 78 := ⟨by decide +kernel, rfl⟩
theorem eX6_init_78 : decode cX6_init 78 = .ok (.bipush 6, 2) ∧ 78 + 2 = 80 := ⟨by decide +kernel, rfl⟩
theorem eX6_init_80 : decode cX6_init 80 = .ok (.newarray .int, 2) ∧ 80 + 2 = 82 := ⟨by decide +kernel, rfl⟩
theorem eX6_init_82 : decode cX6_init 82 = .ok (.putfield 37, 3) ∧ 82 + 3 = 85 := ⟨by decide +kernel, rfl⟩
theorem eX6_init_85 : decode cX6_init 85 = .ok (.aload_n 0, 1) ∧ 85 + 1 = 86 := ⟨by decide +kernel, rfl⟩
theorem eX6_init_86 : decode cX6_init 86 = .ok (.bipush 6, 2) ∧ 86 + 2 = 88 := ⟨by decide +kernel, rfl⟩
theorem eX6_init_88 : decode cX6_init 88 = .ok (.newarray .int, 2) ∧ 88 + 2 = 90 := ⟨by decide +kernel, rfl⟩
theorem eX6_init_90 : decode cX6_init 90 = .ok (.putfield 40, 3) ∧ 90 + 3 = 93 := ⟨by decide +kernel, rfl⟩
theorem eX6_init_93 : decode cX6_init 93 = .ok (.aload_n 0, 1) ∧ 93 + 1 = 94 := ⟨by decide +kernel, rfl⟩
theorem eX6_init_94 : decode cX6_init 94 = .ok (.bipush 64, 2) ∧ 94 + 2 = 96 := ⟨by decide +kernel, rfl⟩
theorem eX6_init_96 : decode cX6_init 96 = .ok (.newarray .int, 2) ∧ 96 + 2 = 98 := ⟨by decide +kernel, rfl⟩
theorem eX6_init_98 : decode cX6_init 98 = .ok (.putfield 43, 3) ∧ 98 + 3 = 101 := ⟨by decide +kernel, rfl⟩
theorem eX6_init_101 : decode cX6_init 101 = .ok (.aload_n 0, 1) ∧ 101 + 1 = 102 := ⟨by decide +kernel, rfl⟩
theorem eX6_init_102 : decode cX6_init 102 = .ok (.iconst 2, 1) ∧ 102 + 1 = 103 := ⟨by decide +kernel, rfl⟩
theorem eX6_init_103 : decode cX6_init 103 = .ok (.newarray .boolean, 2) ∧ 103 + 2 = 105 := ⟨by decide +kernel, rfl⟩
theorem eX6_init_105 : decode cX6_init 105 = .ok (.putfield 46, 3) ∧ 105 + 3 = 108 := ⟨by decide +kernel, rfl⟩
theorem eX6_init_108 : decode cX6_init 108 = .ok (.aload_n 0, 1) ∧ 108 + 1 = 109 := ⟨by decide +kernel, rfl⟩
theorem eX6_init_109 : decode cX6_init 109 = .ok (.bipush 16, 2) ∧ 109 + 2 = 111 := ⟨by decide +kernel, rfl⟩
theorem eX6_init_111 : decode cX6_init 111 = .ok (.newarray .int, 2) ∧ 111 + 2 = 113 := ⟨by decide +kernel, rfl⟩
theorem eX6_init_113 : decode cX6_init 113 = .ok (.putfield 50, 3) ∧ 113 + 3 = 116 := ⟨by decide +kernel, rfl⟩
theorem eX6_init_116 : decode cX6_init 116 = .ok (.aload_n 0, 1) ∧ 116 + 1 = 117 := ⟨by decide +kernel, rfl⟩
theorem eX6_init_117 : decode cX6_init 117 = .ok (.bipush 9, 2) ∧ 117 + 2 = 119 := ⟨by decide +kernel, rfl⟩
theorem eX6_init_119 : decode cX6_init 119 = .ok (.putfield 53, 3) ∧ 119 + 3 = 122 := ⟨by decide +kernel, rfl⟩
theorem eX6_init_122 : decode cX6_init 122 = .ok (.iconst 0, 1) ∧ 122 + 1 = 123 := ⟨by decide +kernel, rfl⟩
theorem eX6_init_123 : decode cX6_init 123 = .ok (.istore_n 1, 1) ∧ 123 + 1 = 124 := ⟨by decide +kernel, rfl⟩
theorem eX6_init_124 : decode cX6_init 124 = .ok (.iload_n 1, 1) ∧ 124 + 1 = 125 := ⟨by decide +kernel, rfl⟩
theorem eX6_init_125 : decode cX6_init 125 = .ok (.iconst 5, 1) ∧ 125 + 1 = 126 := ⟨by decide +kernel, rfl⟩
theorem eX6_init_126 : decode cX6_init 126 = .ok (.if_icmp .ge 18, 3) ∧ ((126 : Nat) : Int) + 18 = ((144 : Nat) : Int) ∧ 126 + 3 = 129 := ⟨by decide +kernel, by decide, rfl⟩
theorem eX6_init_129 : decode cX6_init 129 = .ok (.aload_n 0, 1) ∧ 129 + 1 = 130 := ⟨by decide +kernel, rfl⟩
theorem eX6_init_130 : decode cX6_init 130 = .ok (.getfield 25, 3) ∧ 130 + 3 = 133 := ⟨by decide +kernel, rfl⟩
theorem eX6_init_133 : decode cX6_init 133 = .ok (.iconst 3, 1) ∧ 133 + 1 = 134 := ⟨by decide +kernel, rfl⟩
theorem eX6_init_134 : decode cX6_init 134 = .ok (.iload_n 1, 1) ∧ 134 + 1 = 135 := ⟨by decide +kernel, rfl⟩
theorem eX6_init_135 : decode cX6_init 135 = .ok (.iadd, 1) ∧ 135 + 1 = 136 := ⟨by decide +kernel, rfl⟩
theorem eX6_init_136 : decode cX6_init 136 = .ok (.iconst 1, 1) ∧ 136 + 1 = 137 := ⟨by decide +kernel, rfl⟩
theorem eX6_init_137 : decode cX6_init 137 = .ok (.iastore, 1) ∧ 137 + 1 = 138 := ⟨by decide +kernel, rfl⟩
theorem eX6_init_138 : decode cX6_init 138 = .ok (.iinc 1 1, 3) ∧ 138 + 3 = 141 := ⟨by decide +kernel, rfl⟩
theorem eX6_init_141 : decode cX6_init 141 = .ok (.goto (-17), 3) ∧ ((141 : Nat) : Int) + (-17) = ((124 : Nat) : Int) := ⟨by decide +kernel, by decide⟩
theorem eX6_init_144 : decode cX6_init 144 = .ok (.return_, 1) := by decide +kernel
theorem eX6_in_0 : decode cX6_in 0 = .ok (.lload_n 0, 1) ∧ 0 + 1 = 1 := ⟨by decide +kernel, rfl⟩
theorem eX6_in_1 : decode cX6_in 1 = .ok (.lload_n 2, 1) ∧ 1 + 1 = 2 := ⟨by decide +kernel, rfl⟩
theorem eX6_in_2 : decode cX6_in 2 = .ok (.lcmp, 1) ∧ 2 + 1 = 3 := ⟨by decide +kernel, rfl⟩
theorem eX6_in_3 : decode cX6_in 3 = .ok (.ifCond .lt 14, 3) ∧ ((3 : Nat) : Int) + 14 = ((17 : Nat) : Int) ∧ 3 + 3 = 6 := ⟨by decide +kernel, by decide, rfl⟩
theorem eX6_in_6 : decode cX6_in 6 = .ok (.lload_n 0, 1) ∧ 6 + 1 = 7 := ⟨by decide +kernel, rfl⟩
theorem eX6_in_7 : decode cX6_in 7 = .ok (.lload 4, 2) ∧ 7 + 2 = 9 := ⟨by decide +kernel, rfl⟩
theorem eX6_in_9 : decode cX6_in 9 = .ok (.lcmp, 1) ∧ 9 + 1 = 10 := ⟨by decide +kernel, rfl⟩
theorem eX6_in_10 : decode cX6_in 10 = .ok (.ifCond .gt 7, 3) ∧ ((10 : Nat) : Int) + 7 = ((17 : Nat) : Int) ∧ 10 + 3 = 13 := ⟨by decide +kernel, by decide, rfl⟩
theorem eX6_in_13 : decode cX6_in 13 = .ok (.iconst 1, 1) ∧ 13 + 1 = 14 := ⟨by decide +kernel, rfl⟩
theorem eX6_in_14 : decode cX6_in 14 = .ok (.goto 4, 3) ∧ ((14 : Nat) : Int) + 4 = ((18 : Nat) : Int) := ⟨by decide +kernel, by decide⟩
theorem eX6_in_17 : decode cX6_in 17 = .ok (.iconst 0, 1) ∧ 17 + 1 = 18 := ⟨by decide +kernel, rfl⟩
theorem eX6_in_18 : decode cX6_in 18 = .ok (.ireturn, 1) := by decide +kernel
theorem eX6_has_0 : decode cX6_has 0 = .ok (.iload_n 0, 1) ∧ 0 + 1 = 1 := ⟨by decide +kernel, rfl⟩
theorem eX6_has_1 : decode cX6_has 1 = .ok (.iload_n 1, 1) ∧ 1 + 1 = 2 := ⟨by decide +kernel, rfl⟩
theorem eX6_has_2 : decode cX6_has 2 = .ok (.ishr, 1) ∧ 2 + 1 = 3 := ⟨by decide +kernel, rfl⟩
theorem eX6_has_3 : decode cX6_has 3 = .ok (.iconst 1, 1) ∧ 3 + 1 = 4 := ⟨by decide +kernel, rfl⟩
theorem eX6_has_4 : decode cX6_has 4 = .ok (.iand, 1) ∧ 4 + 1 = 5 := ⟨by decide +kernel, rfl⟩
theorem eX6_has_5 : decode cX6_has 5 = .ok (.iconst 1, 1) ∧ 5 + 1 = 6 := ⟨by decide +kernel, rfl⟩
theorem eX6_has_6 : decode cX6_has 6 = .ok (.if_icmp .ne 7, 3) ∧ ((6 : Nat) : Int) + 7 = ((13 : Nat) : Int) ∧ 6 + 3 = 9 := ⟨by decide +kernel, by decide, rfl⟩
theorem eX6_has_9 : decode cX6_has 9 = .ok (.iconst 1, 1) ∧ 9 + 1 = 10 := ⟨by decide +kernel, rfl⟩
theorem eX6_has_10 : decode cX6_has 10 = .ok (.goto 4, 3) ∧ ((10 : Nat) : Int) + 4 = ((14 : Nat) : Int) := ⟨by decide +kernel, by decide⟩
theorem eX6_has_13 : decode cX6_has 13 = .ok (.iconst 0, 1) ∧ 13 + 1 = 14 := ⟨by decide +kernel, rfl⟩
theorem eX6_has_14 : decode cX6_has 14 = .ok (.ireturn, 1) := by decide +kernel
theorem eX6_ones_0 : decode cX6_ones 0 = .ok (.iconst 0, 1) ∧ 0 + 1 = 1 := ⟨by decide +kernel, rfl⟩
theorem eX6_ones_1 : decode cX6_ones 1 = .ok (.istore_n 1, 1) ∧ 1 + 1 = 2 := ⟨by decide +kernel, rfl⟩
theorem eX6_ones_2 : decode cX6_ones 2 = .ok (.iconst 0, 1) ∧ 2 + 1 = 3 := ⟨by decide +kernel, rfl⟩
theorem eX6_ones_3 : decode cX6_ones 3 = .ok (.istore_n 2, 1) ∧ 3 + 1 = 4 := ⟨by decide +kernel, rfl⟩
theorem eX6_ones_4 : decode cX6_ones 4 = .ok (.iload_n 2, 1) ∧ 4 + 1 = 5 := ⟨by decide +kernel, rfl⟩
theorem eX6_ones_5 : decode cX6_ones 5 = .ok (.bipush 6, 2) ∧ 5 + 2 = 7 := ⟨by decide +kernel, rfl⟩
theorem eX6_ones_7 : decode cX6_ones 7 = .ok (.if_icmp .ge 17, 3) ∧ ((7 : Nat) : Int) + 17 = ((24 : Nat) : Int) ∧ 7 + 3 = 10 := ⟨by decide +kernel, by decide, rfl⟩
theorem eX6_ones_10 : decode cX6_ones 10 = .ok (.iload_n 1, 1) ∧ 10 + 1 = 11 := ⟨by decide +kernel, rfl⟩
theorem eX6_ones_11 : decode cX6_ones 11 = .ok (.iload_n 0, 1) ∧ 11 + 1 = 12 := ⟨by decide +kernel, rfl⟩
theorem eX6_ones_12 : decode cX6_ones 12 = .ok (.iload_n 2, 1) ∧ 12 + 1 = 13 := ⟨by decide +kernel, rfl⟩
theorem eX6_ones_13 : decode cX6_ones 13 = .ok (.ishr, 1) ∧ 13 + 1 = 14 := ⟨by decide +kernel, rfl⟩
theorem eX6_ones_14 : decode cX6_ones 14 = .ok (.iconst 1, 1) ∧ 14 + 1 = 15 := ⟨by decide +kernel, rfl⟩
theorem eX6_ones_15 : decode cX6_ones 15 = .ok (.iand, 1) ∧ 15 + 1 = 16 := ⟨by decide +kernel, rfl⟩
theorem eX6_ones_16 : decode cX6_ones 16 = .ok (.iadd, 1) ∧ 16 + 1 = 17 := ⟨by decide +kernel, rfl⟩
theorem eX6_ones_17 : decode cX6_ones 17 = .ok (.istore_n 1, 1) ∧ 17 + 1 = 18 := ⟨by decide +kernel, rfl⟩
theorem eX6_ones_18 : decode cX6_ones 18 = .ok (.iinc 2 1, 3) ∧ 18 + 3 = 21 := ⟨by decide +kernel, rfl⟩
theorem eX6_ones_21 : decode cX6_ones 21 = .ok (.goto (-17), 3) ∧ ((21 : Nat) : Int) + (-17) = ((4 : Nat) : Int) := ⟨by decide +kernel, by decide⟩
theorem eX6_ones_24 : decode cX6_ones 24 = .ok (.iload_n 1, 1) ∧ 24 + 1 = 25 := ⟨by decide +kernel, rfl⟩
theorem eX6_ones_25 : decode cX6_ones 25 = .ok (.ireturn, 1) := by decide +kernel
theorem eX6_write_0 : decode cX6_write 0 = .ok (.iload_n 1, 1) ∧ 0 + 1 = 1 := ⟨by decide +kernel, rfl⟩
theorem eX6_write_1 : decode cX6_write 1 = .ok (.i2l, 1) ∧ 1 + 1 = 2 := ⟨by decide +kernel, rfl⟩
theorem eX6_write_2 : decode cX6_write 2 = .ok (.lconst 0, 1) ∧ 2 + 1 = 3 := ⟨by decide +kernel, rfl⟩
theorem eX6_write_3 : decode cX6_write 3 = .ok (.ldc2_w 57, 3) ∧ 3 + 3 = 6 := ⟨by decide +kernel, rfl⟩
theorem eX6_write_6 : decode cX6_write 6 = .ok (.invokestatic 59, 3) ∧ 6 + 3 = 9 := ⟨by decide +kernel, rfl⟩
theorem eX6_write_9 : decode cX6_write 9 = .ok (.ifCond .ne 6, 3) ∧ ((9 : Nat) : Int) + 6 = ((15 : Nat) : Int) ∧ 9 + 3 = 12 := ⟨by decide +kernel, by decide, rfl⟩
theorem eX6_write_12 : decode cX6_write 12 = .ok (.bipush (-2), 2) ∧ 12 + 2 = 14 := ⟨by decide +kernel, rfl⟩
theorem eX6_write_14 : decode cX6_write 14 = .ok (.ireturn, 1) := by decide +kernel
theorem eX6_write_15 : decode cX6_write 15 = .ok (.aload_n 0, 1) ∧ 15 + 1 = 16 := ⟨by decide +kernel, rfl⟩
theorem eX6_write_16 : decode cX6_write 16 = .ok (.getfield 63, 3) ∧ 16 + 3 = 19 := ⟨by decide +kernel, rfl⟩
theorem eX6_write_19 : decode cX6_write 19 = .ok (.bipush 48, 2) ∧ 19 + 2 = 21 := ⟨by decide +kernel, rfl⟩
theorem eX6_write_21 : decode cX6_write 21 = .ok (.if_icmp .ne 6, 3) ∧ ((21 : Nat) : Int) + 6 = ((27 : Nat) : Int) ∧ 21 + 3 = 24 := ⟨by decide +kernel, by decide, rfl⟩
theorem eX6_write_24 : decode cX6_write 24 = .ok (.bipush (-4), 2) ∧ 24 + 2 = 26 := ⟨by decide +kernel, rfl⟩
theorem eX6_write_26 : decode cX6_write 26 = .ok (.ireturn, 1) := by decide +kernel
theorem eX6_write_27 : decode cX6_write 27 = .ok (.aload_n 0, 1) ∧ 27 + 1 = 28 := ⟨by decide +kernel, rfl⟩
theorem eX6_write_28 : decode cX6_write 28 = .ok (.getfield 28, 3) ∧ 28 + 3 = 31 := ⟨by decide +kernel, rfl⟩
theorem eX6_write_31 : decode cX6_write 31 = .ok (.aload_n 0, 1) ∧ 31 + 1 = 32 := ⟨by decide +kernel, rfl⟩
theorem eX6_write_32 : decode cX6_write 32 = .ok (.getfield 63, 3) ∧ 32 + 3 = 35 := ⟨by decide +kernel, rfl⟩
theorem eX6_write_35 : decode cX6_write 35 = .ok (.iload_n 1, 1) ∧ 35 + 1 = 36 := ⟨by decide +kernel, rfl⟩
theorem eX6_write_36 : decode cX6_write 36 = .ok (.iastore, 1) ∧ 36 + 1 = 37 := ⟨by decide +kernel, rfl⟩
theorem eX6_write_37 : decode cX6_write 37 = .ok (.aload_n 0, 1) ∧ 37 + 1 = 38 := ⟨by decide +kernel, rfl⟩
theorem eX6_write_38 : decode cX6_write 38 = .ok (.dup, 1) ∧ 38 + 1 = 39 := ⟨by decide +kernel, rfl⟩
theorem eX6_write_39 : decode cX6_write 39 = .ok (.getfield 63, 3) ∧ 39 + 3 = 42 := ⟨by decide +kernel, rfl⟩
theorem eX6_write_42 : decode cX6_write 42 = .ok (.iconst 1, 1) ∧ 42 + 1 = 43 := ⟨by decide +kernel, rfl⟩
theorem eX6_write_43 : decode cX6_write 43 = .ok (.iadd, 1) ∧ 43 + 1 = 44 := ⟨by decide +kernel, rfl⟩
theorem eX6_write_44 : decode cX6_write 44 = .ok (.putfield 63, 3) ∧ 44 + 3 = 47 := ⟨by decide +kernel, rfl⟩
theorem eX6_write_47 : decode cX6_write 47 = .ok (.aload_n 0, 1) ∧ 47 + 1 = 48 := ⟨by decide +kernel, rfl⟩
theorem eX6_write_48 : decode cX6_write 48 = .ok (.getfield 63, 3) ∧ 48 + 3 = 51 := ⟨by decide +kernel, rfl⟩
theorem eX6_write_51 : decode cX6_write 51 = .ok (.ireturn, 1) := by decide +kernel
theorem eX6_wipe_0 : decode cX6_wipe 0 = .ok (.aload_n 0, 1) ∧ 0 + 1 = 1 := ⟨by decide +kernel, rfl⟩
theorem eX6_wipe_1 : decode cX6_wipe 1 = .ok (.getfield 63, 3) ∧ 1 + 3 = 4 := ⟨by decide +kernel, rfl⟩
theorem eX6_wipe_4 : decode cX6_wipe 4 = .ok (.istore_n 1, 1) ∧ 4 + 1 = 5 := ⟨by decide +kernel, rfl⟩
theorem eX6_wipe_5 : decode cX6_wipe 5 = .ok (.aload_n 0, 1) ∧ 5 + 1 = 6 := ⟨by decide +kernel, rfl⟩
theorem eX6_wipe_6 : decode cX6_wipe 6 = .ok (.iconst 0, 1) ∧ 6 + 1 = 7 := ⟨by decide +kernel, rfl⟩
theorem eX6_wipe_7 : decode cX6_wipe 7 = .ok (.putfield 63, 3) ∧ 7 + 3 = 10 := ⟨by decide +kernel, rfl⟩
theorem eX6_wipe_10 : decode cX6_wipe 10 = .ok (.iload_n 1, 1) ∧ 10 + 1 = 11 := ⟨by decide +kernel, rfl⟩
theorem eX6_wipe_11 : decode cX6_wipe 11 = .ok (.ireturn, 1) := by decide +kernel
theorem eX6_mayBe_0 : decode cX6_mayBe 0 = .ok (.aload_n 0, 1) ∧ 0 + 1 = 1 := ⟨by decide +kernel, rfl⟩
theorem eX6_mayBe_1 : decode cX6_mayBe 1 = .ok (.getfield 28, 3) ∧ 1 + 3 = 4 := ⟨by decide +kernel, rfl⟩
theorem eX6_mayBe_4 : decode cX6_mayBe 4 = .ok (.iload_n 1, 1) ∧ 4 + 1 = 5 := ⟨by decide +kernel, rfl⟩
theorem eX6_mayBe_5 : decode cX6_mayBe 5 = .ok (.iaload, 1) ∧ 5 + 1 = 6 := ⟨by decide +kernel, rfl⟩
theorem eX6_mayBe_6 : decode cX6_mayBe 6 = .ok (.bipush 48, 2) ∧ 6 + 2 = 8 := ⟨by decide +kernel, rfl⟩
theorem eX6_mayBe_8 : decode cX6_mayBe 8 = .ok (.isub, 1) ∧ 8 + 1 = 9 := ⟨by decide +kernel, rfl⟩
theorem eX6_mayBe_9 : decode cX6_mayBe 9 = .ok (.istore_n 2, 1) ∧ 9 + 1 = 10 := ⟨by decide +kernel, rfl⟩
theorem eX6_mayBe_10 : decode cX6_mayBe 10 = .ok (.iload_n 1, 1) ∧ 10 + 1 = 11 := ⟨by decide +kernel, rfl⟩
theorem eX6_mayBe_11 : decode cX6_mayBe 11 = .ok (.bipush 8, 2) ∧ 11 + 2 = 13 := ⟨by decide +kernel, rfl⟩
theorem eX6_mayBe_13 : decode cX6_mayBe 13 = .ok (.if_icmp .ge 64, 3) ∧ ((13 : Nat) : Int) + 64 = ((77 : Nat) : Int) ∧ 13 + 3 = 16 := ⟨by decide +kernel, by decide, rfl⟩
theorem eX6_mayBe_16 : decode cX6_mayBe 16 = .ok (.iload_n 1, 1) ∧ 16 + 1 = 17 := ⟨by decide +kernel, rfl⟩
theorem eX6_mayBe_17 : decode cX6_mayBe 17 = .ok (.ifCond .ne 22, 3) ∧ ((17 : Nat) : Int) + 22 = ((39 : Nat) : Int) ∧ 17 + 3 = 20 := ⟨by decide +kernel, by decide, rfl⟩
theorem eX6_mayBe_20 : decode cX6_mayBe 20 = .ok (.aload_n 0, 1) ∧ 20 + 1 = 21 := ⟨by decide +kernel, rfl⟩
theorem eX6_mayBe_21 : decode cX6_mayBe 21 = .ok (.getfield 28, 3) ∧ 21 + 3 = 24 := ⟨by decide +kernel, rfl⟩
theorem eX6_mayBe_24 : decode cX6_mayBe 24 = .ok (.iconst 0, 1) ∧ 24 + 1 = 25 := ⟨by decide +kernel, rfl⟩
theorem eX6_mayBe_25 : decode cX6_mayBe 25 = .ok (.iaload, 1) ∧ 25 + 1 = 26 := ⟨by decide +kernel, rfl⟩
theorem eX6_mayBe_26 : decode cX6_mayBe 26 = .ok (.bipush 78, 2) ∧ 26 + 2 = 28 := ⟨by decide +kernel, rfl⟩
theorem eX6_mayBe_28 : decode cX6_mayBe 28 = .ok (.if_icmp .ne 7, 3) ∧ ((28 : Nat) : Int) + 7 = ((35 : Nat) : Int) ∧ 28 + 3 = 31 := ⟨by decide +kernel, by decide, rfl⟩
theorem eX6_mayBe_31 : decode cX6_mayBe 31 = .ok (.iconst 1, 1) ∧ 31 + 1 = 32 := ⟨by decide +kernel, rfl⟩
theorem eX6_mayBe_32 : decode cX6_mayBe 32 = .ok (.goto 44, 3) ∧ ((32 : Nat) : Int) + 44 = ((76 : Nat) : Int) := ⟨by decide +kernel, by decide⟩
theorem eX6_mayBe_35 : decode cX6_mayBe 35 = .ok (.iconst 0, 1) ∧ 35 + 1 = 36 := ⟨by decide +kernel, rfl⟩
theorem eX6_mayBe_36 : decode cX6_mayBe 36 = .ok (.goto 40, 3) ∧ ((36 : Nat) : Int) + 40 = ((76 : Nat) : Int) := ⟨by decide +kernel, by decide⟩
theorem eX6_mayBe_39 : decode cX6_mayBe 39 = .ok (.iload_n 1, 1) ∧ 39 + 1 = 40 := ⟨by decide +kernel, rfl⟩
theorem eX6_mayBe_40 : decode cX6_mayBe 40 = .ok (.iconst 1, 1) ∧ 40 + 1 = 41 := ⟨by decide +kernel, rfl⟩
theorem eX6_mayBe_41 : decode cX6_mayBe 41 = .ok (.if_icmp .ne 15, 3) ∧ ((41 : Nat) : Int) + 15 = ((56 : Nat) : Int) ∧ 41 + 3 = 44 := ⟨by decide +kernel, by decide, rfl⟩
theorem eX6_mayBe_44 : decode cX6_mayBe 44 = .ok (.iload_n 2, 1) ∧ 44 + 1 = 45 := ⟨by decide +kernel, rfl⟩
theorem eX6_mayBe_45 : decode cX6_mayBe 45 = .ok (.i2l, 1) ∧ 45 + 1 = 46 := ⟨by decide +kernel, rfl⟩
theorem eX6_mayBe_46 : decode cX6_mayBe 46 = .ok (.lconst 1, 1) ∧ 46 + 1 = 47 := ⟨by decide +kernel, rfl⟩
theorem eX6_mayBe_47 : decode cX6_mayBe 47 = .ok (.ldc2_w 66, 3) ∧ 47 + 3 = 50 := ⟨by decide +kernel, rfl⟩
theorem eX6_mayBe_50 : decode cX6_mayBe 50 = .ok (.invokestatic 59, 3) ∧ 50 + 3 = 53 := ⟨by decide +kernel, rfl⟩
theorem eX6_mayBe_53 : decode cX6_mayBe 53 = .ok (.goto 23, 3) ∧ ((53 : Nat) : Int) + 23 = ((76 : Nat) : Int) := ⟨by decide +kernel, by decide⟩
theorem eX6_mayBe_56 : decode cX6_mayBe 56 = .ok (.iload_n 2, 1) ∧ 56 + 1 = 57 := ⟨by decide +kernel, rfl⟩
theorem eX6_mayBe_57 : decode cX6_mayBe 57 = .ok (.i2l, 1) ∧ 57 + 1 = 58 := ⟨by decide +kernel, rfl⟩
theorem eX6_mayBe_58 : decode cX6_mayBe 58 = .ok (.lconst 0, 1) ∧ 58 + 1 = 59 := ⟨by decide +kernel, rfl⟩
theorem eX6_mayBe_59 : decode cX6_mayBe 59 = .ok (.iload_n 1, 1) ∧ 59 + 1 = 60 := ⟨by decide +kernel, rfl⟩
theorem eX6_mayBe_60 : decode cX6_mayBe 60 = .ok (.iconst 2, 1) ∧ 60 + 1 = 61 := ⟨by decide +kernel, rfl⟩
theorem eX6_mayBe_61 : decode cX6_mayBe 61 = .ok (.if_icmp .ne 9, 3) ∧ ((61 : Nat) : Int) + 9 = ((70 : Nat) : Int) ∧ 61 + 3 = 64 := ⟨by decide +kernel, by decide, rfl⟩
theorem eX6_mayBe_64 : decode cX6_mayBe 64 = .ok (.ldc2_w 68, 3) ∧ 64 + 3 = 67 := ⟨by decide +kernel, rfl⟩
theorem eX6_mayBe_67 : decode cX6_mayBe 67 = .ok (.goto 6, 3) ∧ ((67 : Nat) : Int) + 6 = ((73 : Nat) : Int) := ⟨by decide +kernel, by decide⟩
theorem eX6_mayBe_70 : decode cX6_mayBe 70 = .ok (.ldc2_w 70, 3) ∧ 70 + 3 = 73 := ⟨by decide +kernel, rfl⟩
theorem eX6_mayBe_73 : decode cX6_mayBe 73 = .ok (.invokestatic 59, 3) ∧ 73 + 3 = 76 := ⟨by decide +kernel, rfl⟩
theorem eX6_mayBe_76 : decode cX6_mayBe 76 = .ok (.ireturn, 1) := by decide +kernel
theorem eX6_mayBe_77 : decode cX6_mayBe 77 = .ok (.iload_n 1, 1) ∧ 77 + 1 = 78 := ⟨by decide +kernel, rfl⟩
theorem eX6_mayBe_78 : decode cX6_mayBe 78 = .ok (.bipush 8, 2) ∧ 78 + 2 = 80 := ⟨by decide +kernel, rfl⟩
theorem eX6_mayBe_80 : decode cX6_mayBe 80 = .ok (.isub, 1) ∧ 80 + 1 = 81 := ⟨by decide +kernel, rfl⟩
theorem eX6_mayBe_81 : decode cX6_mayBe 81 = .ok (.bipush 6, 2) ∧ 81 + 2 = 83 := ⟨by decide +kernel, rfl⟩
theorem eX6_mayBe_83 : decode cX6_mayBe 83 = .ok (.irem, 1) ∧ 83 + 1 = 84 := ⟨by decide +kernel, rfl⟩
theorem eX6_mayBe_84 : decode cX6_mayBe 84 = .ok (.tableswitch 110 0 4 #[36, 59, 69, 79, 100], 36) := by decide +kernel
theorem eX6_mayBe_120 : decode cX6_mayBe 120 = .ok (.iload_n 1, 1) ∧ 120 + 1 = 121 := ⟨by decide +kernel, rfl⟩
theorem eX6_mayBe_121 : decode cX6_mayBe 121 = .ok (.bipush 44, 2) ∧ 121 + 2 = 123 := ⟨by decide +kernel, rfl⟩
theorem eX6_mayBe_123 : decode cX6_mayBe 123 = .ok (.if_icmp .ge 18, 3) ∧ ((123 : Nat) : Int) + 18 = ((141 : Nat) : Int) ∧ 123 + 3 = 126 := ⟨by decide +kernel, by decide, rfl⟩
theorem eX6_mayBe_126 : decode cX6_mayBe 126 = .ok (.aload_n 0, 1) ∧ 126 + 1 = 127 := ⟨by decide +kernel, rfl⟩
theorem eX6_mayBe_127 : decode cX6_mayBe 127 = .ok (.getfield 28, 3) ∧ 127 + 3 = 130 := ⟨by decide +kernel, rfl⟩
theorem eX6_mayBe_130 : decode cX6_mayBe 130 = .ok (.iload_n 1, 1) ∧ 130 + 1 = 131 := ⟨by decide +kernel, rfl⟩
theorem eX6_mayBe_131 : decode cX6_mayBe 131 = .ok (.iaload, 1) ∧ 131 + 1 = 132 := ⟨by decide +kernel, rfl⟩
theorem eX6_mayBe_132 : decode cX6_mayBe 132 = .ok (.bipush 87, 2) ∧ 132 + 2 = 134 := ⟨by decide +kernel, rfl⟩
theorem eX6_mayBe_134 : decode cX6_mayBe 134 = .ok (.if_icmp .ne 7, 3) ∧ ((134 : Nat) : Int) + 7 = ((141 : Nat) : Int) ∧ 134 + 3 = 137 := ⟨by decide +kernel, by decide, rfl⟩
theorem eX6_mayBe_137 : decode cX6_mayBe 137 = .ok (.iconst 1, 1) ∧ 137 + 1 = 138 := ⟨by decide +kernel, rfl⟩
theorem eX6_mayBe_138 : decode cX6_mayBe 138 = .ok (.goto 4, 3) ∧ ((138 : Nat) : Int) + 4 = ((142 : Nat) : Int) := ⟨by decide +kernel, by decide⟩
theorem eX6_mayBe_141 : decode cX6_mayBe 141 = .ok (.iconst 0, 1) ∧ 141 + 1 = 142 := ⟨by decide +kernel, rfl⟩
theorem eX6_mayBe_142 : decode cX6_mayBe 142 = .ok (.ireturn, 1) := by decide +kernel
theorem eX6_mayBe_143 : decode cX6_mayBe 143 = .ok (.iload_n 2, 1) ∧ 143 + 1 = 144 := ⟨by decide +kernel, rfl⟩
theorem eX6_mayBe_144 : decode cX6_mayBe 144 = .ok (.i2l, 1) ∧ 144 + 1 = 145 := ⟨by decide +kernel, rfl⟩
theorem eX6_mayBe_145 : decode cX6_mayBe 145 = .ok (.lconst 0, 1) ∧ 145 + 1 = 146 := ⟨by decide +kernel, rfl⟩
theorem eX6_mayBe_146 : decode cX6_mayBe 146 = .ok (.ldc2_w 68, 3) ∧ 146 + 3 = 149 := ⟨by decide +kernel, rfl⟩
theorem eX6_mayBe_149 : decode cX6_mayBe 149 = .ok (.invokestatic 59, 3) ∧ 149 + 3 = 152 := ⟨by decide +kernel, rfl⟩
theorem eX6_mayBe_152 : decode cX6_mayBe 152 = .ok (.ireturn, 1) := by decide +kernel
theorem eX6_mayBe_153 : decode cX6_mayBe 153 = .ok (.iload_n 2, 1) ∧ 153 + 1 = 154 := ⟨by decide +kernel, rfl⟩
theorem eX6_mayBe_154 : decode cX6_mayBe 154 = .ok (.i2l, 1) ∧ 154 + 1 = 155 := ⟨by decide +kernel, rfl⟩
theorem eX6_mayBe_155 : decode cX6_mayBe 155 = .ok (.lconst 0, 1) ∧ 155 + 1 = 156 := ⟨by decide +kernel, rfl⟩
theorem eX6_mayBe_156 : decode cX6_mayBe 156 = .ok (.ldc2_w 66, 3) ∧ 156 + 3 = 159 := ⟨by decide +kernel, rfl⟩
theorem eX6_mayBe_159 : decode cX6_mayBe 159 = .ok (.invokestatic 59, 3) ∧ 159 + 3 = 162 := ⟨by decide +kernel, rfl⟩
theorem eX6_mayBe_162 : decode cX6_mayBe 162 = .ok (.ireturn, 1) := by decide +kernel
theorem eX6_mayBe_163 : decode cX6_mayBe 163 = .ok (.iload_n 2, 1) ∧ 163 + 1 = 164 := ⟨by decide +kernel, rfl⟩
theorem eX6_mayBe_164 : decode cX6_mayBe 164 = .ok (.i2l, 1) ∧ 164 + 1 = 165 := ⟨by decide +kernel, rfl⟩
theorem eX6_mayBe_165 : decode cX6_mayBe 165 = .ok (.aload_n 0, 1) ∧ 165 + 1 = 166 := ⟨by decide +kernel, rfl⟩
theorem eX6_mayBe_166 : decode cX6_mayBe 166 = .ok (.getfield 28, 3) ∧ 166 + 3 = 169 := ⟨by decide +kernel, rfl⟩
theorem eX6_mayBe_169 : decode cX6_mayBe 169 = .ok (.iload_n 1, 1) ∧ 169 + 1 = 170 := ⟨by decide +kernel, rfl⟩
theorem eX6_mayBe_170 : decode cX6_mayBe 170 = .ok (.iconst 1, 1) ∧ 170 + 1 = 171 := ⟨by decide +kernel, rfl⟩
theorem eX6_mayBe_171 : decode cX6_mayBe 171 = .ok (.isub, 1) ∧ 171 + 1 = 172 := ⟨by decide +kernel, rfl⟩
theorem eX6_mayBe_172 : decode cX6_mayBe 172 = .ok (.iaload, 1) ∧ 172 + 1 = 173 := ⟨by decide +kernel, rfl⟩
theorem eX6_mayBe_173 : decode cX6_mayBe 173 = .ok (.bipush 48, 2) ∧ 173 + 2 = 175 := ⟨by decide +kernel, rfl⟩
theorem eX6_mayBe_175 : decode cX6_mayBe 175 = .ok (.isub, 1) ∧ 175 + 1 = 176 := ⟨by decide +kernel, rfl⟩
theorem eX6_mayBe_176 : decode cX6_mayBe 176 = .ok (.i2l, 1) ∧ 176 + 1 = 177 := ⟨by decide +kernel, rfl⟩
theorem eX6_mayBe_177 : decode cX6_mayBe 177 = .ok (.ldc2_w 66, 3) ∧ 177 + 3 = 180 := ⟨by decide +kernel, rfl⟩
theorem eX6_mayBe_180 : decode cX6_mayBe 180 = .ok (.invokestatic 59, 3) ∧ 180 + 3 = 183 := ⟨by decide +kernel, rfl⟩
theorem eX6_mayBe_183 : decode cX6_mayBe 183 = .ok (.ireturn, 1) := by decide +kernel
theorem eX6_mayBe_184 : decode cX6_mayBe 184 = .ok (.iload_n 2, 1) ∧ 184 + 1 = 185 := ⟨by decide +kernel, rfl⟩
theorem eX6_mayBe_185 : decode cX6_mayBe 185 = .ok (.i2l, 1) ∧ 185 + 1 = 186 := ⟨by decide +kernel, rfl⟩
theorem eX6_mayBe_186 : decode cX6_mayBe 186 = .ok (.lconst 1, 1) ∧ 186 + 1 = 187 := ⟨by decide +kernel, rfl⟩
theorem eX6_mayBe_187 : decode cX6_mayBe 187 = .ok (.ldc2_w 70, 3) ∧ 187 + 3 = 190 := ⟨by decide +kernel, rfl⟩
theorem eX6_mayBe_190 : decode cX6_mayBe 190 = .ok (.invokestatic 59, 3) ∧ 190 + 3 = 193 := ⟨by decide +kernel, rfl⟩
theorem eX6_mayBe_193 : decode cX6_mayBe 193 = .ok (.ireturn, 1) := by decide +kernel
theorem eX6_mayBe_194 : decode cX6_mayBe 194 = .ok (.iload_n 2, 1) ∧ 194 + 1 = 195 := ⟨by decide +kernel, rfl⟩
theorem eX6_mayBe_195 : decode cX6_mayBe 195 = .ok (.i2l, 1) ∧ 195 + 1 = 196 := ⟨by decide +kernel, rfl⟩
theorem eX6_mayBe_196 : decode cX6_mayBe 196 = .ok (.lconst 0, 1) ∧ 196 + 1 = 197 := ⟨by decide +kernel, rfl⟩
theorem eX6_mayBe_197 : decode cX6_mayBe 197 = .ok (.ldc2_w 70, 3) ∧ 197 + 3 = 200 := ⟨by decide +kernel, rfl⟩
theorem eX6_mayBe_200 : decode cX6_mayBe 200 = .ok (.invokestatic 59, 3) ∧ 200 + 3 = 203 := ⟨by decide +kernel, rfl⟩
theorem eX6_mayBe_203 : decode cX6_mayBe 203 = .ok (.ireturn, 1) := by decide +kernel
theorem eX6_fault_0 : decode cX6_fault 0 = .ok (.iconst 0, 1) ∧ 0 + 1 = 1 := ⟨by decide +kernel, rfl⟩
theorem eX6_fault_1 : decode cX6_fault 1 = .ok (.istore_n 1, 1) ∧ 1 + 1 = 2 := ⟨by decide +kernel, rfl⟩
theorem eX6_fault_2 : decode cX6_fault 2 = .ok (.iload_n 1, 1) ∧ 2 + 1 = 3 := ⟨by decide +kernel, rfl⟩
theorem eX6_fault_3 : decode cX6_fault 3 = .ok (.aload_n 0, 1) ∧ 3 + 1 = 4 := ⟨by decide +kernel, rfl⟩
theorem eX6_fault_4 : decode cX6_fault 4 = .ok (.getfield 63, 3) ∧ 4 + 3 = 7 := ⟨by decide +kernel, rfl⟩
theorem eX6_fault_7 : decode cX6_fault 7 = .ok (.if_icmp .ge 19, 3) ∧ ((7 : Nat) : Int) + 19 = ((26 : Nat) : Int) ∧ 7 + 3 = 10 := ⟨by decide +kernel, by decide, rfl⟩
theorem eX6_fault_10 : decode cX6_fault 10 = .ok (.aload_n 0, 1) ∧ 10 + 1 = 11 := ⟨by decide +kernel, rfl⟩
theorem eX6_fault_11 : decode cX6_fault 11 = .ok (.iload_n 1, 1) ∧ 11 + 1 = 12 := ⟨by decide +kernel, rfl⟩
theorem eX6_fault_12 : decode cX6_fault 12 = .ok (.invokevirtual 72, 3) ∧ 12 + 3 = 15 := ⟨by decide +kernel, rfl⟩
theorem eX6_fault_15 : decode cX6_fault 15 = .ok (.ifCond .ne 5, 3) ∧ ((15 : Nat) : Int) + 5 = ((20 : Nat) : Int) ∧ 15 + 3 = 18 := ⟨by decide +kernel, by decide, rfl⟩
theorem eX6_fault_18 : decode cX6_fault 18 = .ok (.iload_n 1, 1) ∧ 18 + 1 = 19 := ⟨by decide +kernel, rfl⟩
theorem eX6_fault_19 : decode cX6_fault 19 = .ok (.ireturn, 1) := by decide +kernel
theorem eX6_fault_20 : decode cX6_fault 20 = .ok (.iinc 1 1, 3) ∧ 20 + 3 = 23 := ⟨by decide +kernel, rfl⟩
theorem eX6_fault_23 : decode cX6_fault 23 = .ok (.goto (-21), 3) ∧ ((23 : Nat) : Int) + (-21) = ((2 : Nat) : Int) := ⟨by decide +kernel, by decide⟩
theorem eX6_fault_26 : decode cX6_fault 26 = .ok (.aload_n 0, 1) ∧ 26 + 1 = 27 := ⟨by decide +kernel, rfl⟩
theorem eX6_fault_27 : decode cX6_fault 27 = .ok (.getfield 63, 3) ∧ 27 + 3 = 30 := ⟨by decide +kernel, rfl⟩
theorem eX6_fault_30 : decode cX6_fault 30 = .ok (.bipush 7, 2) ∧ 30 + 2 = 32 := ⟨by decide +kernel, rfl⟩
theorem eX6_fault_32 : decode cX6_fault 32 = .ok (.if_icmp .le 21, 3) ∧ ((32 : Nat) : Int) + 21 = ((53 : Nat) : Int) ∧ 32 + 3 = 35 := ⟨by decide +kernel, by decide, rfl⟩
theorem eX6_fault_35 : decode cX6_fault 35 = .ok (.aload_n 0, 1) ∧ 35 + 1 = 36 := ⟨by decide +kernel, rfl⟩
theorem eX6_fault_36 : decode cX6_fault 36 = .ok (.getfield 63, 3) ∧ 36 + 3 = 39 := ⟨by decide +kernel, rfl⟩
theorem eX6_fault_39 : decode cX6_fault 39 = .ok (.bipush 8, 2) ∧ 39 + 2 = 41 := ⟨by decide +kernel, rfl⟩
theorem eX6_fault_41 : decode cX6_fault 41 = .ok (.isub, 1) ∧ 41 + 1 = 42 := ⟨by decide +kernel, rfl⟩
theorem eX6_fault_42 : decode cX6_fault 42 = .ok (.bipush 6, 2) ∧ 42 + 2 = 44 := ⟨by decide +kernel, rfl⟩
theorem eX6_fault_44 : decode cX6_fault 44 = .ok (.irem, 1) ∧ 44 + 1 = 45 := ⟨by decide +kernel, rfl⟩
theorem eX6_fault_45 : decode cX6_fault 45 = .ok (.ifCond .ne 8, 3) ∧ ((45 : Nat) : Int) + 8 = ((53 : Nat) : Int) ∧ 45 + 3 = 48 := ⟨by decide +kernel, by decide, rfl⟩
theorem eX6_fault_48 : decode cX6_fault 48 = .ok (.bipush (-9), 2) ∧ 48 + 2 = 50 := ⟨by decide +kernel, rfl⟩
theorem eX6_fault_50 : decode cX6_fault 50 = .ok (.goto 7, 3) ∧ ((50 : Nat) : Int) + 7 = ((57 : Nat) : Int) := ⟨by decide +kernel, by decide⟩
theorem eX6_fault_53 : decode cX6_fault 53 = .ok (.aload_n 0, 1) ∧ 53 + 1 = 54 := ⟨by decide +kernel, rfl⟩
theorem eX6_fault_54 : decode cX6_fault 54 = .ok (.getfield 63, 3) ∧ 54 + 3 = 57 := ⟨by decide +kernel, rfl⟩
theorem eX6_fault_57 : decode cX6_fault 57 = .ok (.ireturn, 1) := by decide +kernel
theorem eX6_parish_0 : decode cX6_parish 0 = .ok (.aload_n 0, 1) ∧ 0 + 1 = 1 := ⟨by decide +kernel, rfl⟩
theorem eX6_parish_1 : decode cX6_parish 1 = .ok (.invokevirtual 76, 3) ∧ 1 + 3 = 4 := ⟨by decide +kernel, rfl⟩
theorem eX6_parish_4 : decode cX6_parish 4 = .ok (.bipush (-9), 2) ∧ 4 + 2 = 6 := ⟨by decide +kernel, rfl⟩
theorem eX6_parish_6 : decode cX6_parish 6 = .ok (.if_icmp .eq 6, 3) ∧ ((6 : Nat) : Int) + 6 = ((12 : Nat) : Int) ∧ 6 + 3 = 9 := ⟨by decide +kernel, by decide, rfl⟩
theorem eX6_parish_9 : decode cX6_parish 9 = .ok (.bipush (-3), 2) ∧ 9 + 2 = 11 := ⟨by decide +kernel, rfl⟩
theorem eX6_parish_11 : decode cX6_parish 11 = .ok (.ireturn, 1) := by decide +kernel
theorem eX6_parish_12 : decode cX6_parish 12 = .ok (.aload_n 0, 1) ∧ 12 + 1 = 13 := ⟨by decide +kernel, rfl⟩
theorem eX6_parish_13 : decode cX6_parish 13 = .ok (.aload_n 0, 1) ∧ 13 + 1 = 14 := ⟨by decide +kernel, rfl⟩
theorem eX6_parish_14 : decode cX6_parish 14 = .ok (.getfield 63, 3) ∧ 14 + 3 = 17 := ⟨by decide +kernel, rfl⟩
theorem eX6_parish_17 : decode cX6_parish 17 = .ok (.bipush 8, 2) ∧ 17 + 2 = 19 := ⟨by decide +kernel, rfl⟩
theorem eX6_parish_19 : decode cX6_parish 19 = .ok (.isub, 1) ∧ 19 + 1 = 20 := ⟨by decide +kernel, rfl⟩
theorem eX6_parish_20 : decode cX6_parish 20 = .ok (.bipush 6, 2) ∧ 20 + 2 = 22 := ⟨by decide +kernel, rfl⟩
theorem eX6_parish_22 : decode cX6_parish 22 = .ok (.idiv, 1) ∧ 22 + 1 = 23 := ⟨by decide +kernel, rfl⟩
theorem eX6_parish_23 : decode cX6_parish 23 = .ok (.putfield 80, 3) ∧ 23 + 3 = 26 := ⟨by decide +kernel, rfl⟩
theorem eX6_parish_26 : decode cX6_parish 26 = .ok (.aload_n 0, 1) ∧ 26 + 1 = 27 := ⟨by decide +kernel, rfl⟩
theorem eX6_parish_27 : decode cX6_parish 27 = .ok (.aload_n 0, 1) ∧ 27 + 1 = 28 := ⟨by decide +kernel, rfl⟩
theorem eX6_parish_28 : decode cX6_parish 28 = .ok (.getfield 28, 3) ∧ 28 + 3 = 31 := ⟨by decide +kernel, rfl⟩
theorem eX6_parish_31 : decode cX6_parish 31 = .ok (.iconst 1, 1) ∧ 31 + 1 = 32 := ⟨by decide +kernel, rfl⟩
theorem eX6_parish_32 : decode cX6_parish 32 = .ok (.iaload, 1) ∧ 32 + 1 = 33 := ⟨by decide +kernel, rfl⟩
theorem eX6_parish_33 : decode cX6_parish 33 = .ok (.bipush 48, 2) ∧ 33 + 2 = 35 := ⟨by decide +kernel, rfl⟩
theorem eX6_parish_35 : decode cX6_parish 35 = .ok (.isub, 1) ∧ 35 + 1 = 36 := ⟨by decide +kernel, rfl⟩
theorem eX6_parish_36 : decode cX6_parish 36 = .ok (.putfield 53, 3) ∧ 36 + 3 = 39 := ⟨by decide +kernel, rfl⟩
theorem eX6_parish_39 : decode cX6_parish 39 = .ok (.aload_n 0, 1) ∧ 39 + 1 = 40 := ⟨by decide +kernel, rfl⟩
theorem eX6_parish_40 : decode cX6_parish 40 = .ok (.getfield 25, 3) ∧ 40 + 3 = 43 := ⟨by decide +kernel, rfl⟩
theorem eX6_parish_43 : decode cX6_parish 43 = .ok (.iconst 0, 1) ∧ 43 + 1 = 44 := ⟨by decide +kernel, rfl⟩
theorem eX6_parish_44 : decode cX6_parish 44 = .ok (.iconst 0, 1) ∧ 44 + 1 = 45 := ⟨by decide +kernel, rfl⟩
theorem eX6_parish_45 : decode cX6_parish 45 = .ok (.iastore, 1) ∧ 45 + 1 = 46 := ⟨by decide +kernel, rfl⟩
theorem eX6_parish_46 : decode cX6_parish 46 = .ok (.aload_n 0, 1) ∧ 46 + 1 = 47 := ⟨by decide +kernel, rfl⟩
theorem eX6_parish_47 : decode cX6_parish 47 = .ok (.getfield 25, 3) ∧ 47 + 3 = 50 := ⟨by decide +kernel, rfl⟩
theorem eX6_parish_50 : decode cX6_parish 50 = .ok (.iconst 1, 1) ∧ 50 + 1 = 51 := ⟨by decide +kernel, rfl⟩
theorem eX6_parish_51 : decode cX6_parish 51 = .ok (.aload_n 0, 1) ∧ 51 + 1 = 52 := ⟨by decide +kernel, rfl⟩
theorem eX6_parish_52 : decode cX6_parish 52 = .ok (.getfield 28, 3) ∧ 52 + 3 = 55 := ⟨by decide +kernel, rfl⟩
theorem eX6_parish_55 : decode cX6_parish 55 = .ok (.iconst 2, 1) ∧ 55 + 1 = 56 := ⟨by decide +kernel, rfl⟩
theorem eX6_parish_56 : decode cX6_parish 56 = .ok (.iaload, 1) ∧ 56 + 1 = 57 := ⟨by decide +kernel, rfl⟩
theorem eX6_parish_57 : decode cX6_parish 57 = .ok (.bipush 48, 2) ∧ 57 + 2 = 59 := ⟨by decide +kernel, rfl⟩
theorem eX6_parish_59 : decode cX6_parish 59 = .ok (.isub, 1) ∧ 59 + 1 = 60 := ⟨by decide +kernel, rfl⟩
theorem eX6_parish_60 : decode cX6_parish 60 = .ok (.iastore, 1) ∧ 60 + 1 = 61 := ⟨by decide +kernel, rfl⟩
theorem eX6_parish_61 : decode cX6_parish 61 = .ok (.aload_n 0, 1) ∧ 61 + 1 = 62 := ⟨by decide +kernel, rfl⟩
theorem eX6_parish_62 : decode cX6_parish 62 = .ok (.getfield 25, 3) ∧ 62 + 3 = 65 := ⟨by decide +kernel, rfl⟩
theorem eX6_parish_65 : decode cX6_parish 65 = .ok (.iconst 2, 1) ∧ 65 + 1 = 66 := ⟨by decide +kernel, rfl⟩
theorem eX6_parish_66 : decode cX6_parish 66 = .ok (.iconst 0, 1) ∧ 66 + 1 = 67 := ⟨by decide +kernel, rfl⟩
theorem eX6_parish_67 : decode cX6_parish 67 = .ok (.iastore, 1) ∧ 67 + 1 = 68 := ⟨by decide +kernel, rfl⟩
theorem eX6_parish_68 : decode cX6_parish 68 = .ok (.iconst 0, 1) ∧ 68 + 1 = 69 := ⟨by decide +kernel, rfl⟩
theorem eX6_parish_69 : decode cX6_parish 69 = .ok (.istore_n 1, 1) ∧ 69 + 1 = 70 := ⟨by decide +kernel, rfl⟩
theorem eX6_parish_70 : decode cX6_parish 70 = .ok (.iload_n 1, 1) ∧ 70 + 1 = 71 := ⟨by decide +kernel, rfl⟩
theorem eX6_parish_71 : decode cX6_parish 71 = .ok (.iconst 5, 1) ∧ 71 + 1 = 72 := ⟨by decide +kernel, rfl⟩
theorem eX6_parish_72 : decode cX6_parish 72 = .ok (.if_icmp .ge 28, 3) ∧ ((72 : Nat) : Int) + 28 = ((100 : Nat) : Int) ∧ 72 + 3 = 75 := ⟨by decide +kernel, by decide, rfl⟩
theorem eX6_parish_75 : decode cX6_parish 75 = .ok (.aload_n 0, 1) ∧ 75 + 1 = 76 := ⟨by decide +kernel, rfl⟩
theorem eX6_parish_76 : decode cX6_parish 76 = .ok (.getfield 25, 3) ∧ 76 + 3 = 79 := ⟨by decide +kernel, rfl⟩
theorem eX6_parish_79 : decode cX6_parish 79 = .ok (.iconst 3, 1) ∧ 79 + 1 = 80 := ⟨by decide +kernel, rfl⟩
theorem eX6_parish_80 : decode cX6_parish 80 = .ok (.iload_n 1, 1) ∧ 80 + 1 = 81 := ⟨by decide +kernel, rfl⟩
theorem eX6_parish_81 : decode cX6_parish 81 = .ok (.iadd, 1) ∧ 81 + 1 = 82 := ⟨by decide +kernel, rfl⟩
theorem eX6_parish_82 : decode cX6_parish 82 = .ok (.aload_n 0, 1) ∧ 82 + 1 = 83 := ⟨by decide +kernel, rfl⟩
theorem eX6_parish_83 : decode cX6_parish 83 = .ok (.getfield 28, 3) ∧ 83 + 3 = 86 := ⟨by decide +kernel, rfl⟩
theorem eX6_parish_86 : decode cX6_parish 86 = .ok (.iconst 3, 1) ∧ 86 + 1 = 87 := ⟨by decide +kernel, rfl⟩
theorem eX6_parish_87 : decode cX6_parish 87 = .ok (.iload_n 1, 1) ∧ 87 + 1 = 88 := ⟨by decide +kernel, rfl⟩
theorem eX6_parish_88 : decode cX6_parish 88 = .ok (.iadd, 1) ∧ 88 + 1 = 89 := ⟨by decide +kernel, rfl⟩
theorem eX6_parish_89 : decode cX6_parish 89 = .ok (.iaload, 1) ∧ 89 + 1 = 90 := ⟨by decide +kernel, rfl⟩
theorem eX6_parish_90 : decode cX6_parish 90 = .ok (.bipush 48, 2) ∧ 90 + 2 = 92 := ⟨by decide +kernel, rfl⟩
theorem eX6_parish_92 : decode cX6_parish 92 = .ok (.isub, 1) ∧ 92 + 1 = 93 := ⟨by decide +kernel, rfl⟩
theorem eX6_parish_93 : decode cX6_parish 93 = .ok (.iastore, 1) ∧ 93 + 1 = 94 := ⟨by decide +kernel, rfl⟩
theorem eX6_parish_94 : decode cX6_parish 94 = .ok (.iinc 1 1, 3) ∧ 94 + 3 = 97 := ⟨by decide +kernel, rfl⟩
theorem eX6_parish_97 : decode cX6_parish 97 = .ok (.goto (-27), 3) ∧ ((97 : Nat) : Int) + (-27) = ((70 : Nat) : Int) := ⟨by decide +kernel, by decide⟩
theorem eX6_parish_100 : decode cX6_parish 100 = .ok (.iconst 0, 1) ∧ 100 + 1 = 101 := ⟨by decide +kernel, rfl⟩
theorem eX6_parish_101 : decode cX6_parish 101 = .ok (.istore_n 1, 1) ∧ 101 + 1 = 102 := ⟨by decide +kernel, rfl⟩
theorem eX6_parish_102 : decode cX6_parish 102 = .ok (.iload_n 1, 1) ∧ 102 + 1 = 103 := ⟨by decide +kernel, rfl⟩
theorem eX6_parish_103 : decode cX6_parish 103 = .ok (.aload_n 0, 1) ∧ 103 + 1 = 104 := ⟨by decide +kernel, rfl⟩
theorem eX6_parish_104 : decode cX6_parish 104 = .ok (.getfield 80, 3) ∧ 104 + 3 = 107 := ⟨by decide +kernel, rfl⟩
theorem eX6_parish_107 : decode cX6_parish 107 = .ok (.if_icmp .ge 102, 3) ∧ ((107 : Nat) : Int) + 102 = ((209 : Nat) : Int) ∧ 107 + 3 = 110 := ⟨by decide +kernel, by decide, rfl⟩
theorem eX6_parish_110 : decode cX6_parish 110 = .ok (.bipush 8, 2) ∧ 110 + 2 = 112 := ⟨by decide +kernel, rfl⟩
theorem eX6_parish_112 : decode cX6_parish 112 = .ok (.bipush 6, 2) ∧ 112 + 2 = 114 := ⟨by decide +kernel, rfl⟩
theorem eX6_parish_114 : decode cX6_parish 114 = .ok (.iload_n 1, 1) ∧ 114 + 1 = 115 := ⟨by decide +kernel, rfl⟩
theorem eX6_parish_115 : decode cX6_parish 115 = .ok (.imul, 1) ∧ 115 + 1 = 116 := ⟨by decide +kernel, rfl⟩
theorem eX6_parish_116 : decode cX6_parish 116 = .ok (.iadd, 1) ∧ 116 + 1 = 117 := ⟨by decide +kernel, rfl⟩
theorem eX6_parish_117 : decode cX6_parish 117 = .ok (.istore_n 2, 1) ∧ 117 + 1 = 118 := ⟨by decide +kernel, rfl⟩
theorem eX6_parish_118 : decode cX6_parish 118 = .ok (.aload_n 0, 1) ∧ 118 + 1 = 119 := ⟨by decide +kernel, rfl⟩
theorem eX6_parish_119 : decode cX6_parish 119 = .ok (.getfield 7, 3) ∧ 119 + 3 = 122 := ⟨by decide +kernel, rfl⟩
theorem eX6_parish_122 : decode cX6_parish 122 = .ok (.iload_n 1, 1) ∧ 122 + 1 = 123 := ⟨by decide +kernel, rfl⟩
theorem eX6_parish_123 : decode cX6_parish 123 = .ok (.aload_n 0, 1) ∧ 123 + 1 = 124 := ⟨by decide +kernel, rfl⟩
theorem eX6_parish_124 : decode cX6_parish 124 = .ok (.getfield 28, 3) ∧ 124 + 3 = 127 := ⟨by decide +kernel, rfl⟩
theorem eX6_parish_127 : decode cX6_parish 127 = .ok (.iload_n 2, 1) ∧ 127 + 1 = 128 := ⟨by decide +kernel, rfl⟩
theorem eX6_parish_128 : decode cX6_parish 128 = .ok (.iconst 1, 1) ∧ 128 + 1 = 129 := ⟨by decide +kernel, rfl⟩
theorem eX6_parish_129 : decode cX6_parish 129 = .ok (.iadd, 1) ∧ 129 + 1 = 130 := ⟨by decide +kernel, rfl⟩
theorem eX6_parish_130 : decode cX6_parish 130 = .ok (.iaload, 1) ∧ 130 + 1 = 131 := ⟨by decide +kernel, rfl⟩
theorem eX6_parish_131 : decode cX6_parish 131 = .ok (.bipush 48, 2) ∧ 131 + 2 = 133 := ⟨by decide +kernel, rfl⟩
theorem eX6_parish_133 : decode cX6_parish 133 = .ok (.isub, 1) ∧ 133 + 1 = 134 := ⟨by decide +kernel, rfl⟩
theorem eX6_parish_134 : decode cX6_parish 134 = .ok (.iastore, 1) ∧ 134 + 1 = 135 := ⟨by decide +kernel, rfl⟩
theorem eX6_parish_135 : decode cX6_parish 135 = .ok (.aload_n 0, 1) ∧ 135 + 1 = 136 := ⟨by decide +kernel, rfl⟩
theorem eX6_parish_136 : decode cX6_parish 136 = .ok (.getfield 13, 3) ∧ 136 + 3 = 139 := ⟨by decide +kernel, rfl⟩
theorem eX6_parish_139 : decode cX6_parish 139 = .ok (.iload_n 1, 1) ∧ 139 + 1 = 140 := ⟨by decide +kernel, rfl⟩
theorem eX6_parish_140 : decode cX6_parish 140 = .ok (.aload_n 0, 1) ∧ 140 + 1 = 141 := ⟨by decide +kernel, rfl⟩
theorem eX6_parish_141 : decode cX6_parish 141 = .ok (.getfield 28, 3) ∧ 141 + 3 = 144 := ⟨by decide +kernel, rfl⟩
theorem eX6_parish_144 : decode cX6_parish 144 = .ok (.iload_n 2, 1) ∧ 144 + 1 = 145 := ⟨by decide +kernel, rfl⟩
theorem eX6_parish_145 : decode cX6_parish 145 = .ok (.iconst 2, 1) ∧ 145 + 1 = 146 := ⟨by decide +kernel, rfl⟩
theorem eX6_parish_146 : decode cX6_parish 146 = .ok (.iadd, 1) ∧ 146 + 1 = 147 := ⟨by decide +kernel, rfl⟩
theorem eX6_parish_147 : decode cX6_parish 147 = .ok (.iaload, 1) ∧ 147 + 1 = 148 := ⟨by decide +kernel, rfl⟩
theorem eX6_parish_148 : decode cX6_parish 148 = .ok (.bipush 48, 2) ∧ 148 + 2 = 150 := ⟨by decide +kernel, rfl⟩
theorem eX6_parish_150 : decode cX6_parish 150 = .ok (.isub, 1) ∧ 150 + 1 = 151 := ⟨by decide +kernel, rfl⟩
theorem eX6_parish_151 : decode cX6_parish 151 = .ok (.iastore, 1) ∧ 151 + 1 = 152 := ⟨by decide +kernel, rfl⟩
theorem eX6_parish_152 : decode cX6_parish 152 = .ok (.aload_n 0, 1) ∧ 152 + 1 = 153 := ⟨by decide +kernel, rfl⟩
theorem eX6_parish_153 : decode cX6_parish 153 = .ok (.getfield 16, 3) ∧ 153 + 3 = 156 := ⟨by decide +kernel, rfl⟩
theorem eX6_parish_156 : decode cX6_parish 156 = .ok (.iload_n 1, 1) ∧ 156 + 1 = 157 := ⟨by decide +kernel, rfl⟩
theorem eX6_parish_157 : decode cX6_parish 157 = .ok (.aload_n 0, 1) ∧ 157 + 1 = 158 := ⟨by decide +kernel, rfl⟩
theorem eX6_parish_158 : decode cX6_parish 158 = .ok (.getfield 28, 3) ∧ 158 + 3 = 161 := ⟨by decide +kernel, rfl⟩
theorem eX6_parish_161 : decode cX6_parish 161 = .ok (.iload_n 2, 1) ∧ 161 + 1 = 162 := ⟨by decide +kernel, rfl⟩
theorem eX6_parish_162 : decode cX6_parish 162 = .ok (.iconst 3, 1) ∧ 162 + 1 = 163 := ⟨by decide +kernel, rfl⟩
theorem eX6_parish_163 : decode cX6_parish 163 = .ok (.iadd, 1) ∧ 163 + 1 = 164 := ⟨by decide +kernel, rfl⟩
theorem eX6_parish_164 : decode cX6_parish 164 = .ok (.iaload, 1) ∧ 164 + 1 = 165 := ⟨by decide +kernel, rfl⟩
theorem eX6_parish_165 : decode cX6_parish 165 = .ok (.bipush 48, 2) ∧ 165 + 2 = 167 := ⟨by decide +kernel, rfl⟩
theorem eX6_parish_167 : decode cX6_parish 167 = .ok (.isub, 1) ∧ 167 + 1 = 168 := ⟨by decide +kernel, rfl⟩
theorem eX6_parish_168 : decode cX6_parish 168 = .ok (.iastore, 1) ∧ 168 + 1 = 169 := ⟨by decide +kernel, rfl⟩
theorem eX6_parish_169 : decode cX6_parish 169 = .ok (.aload_n 0, 1) ∧ 169 + 1 = 170 := ⟨by decide +kernel, rfl⟩
theorem eX6_parish_170 : decode cX6_parish 170 = .ok (.getfield 19, 3) ∧ 170 + 3 = 173 := ⟨by decide +kernel, rfl⟩
theorem eX6_parish_173 : decode cX6_parish 173 = .ok (.iload_n 1, 1) ∧ 173 + 1 = 174 := ⟨by decide +kernel, rfl⟩
theorem eX6_parish_174 : decode cX6_parish 174 = .ok (.aload_n 0, 1) ∧ 174 + 1 = 175 := ⟨by decide +kernel, rfl⟩
theorem eX6_parish_175 : decode cX6_parish 175 = .ok (.getfield 28, 3) ∧ 175 + 3 = 178 := ⟨by decide +kernel, rfl⟩
theorem eX6_parish_178 : decode cX6_parish 178 = .ok (.iload_n 2, 1) ∧ 178 + 1 = 179 := ⟨by decide +kernel, rfl⟩
theorem eX6_parish_179 : decode cX6_parish 179 = .ok (.iconst 4, 1) ∧ 179 + 1 = 180 := ⟨by decide +kernel, rfl⟩
theorem eX6_parish_180 : decode cX6_parish 180 = .ok (.iadd, 1) ∧ 180 + 1 = 181 := ⟨by decide +kernel, rfl⟩
theorem eX6_parish_181 : decode cX6_parish 181 = .ok (.iaload, 1) ∧ 181 + 1 = 182 := ⟨by decide +kernel, rfl⟩
theorem eX6_parish_182 : decode cX6_parish 182 = .ok (.bipush 48, 2) ∧ 182 + 2 = 184 := ⟨by decide +kernel, rfl⟩
theorem eX6_parish_184 : decode cX6_parish 184 = .ok (.isub, 1) ∧ 184 + 1 = 185 := ⟨by decide +kernel, rfl⟩
theorem eX6_parish_185 : decode cX6_parish 185 = .ok (.iastore, 1) ∧ 185 + 1 = 186 := ⟨by decide +kernel, rfl⟩
theorem eX6_parish_186 : decode cX6_parish 186 = .ok (.aload_n 0, 1) ∧ 186 + 1 = 187 := ⟨by decide +kernel, rfl⟩
theorem eX6_parish_187 : decode cX6_parish 187 = .ok (.getfield 22, 3) ∧ 187 + 3 = 190 := ⟨by decide +kernel, rfl⟩
theorem eX6_parish_190 : decode cX6_parish 190 = .ok (.iload_n 1, 1) ∧ 190 + 1 = 191 := ⟨by decide +kernel, rfl⟩
theorem eX6_parish_191 : decode cX6_parish 191 = .ok (.aload_n 0, 1) ∧ 191 + 1 = 192 := ⟨by decide +kernel, rfl⟩
theorem eX6_parish_192 : decode cX6_parish 192 = .ok (.getfield 28, 3) ∧ 192 + 3 = 195 := ⟨by decide +kernel, rfl⟩
theorem eX6_parish_195 : decode cX6_parish 195 = .ok (.iload_n 2, 1) ∧ 195 + 1 = 196 := ⟨by decide +kernel, rfl⟩
theorem eX6_parish_196 : decode cX6_parish 196 = .ok (.iconst 5, 1) ∧ 196 + 1 = 197 := ⟨by decide +kernel, rfl⟩
theorem eX6_parish_197 : decode cX6_parish 197 = .ok (.iadd, 1) ∧ 197 + 1 = 198 := ⟨by decide +kernel, rfl⟩
theorem eX6_parish_198 : decode cX6_parish 198 = .ok (.iaload, 1) ∧ 198 + 1 = 199 := ⟨by decide +kernel, rfl⟩
theorem eX6_parish_199 : decode cX6_parish 199 = .ok (.bipush 48, 2) ∧ 199 + 2 = 201 := ⟨by decide +kernel, rfl⟩
theorem eX6_parish_201 : decode cX6_parish 201 = .ok (.isub, 1) ∧ 201 + 1 = 202 := ⟨by decide +kernel, rfl⟩
theorem eX6_parish_202 : decode cX6_parish 202 = .ok (.iastore, 1) ∧ 202 + 1 = 203 := ⟨by decide +kernel, rfl⟩
theorem eX6_parish_203 : decode cX6_parish 203 = .ok (.iinc 1 1, 3) ∧ 203 + 3 = 206 := ⟨by decide +kernel, rfl⟩
theorem eX6_parish_206 : decode cX6_parish 206 = .ok (.goto (-104), 3) ∧ ((206 : Nat) : Int) + (-104) = ((102 : Nat) : Int) := ⟨by decide +kernel, by decide⟩
theorem eX6_parish_209 : decode cX6_parish 209 = .ok (.aload_n 0, 1) ∧ 209 + 1 = 210 := ⟨by decide +kernel, rfl⟩
theorem eX6_parish_210 : decode cX6_parish 210 = .ok (.iconst 0, 1) ∧ 210 + 1 = 211 := ⟨by decide +kernel, rfl⟩
theorem eX6_parish_211 : decode cX6_parish 211 = .ok (.putfield 83, 3) ∧ 211 + 3 = 214 := ⟨by decide +kernel, rfl⟩
theorem eX6_parish_214 : decode cX6_parish 214 = .ok (.aload_n 0, 1) ∧ 214 + 1 = 215 := ⟨by decide +kernel, rfl⟩
theorem eX6_parish_215 : decode cX6_parish 215 = .ok (.getfield 46, 3) ∧ 215 + 3 = 218 := ⟨by decide +kernel, rfl⟩
theorem eX6_parish_218 : decode cX6_parish 218 = .ok (.iconst 0, 1) ∧ 218 + 1 = 219 := ⟨by decide +kernel, rfl⟩
theorem eX6_parish_219 : decode cX6_parish 219 = .ok (.iconst 0, 1) ∧ 219 + 1 = 220 := ⟨by decide +kernel, rfl⟩
theorem eX6_parish_220 : decode cX6_parish 220 = .ok (.bastore, 1) ∧ 220 + 1 = 221 := ⟨by decide +kernel, rfl⟩
theorem eX6_parish_221 : decode cX6_parish 221 = .ok (.aload_n 0, 1) ∧ 221 + 1 = 222 := ⟨by decide +kernel, rfl⟩
theorem eX6_parish_222 : decode cX6_parish 222 = .ok (.getfield 46, 3) ∧ 222 + 3 = 225 := ⟨by decide +kernel, rfl⟩
theorem eX6_parish_225 : decode cX6_parish 225 = .ok (.iconst 1, 1) ∧ 225 + 1 = 226 := ⟨by decide +kernel, rfl⟩
theorem eX6_parish_226 : decode cX6_parish 226 = .ok (.iconst 0, 1) ∧ 226 + 1 = 227 := ⟨by decide +kernel, rfl⟩
theorem eX6_parish_227 : decode cX6_parish 227 = .ok (.bastore, 1) ∧ 227 + 1 = 228 := ⟨by decide +kernel, rfl⟩
theorem eX6_parish_228 : decode cX6_parish 228 = .ok (.aload_n 0, 1) ∧ 228 + 1 = 229 := ⟨by decide +kernel, rfl⟩
theorem eX6_parish_229 : decode cX6_parish 229 = .ok (.getfield 80, 3) ∧ 229 + 3 = 232 := ⟨by decide +kernel, rfl⟩
theorem eX6_parish_232 : decode cX6_parish 232 = .ok (.ireturn, 1) := by decide +kernel
theorem eX6_isWedding_0 : decode cX6_isWedding 0 = .ok (.iload_n 1, 1) ∧ 0 + 1 = 1 := ⟨by decide +kernel, rfl⟩
theorem eX6_isWedding_1 : decode cX6_isWedding 1 = .ok (.i2l, 1) ∧ 1 + 1 = 2 := ⟨by decide +kernel, rfl⟩
theorem eX6_isWedding_2 : decode cX6_isWedding 2 = .ok (.lconst 0, 1) ∧ 2 + 1 = 3 := ⟨by decide +kernel, rfl⟩
theorem eX6_isWedding_3 : decode cX6_isWedding 3 = .ok (.aload_n 0, 1) ∧ 3 + 1 = 4 := ⟨by decide +kernel, rfl⟩
theorem eX6_isWedding_4 : decode cX6_isWedding 4 = .ok (.getfield 80, 3) ∧ 4 + 3 = 7 := ⟨by decide +kernel, rfl⟩
theorem eX6_isWedding_7 : decode cX6_isWedding 7 = .ok (.iconst 1, 1) ∧ 7 + 1 = 8 := ⟨by decide +kernel, rfl⟩
theorem eX6_isWedding_8 : decode cX6_isWedding 8 = .ok (.isub, 1) ∧ 8 + 1 = 9 := ⟨by decide +kernel, rfl⟩
theorem eX6_isWedding_9 : decode cX6_isWedding 9 = .ok (.i2l, 1) ∧ 9 + 1 = 10 := ⟨by decide +kernel, rfl⟩
theorem eX6_isWedding_10 : decode cX6_isWedding 10 = .ok (.invokestatic 59, 3) ∧ 10 + 3 = 13 := ⟨by decide +kernel, rfl⟩
theorem eX6_isWedding_13 : decode cX6_isWedding 13 = .ok (.ireturn, 1) := by decide +kernel
theorem eX6_isChurch_0 : decode cX6_isChurch 0 = .ok (.iload_n 0, 1) ∧ 0 + 1 = 1 := ⟨by decide +kernel, rfl⟩
theorem eX6_isChurch_1 : decode cX6_isChurch 1 = .ok (.i2l, 1) ∧ 1 + 1 = 2 := ⟨by decide +kernel, rfl⟩
theorem eX6_isChurch_2 : decode cX6_isChurch 2 = .ok (.lconst 0, 1) ∧ 2 + 1 = 3 := ⟨by decide +kernel, rfl⟩
theorem eX6_isChurch_3 : decode cX6_isChurch 3 = .ok (.ldc2_w 68, 3) ∧ 3 + 3 = 6 := ⟨by decide +kernel, rfl⟩
theorem eX6_isChurch_6 : decode cX6_isChurch 6 = .ok (.invokestatic 59, 3) ∧ 6 + 3 = 9 := ⟨by decide +kernel, rfl⟩
theorem eX6_isChurch_9 : decode cX6_isChurch 9 = .ok (.ireturn, 1) := by decide +kernel
theorem eX6_every_0 : decode cX6_every 0 = .ok (.iconst 1, 1) ∧ 0 + 1 = 1 := ⟨by decide +kernel, rfl⟩
theorem eX6_every_1 : decode cX6_every 1 = .ok (.aload_n 0, 1) ∧ 1 + 1 = 2 := ⟨by decide +kernel, rfl⟩
theorem eX6_every_2 : decode cX6_every 2 = .ok (.getfield 80, 3) ∧ 2 + 3 = 5 := ⟨by decide +kernel, rfl⟩
theorem eX6_every_5 : decode cX6_every 5 = .ok (.ishl, 1) ∧ 5 + 1 = 6 := ⟨by decide +kernel, rfl⟩
theorem eX6_every_6 : decode cX6_every 6 = .ok (.iconst 1, 1) ∧ 6 + 1 = 7 := ⟨by decide +kernel, rfl⟩
theorem eX6_every_7 : decode cX6_every 7 = .ok (.isub, 1) ∧ 7 + 1 = 8 := ⟨by decide +kernel, rfl⟩
theorem eX6_every_8 : decode cX6_every 8 = .ok (.ireturn, 1) := by decide +kernel
theorem eX6_wayOn_0 : decode cX6_wayOn 0 = .ok (.iconst 0, 1) ∧ 0 + 1 = 1 := ⟨by decide +kernel, rfl⟩
theorem eX6_wayOn_1 : decode cX6_wayOn 1 = .ok (.istore 4, 2) ∧ 1 + 2 = 3 := ⟨by decide +kernel, rfl⟩
theorem eX6_wayOn_3 : decode cX6_wayOn 3 = .ok (.iconst 0, 1) ∧ 3 + 1 = 4 := ⟨by decide +kernel, rfl⟩
theorem eX6_wayOn_4 : decode cX6_wayOn 4 = .ok (.istore 5, 2) ∧ 4 + 2 = 6 := ⟨by decide +kernel, rfl⟩
theorem eX6_wayOn_6 : decode cX6_wayOn 6 = .ok (.iload 5, 2) ∧ 6 + 2 = 8 := ⟨by decide +kernel, rfl⟩
theorem eX6_wayOn_8 : decode cX6_wayOn 8 = .ok (.iconst 5, 1) ∧ 8 + 1 = 9 := ⟨by decide +kernel, rfl⟩
theorem eX6_wayOn_9 : decode cX6_wayOn 9 = .ok (.if_icmp .ge 68, 3) ∧ ((9 : Nat) : Int) + 68 = ((77 : Nat) : Int) ∧ 9 + 3 = 12 := ⟨by decide +kernel, by decide, rfl⟩
theorem eX6_wayOn_12 : decode cX6_wayOn 12 = .ok (.iload 5, 2) ∧ 12 + 2 = 14 := ⟨by decide +kernel, rfl⟩
theorem eX6_wayOn_14 : decode cX6_wayOn 14 = .ok (.iload_n 2, 1) ∧ 14 + 1 = 15 := ⟨by decide +kernel, rfl⟩
theorem eX6_wayOn_15 : decode cX6_wayOn 15 = .ok (.if_icmp .lt 9, 3) ∧ ((15 : Nat) : Int) + 9 = ((24 : Nat) : Int) ∧ 15 + 3 = 18 := ⟨by decide +kernel, by decide, rfl⟩
theorem eX6_wayOn_18 : decode cX6_wayOn 18 = .ok (.iload 5, 2) ∧ 18 + 2 = 20 := ⟨by decide +kernel, rfl⟩
theorem eX6_wayOn_20 : decode cX6_wayOn 20 = .ok (.iload_n 3, 1) ∧ 20 + 1 = 21 := ⟨by decide +kernel, rfl⟩
theorem eX6_wayOn_21 : decode cX6_wayOn 21 = .ok (.if_icmp .lt 15, 3) ∧ ((21 : Nat) : Int) + 15 = ((36 : Nat) : Int) ∧ 21 + 3 = 24 := ⟨by decide +kernel, by decide, rfl⟩
theorem eX6_wayOn_24 : decode cX6_wayOn 24 = .ok (.iload 5, 2) ∧ 24 + 2 = 26 := ⟨by decide +kernel, rfl⟩
theorem eX6_wayOn_26 : decode cX6_wayOn 26 = .ok (.iload_n 3, 1) ∧ 26 + 1 = 27 := ⟨by decide +kernel, rfl⟩
theorem eX6_wayOn_27 : decode cX6_wayOn 27 = .ok (.if_icmp .lt 13, 3) ∧ ((27 : Nat) : Int) + 13 = ((40 : Nat) : Int) ∧ 27 + 3 = 30 := ⟨by decide +kernel, by decide, rfl⟩
theorem eX6_wayOn_30 : decode cX6_wayOn 30 = .ok (.iload 5, 2) ∧ 30 + 2 = 32 := ⟨by decide +kernel, rfl⟩
theorem eX6_wayOn_32 : decode cX6_wayOn 32 = .ok (.iload_n 2, 1) ∧ 32 + 1 = 33 := ⟨by decide +kernel, rfl⟩
theorem eX6_wayOn_33 : decode cX6_wayOn 33 = .ok (.if_icmp .ge 7, 3) ∧ ((33 : Nat) : Int) + 7 = ((40 : Nat) : Int) ∧ 33 + 3 = 36 := ⟨by decide +kernel, by decide, rfl⟩
theorem eX6_wayOn_36 : decode cX6_wayOn 36 = .ok (.iconst 1, 1) ∧ 36 + 1 = 37 := ⟨by decide +kernel, rfl⟩
theorem eX6_wayOn_37 : decode cX6_wayOn 37 = .ok (.goto 4, 3) ∧ ((37 : Nat) : Int) + 4 = ((41 : Nat) : Int) := ⟨by decide +kernel, by decide⟩
theorem eX6_wayOn_40 : decode cX6_wayOn 40 = .ok (.iconst 0, 1) ∧ 40 + 1 = 41 := ⟨by decide +kernel, rfl⟩
theorem eX6_wayOn_41 : decode cX6_wayOn 41 = .ok (.istore 6, 2) ∧ 41 + 2 = 43 := ⟨by decide +kernel, rfl⟩
theorem eX6_wayOn_43 : decode cX6_wayOn 43 = .ok (.iload 4, 2) ∧ 43 + 2 = 45 := ⟨by decide +kernel, rfl⟩
theorem eX6_wayOn_45 : decode cX6_wayOn 45 = .ok (.iload 6, 2) ∧ 45 + 2 = 47 := ⟨by decide +kernel, rfl⟩
theorem eX6_wayOn_47 : decode cX6_wayOn 47 = .ok (.ifCond .eq 20, 3) ∧ ((47 : Nat) : Int) + 20 = ((67 : Nat) : Int) ∧ 47 + 3 = 50 := ⟨by decide +kernel, by decide, rfl⟩
theorem eX6_wayOn_50 : decode cX6_wayOn 50 = .ok (.aload_n 0, 1) ∧ 50 + 1 = 51 := ⟨by decide +kernel, rfl⟩
theorem eX6_wayOn_51 : decode cX6_wayOn 51 = .ok (.getfield 25, 3) ∧ 51 + 3 = 54 := ⟨by decide +kernel, rfl⟩
theorem eX6_wayOn_54 : decode cX6_wayOn 54 = .ok (.bipush 8, 2) ∧ 54 + 2 = 56 := ⟨by decide +kernel, rfl⟩
theorem eX6_wayOn_56 : decode cX6_wayOn 56 = .ok (.iload_n 1, 1) ∧ 56 + 1 = 57 := ⟨by decide +kernel, rfl⟩
theorem eX6_wayOn_57 : decode cX6_wayOn 57 = .ok (.imul, 1) ∧ 57 + 1 = 58 := ⟨by decide +kernel, rfl⟩
theorem eX6_wayOn_58 : decode cX6_wayOn 58 = .ok (.iconst 3, 1) ∧ 58 + 1 = 59 := ⟨by decide +kernel, rfl⟩
theorem eX6_wayOn_59 : decode cX6_wayOn 59 = .ok (.iadd, 1) ∧ 59 + 1 = 60 := ⟨by decide +kernel, rfl⟩
theorem eX6_wayOn_60 : decode cX6_wayOn 60 = .ok (.iload 5, 2) ∧ 60 + 2 = 62 := ⟨by decide +kernel, rfl⟩
theorem eX6_wayOn_62 : decode cX6_wayOn 62 = .ok (.iadd, 1) ∧ 62 + 1 = 63 := ⟨by decide +kernel, rfl⟩
theorem eX6_wayOn_63 : decode cX6_wayOn 63 = .ok (.iaload, 1) ∧ 63 + 1 = 64 := ⟨by decide +kernel, rfl⟩
theorem eX6_wayOn_64 : decode cX6_wayOn 64 = .ok (.goto 4, 3) ∧ ((64 : Nat) : Int) + 4 = ((68 : Nat) : Int) := ⟨by decide +kernel, by decide⟩
theorem eX6_wayOn_67 : decode cX6_wayOn 67 = .ok (.iconst 0, 1) ∧ 67 + 1 = 68 := ⟨by decide +kernel, rfl⟩
theorem eX6_wayOn_68 : decode cX6_wayOn 68 = .ok (.iadd, 1) ∧ 68 + 1 = 69 := ⟨by decide +kernel, rfl⟩
theorem eX6_wayOn_69 : decode cX6_wayOn 69 = .ok (.istore 4, 2) ∧ 69 + 2 = 71 := ⟨by decide +kernel, rfl⟩
theorem eX6_wayOn_71 : decode cX6_wayOn 71 = .ok (.iinc 5 1, 3) ∧ 71 + 3 = 74 := ⟨by decide +kernel, rfl⟩
theorem eX6_wayOn_74 : decode cX6_wayOn 74 = .ok (.goto (-68), 3) ∧ ((74 : Nat) : Int) + (-68) = ((6 : Nat) : Int) := ⟨by decide +kernel, by decide⟩
theorem eX6_wayOn_77 : decode cX6_wayOn 77 = .ok (.iload 4, 2) ∧ 77 + 2 = 79 := ⟨by decide +kernel, rfl⟩
theorem eX6_wayOn_79 : decode cX6_wayOn 79 = .ok (.ireturn, 1) := by decide +kernel
theorem eX6_begins_0 : decode cX6_begins 0 = .ok (.iload 4, 2) ∧ 0 + 2 = 2 := ⟨by decide +kernel, rfl⟩
theorem eX6_begins_2 : decode cX6_begins 2 = .ok (.aload_n 0, 1) ∧ 2 + 1 = 3 := ⟨by decide +kernel, rfl⟩
theorem eX6_begins_3 : decode cX6_begins 3 = .ok (.iload_n 1, 1) ∧ 3 + 1 = 4 := ⟨by decide +kernel, rfl⟩
theorem eX6_begins_4 : decode cX6_begins 4 = .ok (.iload_n 3, 1) ∧ 4 + 1 = 5 := ⟨by decide +kernel, rfl⟩
theorem eX6_begins_5 : decode cX6_begins 5 = .ok (.aload_n 0, 1) ∧ 5 + 1 = 6 := ⟨by decide +kernel, rfl⟩
theorem eX6_begins_6 : decode cX6_begins 6 = .ok (.getfield 7, 3) ∧ 6 + 3 = 9 := ⟨by decide +kernel, rfl⟩
theorem eX6_begins_9 : decode cX6_begins 9 = .ok (.iload_n 2, 1) ∧ 9 + 1 = 10 := ⟨by decide +kernel, rfl⟩
theorem eX6_begins_10 : decode cX6_begins 10 = .ok (.iaload, 1) ∧ 10 + 1 = 11 := ⟨by decide +kernel, rfl⟩
theorem eX6_begins_11 : decode cX6_begins 11 = .ok (.invokevirtual 86, 3) ∧ 11 + 3 = 14 := ⟨by decide +kernel, rfl⟩
theorem eX6_begins_14 : decode cX6_begins 14 = .ok (.iadd, 1) ∧ 14 + 1 = 15 := ⟨by decide +kernel, rfl⟩
theorem eX6_begins_15 : decode cX6_begins 15 = .ok (.iload 5, 2) ∧ 15 + 2 = 17 := ⟨by decide +kernel, rfl⟩
theorem eX6_begins_17 : decode cX6_begins 17 = .ok (.iadd, 1) ∧ 17 + 1 = 18 := ⟨by decide +kernel, rfl⟩
theorem eX6_begins_18 : decode cX6_begins 18 = .ok (.aload_n 0, 1) ∧ 18 + 1 = 19 := ⟨by decide +kernel, rfl⟩
theorem eX6_begins_19 : decode cX6_begins 19 = .ok (.getfield 22, 3) ∧ 19 + 3 = 22 := ⟨by decide +kernel, rfl⟩
theorem eX6_begins_22 : decode cX6_begins 22 = .ok (.iload_n 2, 1) ∧ 22 + 1 = 23 := ⟨by decide +kernel, rfl⟩
theorem eX6_begins_23 : decode cX6_begins 23 = .ok (.iaload, 1) ∧ 23 + 1 = 24 := ⟨by decide +kernel, rfl⟩
theorem eX6_begins_24 : decode cX6_begins 24 = .ok (.iconst 2, 1) ∧ 24 + 1 = 25 := ⟨by decide +kernel, rfl⟩
theorem eX6_begins_25 : decode cX6_begins 25 = .ok (.if_icmp .ne 7, 3) ∧ ((25 : Nat) : Int) + 7 = ((32 : Nat) : Int) ∧ 25 + 3 = 28 := ⟨by decide +kernel, by decide, rfl⟩
theorem eX6_begins_28 : decode cX6_begins 28 = .ok (.iconst 1, 1) ∧ 28 + 1 = 29 := ⟨by decide +kernel, rfl⟩
theorem eX6_begins_29 : decode cX6_begins 29 = .ok (.goto 4, 3) ∧ ((29 : Nat) : Int) + 4 = ((33 : Nat) : Int) := ⟨by decide +kernel, by decide⟩
theorem eX6_begins_32 : decode cX6_begins 32 = .ok (.iconst 0, 1) ∧ 32 + 1 = 33 := ⟨by decide +kernel, rfl⟩
theorem eX6_begins_33 : decode cX6_begins 33 = .ok (.iadd, 1) ∧ 33 + 1 = 34 := ⟨by decide +kernel, rfl⟩
theorem eX6_begins_34 : decode cX6_begins 34 = .ok (.istore 6, 2) ∧ 34 + 2 = 36 := ⟨by decide +kernel, rfl⟩
theorem eX6_begins_36 : decode cX6_begins 36 = .ok (.iload 6, 2) ∧ 36 + 2 = 38 := ⟨by decide +kernel, rfl⟩
theorem eX6_begins_38 : decode cX6_begins 38 = .ok (.aload_n 0, 1) ∧ 38 + 1 = 39 := ⟨by decide +kernel, rfl⟩
theorem eX6_begins_39 : decode cX6_begins 39 = .ok (.getfield 13, 3) ∧ 39 + 3 = 42 := ⟨by decide +kernel, rfl⟩
theorem eX6_begins_42 : decode cX6_begins 42 = .ok (.iload_n 2, 1) ∧ 42 + 1 = 43 := ⟨by decide +kernel, rfl⟩
theorem eX6_begins_43 : decode cX6_begins 43 = .ok (.iaload, 1) ∧ 43 + 1 = 44 := ⟨by decide +kernel, rfl⟩
theorem eX6_begins_44 : decode cX6_begins 44 = .ok (.if_icmp .ge 12, 3) ∧ ((44 : Nat) : Int) + 12 = ((56 : Nat) : Int) ∧ 44 + 3 = 47 := ⟨by decide +kernel, by decide, rfl⟩
theorem eX6_begins_47 : decode cX6_begins 47 = .ok (.aload_n 0, 1) ∧ 47 + 1 = 48 := ⟨by decide +kernel, rfl⟩
theorem eX6_begins_48 : decode cX6_begins 48 = .ok (.getfield 13, 3) ∧ 48 + 3 = 51 := ⟨by decide +kernel, rfl⟩
theorem eX6_begins_51 : decode cX6_begins 51 = .ok (.iload_n 2, 1) ∧ 51 + 1 = 52 := ⟨by decide +kernel, rfl⟩
theorem eX6_begins_52 : decode cX6_begins 52 = .ok (.iaload, 1) ∧ 52 + 1 = 53 := ⟨by decide +kernel, rfl⟩
theorem eX6_begins_53 : decode cX6_begins 53 = .ok (.goto 5, 3) ∧ ((53 : Nat) : Int) + 5 = ((58 : Nat) : Int) := ⟨by decide +kernel, by decide⟩
theorem eX6_begins_56 : decode cX6_begins 56 = .ok (.iload 6, 2) ∧ 56 + 2 = 58 := ⟨by decide +kernel, rfl⟩
theorem eX6_begins_58 : decode cX6_begins 58 = .ok (.istore 7, 2) ∧ 58 + 2 = 60 := ⟨by decide +kernel, rfl⟩
theorem eX6_begins_60 : decode cX6_begins 60 = .ok (.iload 7, 2) ∧ 60 + 2 = 62 := ⟨by decide +kernel, rfl⟩
theorem eX6_begins_62 : decode cX6_begins 62 = .ok (.aload_n 0, 1) ∧ 62 + 1 = 63 := ⟨by decide +kernel, rfl⟩
theorem eX6_begins_63 : decode cX6_begins 63 = .ok (.getfield 16, 3) ∧ 63 + 3 = 66 := ⟨by decide +kernel, rfl⟩
theorem eX6_begins_66 : decode cX6_begins 66 = .ok (.iload_n 2, 1) ∧ 66 + 1 = 67 := ⟨by decide +kernel, rfl⟩
theorem eX6_begins_67 : decode cX6_begins 67 = .ok (.iaload, 1) ∧ 67 + 1 = 68 := ⟨by decide +kernel, rfl⟩
theorem eX6_begins_68 : decode cX6_begins 68 = .ok (.if_icmp .gt 23, 3) ∧ ((68 : Nat) : Int) + 23 = ((91 : Nat) : Int) ∧ 68 + 3 = 71 := ⟨by decide +kernel, by decide, rfl⟩
theorem eX6_begins_71 : decode cX6_begins 71 = .ok (.iload 7, 2) ∧ 71 + 2 = 73 := ⟨by decide +kernel, rfl⟩
theorem eX6_begins_73 : decode cX6_begins 73 = .ok (.aload_n 0, 1) ∧ 73 + 1 = 74 := ⟨by decide +kernel, rfl⟩
theorem eX6_begins_74 : decode cX6_begins 74 = .ok (.iload_n 2, 1) ∧ 74 + 1 = 75 := ⟨by decide +kernel, rfl⟩
theorem eX6_begins_75 : decode cX6_begins 75 = .ok (.invokevirtual 90, 3) ∧ 75 + 3 = 78 := ⟨by decide +kernel, rfl⟩
theorem eX6_begins_78 : decode cX6_begins 78 = .ok (.iadd, 1) ∧ 78 + 1 = 79 := ⟨by decide +kernel, rfl⟩
theorem eX6_begins_79 : decode cX6_begins 79 = .ok (.aload_n 0, 1) ∧ 79 + 1 = 80 := ⟨by decide +kernel, rfl⟩
theorem eX6_begins_80 : decode cX6_begins 80 = .ok (.getfield 53, 3) ∧ 80 + 3 = 83 := ⟨by decide +kernel, rfl⟩
theorem eX6_begins_83 : decode cX6_begins 83 = .ok (.if_icmp .gt 8, 3) ∧ ((83 : Nat) : Int) + 8 = ((91 : Nat) : Int) ∧ 83 + 3 = 86 := ⟨by decide +kernel, by decide, rfl⟩
theorem eX6_begins_86 : decode cX6_begins 86 = .ok (.iload 7, 2) ∧ 86 + 2 = 88 := ⟨by decide +kernel, rfl⟩
theorem eX6_begins_88 : decode cX6_begins 88 = .ok (.goto 5, 3) ∧ ((88 : Nat) : Int) + 5 = ((93 : Nat) : Int) := ⟨by decide +kernel, by decide⟩
theorem eX6_begins_91 : decode cX6_begins 91 = .ok (.bipush (-9), 2) ∧ 91 + 2 = 93 := ⟨by decide +kernel, rfl⟩
theorem eX6_begins_93 : decode cX6_begins 93 = .ok (.ireturn, 1) := by decide +kernel
theorem eX6_lasts_0 : decode cX6_lasts 0 = .ok (.aload_n 0, 1) ∧ 0 + 1 = 1 := ⟨by decide +kernel, rfl⟩
theorem eX6_lasts_1 : decode cX6_lasts 1 = .ok (.getfield 22, 3) ∧ 1 + 3 = 4 := ⟨by decide +kernel, rfl⟩
theorem eX6_lasts_4 : decode cX6_lasts 4 = .ok (.iload_n 1, 1) ∧ 4 + 1 = 5 := ⟨by decide +kernel, rfl⟩
theorem eX6_lasts_5 : decode cX6_lasts 5 = .ok (.iaload, 1) ∧ 5 + 1 = 6 := ⟨by decide +kernel, rfl⟩
theorem eX6_lasts_6 : decode cX6_lasts 6 = .ok (.iconst 3, 1) ∧ 6 + 1 = 7 := ⟨by decide +kernel, rfl⟩
theorem eX6_lasts_7 : decode cX6_lasts 7 = .ok (.if_icmp .ne 24, 3) ∧ ((7 : Nat) : Int) + 24 = ((31 : Nat) : Int) ∧ 7 + 3 = 10 := ⟨by decide +kernel, by decide, rfl⟩
theorem eX6_lasts_10 : decode cX6_lasts 10 = .ok (.aload_n 0, 1) ∧ 10 + 1 = 11 := ⟨by decide +kernel, rfl⟩
theorem eX6_lasts_11 : decode cX6_lasts 11 = .ok (.getfield 19, 3) ∧ 11 + 3 = 14 := ⟨by decide +kernel, rfl⟩
theorem eX6_lasts_14 : decode cX6_lasts 14 = .ok (.iload_n 1, 1) ∧ 14 + 1 = 15 := ⟨by decide +kernel, rfl⟩
theorem eX6_lasts_15 : decode cX6_lasts 15 = .ok (.iaload, 1) ∧ 15 + 1 = 16 := ⟨by decide +kernel, rfl⟩
theorem eX6_lasts_16 : decode cX6_lasts 16 = .ok (.iconst 1, 1) ∧ 16 + 1 = 17 := ⟨by decide +kernel, rfl⟩
theorem eX6_lasts_17 : decode cX6_lasts 17 = .ok (.if_icmp .le 14, 3) ∧ ((17 : Nat) : Int) + 14 = ((31 : Nat) : Int) ∧ 17 + 3 = 20 := ⟨by decide +kernel, by decide, rfl⟩
theorem eX6_lasts_20 : decode cX6_lasts 20 = .ok (.aload_n 0, 1) ∧ 20 + 1 = 21 := ⟨by decide +kernel, rfl⟩
theorem eX6_lasts_21 : decode cX6_lasts 21 = .ok (.getfield 19, 3) ∧ 21 + 3 = 24 := ⟨by decide +kernel, rfl⟩
theorem eX6_lasts_24 : decode cX6_lasts 24 = .ok (.iload_n 1, 1) ∧ 24 + 1 = 25 := ⟨by decide +kernel, rfl⟩
theorem eX6_lasts_25 : decode cX6_lasts 25 = .ok (.iaload, 1) ∧ 25 + 1 = 26 := ⟨by decide +kernel, rfl⟩
theorem eX6_lasts_26 : decode cX6_lasts 26 = .ok (.iconst 1, 1) ∧ 26 + 1 = 27 := ⟨by decide +kernel, rfl⟩
theorem eX6_lasts_27 : decode cX6_lasts 27 = .ok (.isub, 1) ∧ 27 + 1 = 28 := ⟨by decide +kernel, rfl⟩
theorem eX6_lasts_28 : decode cX6_lasts 28 = .ok (.goto 9, 3) ∧ ((28 : Nat) : Int) + 9 = ((37 : Nat) : Int) := ⟨by decide +kernel, by decide⟩
theorem eX6_lasts_31 : decode cX6_lasts 31 = .ok (.aload_n 0, 1) ∧ 31 + 1 = 32 := ⟨by decide +kernel, rfl⟩
theorem eX6_lasts_32 : decode cX6_lasts 32 = .ok (.getfield 19, 3) ∧ 32 + 3 = 35 := ⟨by decide +kernel, rfl⟩
theorem eX6_lasts_35 : decode cX6_lasts 35 = .ok (.iload_n 1, 1) ∧ 35 + 1 = 36 := ⟨by decide +kernel, rfl⟩
theorem eX6_lasts_36 : decode cX6_lasts 36 = .ok (.iaload, 1) ∧ 36 + 1 = 37 := ⟨by decide +kernel, rfl⟩
theorem eX6_lasts_37 : decode cX6_lasts 37 = .ok (.ireturn, 1) := by decide +kernel
theorem eX6_behind_0 : decode cX6_behind 0 = .ok (.iload_n 2, 1) ∧ 0 + 1 = 1 := ⟨by decide +kernel, rfl⟩
theorem eX6_behind_1 : decode cX6_behind 1 = .ok (.aload_n 0, 1) ∧ 1 + 1 = 2 := ⟨by decide +kernel, rfl⟩
theorem eX6_behind_2 : decode cX6_behind 2 = .ok (.iload_n 1, 1) ∧ 2 + 1 = 3 := ⟨by decide +kernel, rfl⟩
theorem eX6_behind_3 : decode cX6_behind 3 = .ok (.invokevirtual 90, 3) ∧ 3 + 3 = 6 := ⟨by decide +kernel, rfl⟩
theorem eX6_behind_6 : decode cX6_behind 6 = .ok (.iadd, 1) ∧ 6 + 1 = 7 := ⟨by decide +kernel, rfl⟩
theorem eX6_behind_7 : decode cX6_behind 7 = .ok (.aload_n 0, 1) ∧ 7 + 1 = 8 := ⟨by decide +kernel, rfl⟩
theorem eX6_behind_8 : decode cX6_behind 8 = .ok (.getfield 22, 3) ∧ 8 + 3 = 11 := ⟨by decide +kernel, rfl⟩
theorem eX6_behind_11 : decode cX6_behind 11 = .ok (.iload_n 1, 1) ∧ 11 + 1 = 12 := ⟨by decide +kernel, rfl⟩
theorem eX6_behind_12 : decode cX6_behind 12 = .ok (.iaload, 1) ∧ 12 + 1 = 13 := ⟨by decide +kernel, rfl⟩
theorem eX6_behind_13 : decode cX6_behind 13 = .ok (.iconst 1, 1) ∧ 13 + 1 = 14 := ⟨by decide +kernel, rfl⟩
theorem eX6_behind_14 : decode cX6_behind 14 = .ok (.if_icmp .ne 7, 3) ∧ ((14 : Nat) : Int) + 7 = ((21 : Nat) : Int) ∧ 14 + 3 = 17 := ⟨by decide +kernel, by decide, rfl⟩
theorem eX6_behind_17 : decode cX6_behind 17 = .ok (.iconst 1, 1) ∧ 17 + 1 = 18 := ⟨by decide +kernel, rfl⟩
theorem eX6_behind_18 : decode cX6_behind 18 = .ok (.goto 4, 3) ∧ ((18 : Nat) : Int) + 4 = ((22 : Nat) : Int) := ⟨by decide +kernel, by decide⟩
theorem eX6_behind_21 : decode cX6_behind 21 = .ok (.iconst 0, 1) ∧ 21 + 1 = 22 := ⟨by decide +kernel, rfl⟩
theorem eX6_behind_22 : decode cX6_behind 22 = .ok (.iadd, 1) ∧ 22 + 1 = 23 := ⟨by decide +kernel, rfl⟩
theorem eX6_behind_23 : decode cX6_behind 23 = .ok (.ireturn, 1) := by decide +kernel
theorem eX6_beginsNow_0 : decode cX6_beginsNow 0 = .ok (.bipush 8, 2) ∧ 0 + 2 = 2 := ⟨by decide +kernel, rfl⟩
theorem eX6_beginsNow_2 : decode cX6_beginsNow 2 = .ok (.iload_n 1, 1) ∧ 2 + 1 = 3 := ⟨by decide +kernel, rfl⟩
theorem eX6_beginsNow_3 : decode cX6_beginsNow 3 = .ok (.imul, 1) ∧ 3 + 1 = 4 := ⟨by decide +kernel, rfl⟩
theorem eX6_beginsNow_4 : decode cX6_beginsNow 4 = .ok (.istore_n 3, 1) ∧ 4 + 1 = 5 := ⟨by decide +kernel, rfl⟩
theorem eX6_beginsNow_5 : decode cX6_beginsNow 5 = .ok (.aload_n 0, 1) ∧ 5 + 1 = 6 := ⟨by decide +kernel, rfl⟩
theorem eX6_beginsNow_6 : decode cX6_beginsNow 6 = .ok (.getfield 25, 3) ∧ 6 + 3 = 9 := ⟨by decide +kernel, rfl⟩
theorem eX6_beginsNow_9 : decode cX6_beginsNow 9 = .ok (.iload_n 3, 1) ∧ 9 + 1 = 10 := ⟨by decide +kernel, rfl⟩
theorem eX6_beginsNow_10 : decode cX6_beginsNow 10 = .ok (.iconst 2, 1) ∧ 10 + 1 = 11 := ⟨by decide +kernel, rfl⟩
theorem eX6_beginsNow_11 : decode cX6_beginsNow 11 = .ok (.iadd, 1) ∧ 11 + 1 = 12 := ⟨by decide +kernel, rfl⟩
theorem eX6_beginsNow_12 : decode cX6_beginsNow 12 = .ok (.iaload, 1) ∧ 12 + 1 = 13 := ⟨by decide +kernel, rfl⟩
theorem eX6_beginsNow_13 : decode cX6_beginsNow 13 = .ok (.iload_n 2, 1) ∧ 13 + 1 = 14 := ⟨by decide +kernel, rfl⟩
theorem eX6_beginsNow_14 : decode cX6_beginsNow 14 = .ok (.invokestatic 94, 3) ∧ 14 + 3 = 17 := ⟨by decide +kernel, rfl⟩
theorem eX6_beginsNow_17 : decode cX6_beginsNow 17 = .ok (.ifCond .eq 8, 3) ∧ ((17 : Nat) : Int) + 8 = ((25 : Nat) : Int) ∧ 17 + 3 = 20 := ⟨by decide +kernel, by decide, rfl⟩
theorem eX6_beginsNow_20 : decode cX6_beginsNow 20 = .ok (.bipush (-9), 2) ∧ 20 + 2 = 22 := ⟨by decide +kernel, rfl⟩
theorem eX6_beginsNow_22 : decode cX6_beginsNow 22 = .ok (.goto 24, 3) ∧ ((22 : Nat) : Int) + 24 = ((46 : Nat) : Int) := ⟨by decide +kernel, by decide⟩
theorem eX6_beginsNow_25 : decode cX6_beginsNow 25 = .ok (.aload_n 0, 1) ∧ 25 + 1 = 26 := ⟨by decide +kernel, rfl⟩
theorem eX6_beginsNow_26 : decode cX6_beginsNow 26 = .ok (.iload_n 1, 1) ∧ 26 + 1 = 27 := ⟨by decide +kernel, rfl⟩
theorem eX6_beginsNow_27 : decode cX6_beginsNow 27 = .ok (.iload_n 2, 1) ∧ 27 + 1 = 28 := ⟨by decide +kernel, rfl⟩
theorem eX6_beginsNow_28 : decode cX6_beginsNow 28 = .ok (.aload_n 0, 1) ∧ 28 + 1 = 29 := ⟨by decide +kernel, rfl⟩
theorem eX6_beginsNow_29 : decode cX6_beginsNow 29 = .ok (.getfield 25, 3) ∧ 29 + 3 = 32 := ⟨by decide +kernel, rfl⟩
theorem eX6_beginsNow_32 : decode cX6_beginsNow 32 = .ok (.iload_n 3, 1) ∧ 32 + 1 = 33 := ⟨by decide +kernel, rfl⟩
theorem eX6_beginsNow_33 : decode cX6_beginsNow 33 = .ok (.iconst 1, 1) ∧ 33 + 1 = 34 := ⟨by decide +kernel, rfl⟩
theorem eX6_beginsNow_34 : decode cX6_beginsNow 34 = .ok (.iadd, 1) ∧ 34 + 1 = 35 := ⟨by decide +kernel, rfl⟩
theorem eX6_beginsNow_35 : decode cX6_beginsNow 35 = .ok (.iaload, 1) ∧ 35 + 1 = 36 := ⟨by decide +kernel, rfl⟩
theorem eX6_beginsNow_36 : decode cX6_beginsNow 36 = .ok (.aload_n 0, 1) ∧ 36 + 1 = 37 := ⟨by decide +kernel, rfl⟩
theorem eX6_beginsNow_37 : decode cX6_beginsNow 37 = .ok (.getfield 25, 3) ∧ 37 + 3 = 40 := ⟨by decide +kernel, rfl⟩
theorem eX6_beginsNow_40 : decode cX6_beginsNow 40 = .ok (.iload_n 3, 1) ∧ 40 + 1 = 41 := ⟨by decide +kernel, rfl⟩
theorem eX6_beginsNow_41 : decode cX6_beginsNow 41 = .ok (.iaload, 1) ∧ 41 + 1 = 42 := ⟨by decide +kernel, rfl⟩
theorem eX6_beginsNow_42 : decode cX6_beginsNow 42 = .ok (.iconst 0, 1) ∧ 42 + 1 = 43 := ⟨by decide +kernel, rfl⟩
theorem eX6_beginsNow_43 : decode cX6_beginsNow 43 = .ok (.invokevirtual 98, 3) ∧ 43 + 3 = 46 := ⟨by decide +kernel, rfl⟩
theorem eX6_beginsNow_46 : decode cX6_beginsNow 46 = .ok (.ireturn, 1) := by decide +kernel
theorem eX6_wedOn_0 : decode cX6_wedOn 0 = .ok (.bipush 8, 2) ∧ 0 + 2 = 2 := ⟨by decide +kernel, rfl⟩
theorem eX6_wedOn_2 : decode cX6_wedOn 2 = .ok (.iload_n 1, 1) ∧ 2 + 1 = 3 := ⟨by decide +kernel, rfl⟩
theorem eX6_wedOn_3 : decode cX6_wedOn 3 = .ok (.imul, 1) ∧ 3 + 1 = 4 := ⟨by decide +kernel, rfl⟩
theorem eX6_wedOn_4 : decode cX6_wedOn 4 = .ok (.istore_n 3, 1) ∧ 4 + 1 = 5 := ⟨by decide +kernel, rfl⟩
theorem eX6_wedOn_5 : decode cX6_wedOn 5 = .ok (.aload_n 0, 1) ∧ 5 + 1 = 6 := ⟨by decide +kernel, rfl⟩
theorem eX6_wedOn_6 : decode cX6_wedOn 6 = .ok (.iload_n 1, 1) ∧ 6 + 1 = 7 := ⟨by decide +kernel, rfl⟩
theorem eX6_wedOn_7 : decode cX6_wedOn 7 = .ok (.iload_n 2, 1) ∧ 7 + 1 = 8 := ⟨by decide +kernel, rfl⟩
theorem eX6_wedOn_8 : decode cX6_wedOn 8 = .ok (.invokevirtual 102, 3) ∧ 8 + 3 = 11 := ⟨by decide +kernel, rfl⟩
theorem eX6_wedOn_11 : decode cX6_wedOn 11 = .ok (.istore 4, 2) ∧ 11 + 2 = 13 := ⟨by decide +kernel, rfl⟩
theorem eX6_wedOn_13 : decode cX6_wedOn 13 = .ok (.iload 4, 2) ∧ 13 + 2 = 15 := ⟨by decide +kernel, rfl⟩
theorem eX6_wedOn_15 : decode cX6_wedOn 15 = .ok (.bipush (-9), 2) ∧ 15 + 2 = 17 := ⟨by decide +kernel, rfl⟩
theorem eX6_wedOn_17 : decode cX6_wedOn 17 = .ok (.if_icmp .ne 5, 3) ∧ ((17 : Nat) : Int) + 5 = ((22 : Nat) : Int) ∧ 17 + 3 = 20 := ⟨by decide +kernel, by decide, rfl⟩
theorem eX6_wedOn_20 : decode cX6_wedOn 20 = .ok (.iconst 0, 1) ∧ 20 + 1 = 21 := ⟨by decide +kernel, rfl⟩
theorem eX6_wedOn_21 : decode cX6_wedOn 21 = .ok (.ireturn, 1) := by decide +kernel
theorem eX6_wedOn_22 : decode cX6_wedOn 22 = .ok (.aload_n 0, 1) ∧ 22 + 1 = 23 := ⟨by decide +kernel, rfl⟩
theorem eX6_wedOn_23 : decode cX6_wedOn 23 = .ok (.getfield 25, 3) ∧ 23 + 3 = 26 := ⟨by decide +kernel, rfl⟩
theorem eX6_wedOn_26 : decode cX6_wedOn 26 = .ok (.iload_n 3, 1) ∧ 26 + 1 = 27 := ⟨by decide +kernel, rfl⟩
theorem eX6_wedOn_27 : decode cX6_wedOn 27 = .ok (.aload_n 0, 1) ∧ 27 + 1 = 28 := ⟨by decide +kernel, rfl⟩
theorem eX6_wedOn_28 : decode cX6_wedOn 28 = .ok (.iload_n 2, 1) ∧ 28 + 1 = 29 := ⟨by decide +kernel, rfl⟩
theorem eX6_wedOn_29 : decode cX6_wedOn 29 = .ok (.iload 4, 2) ∧ 29 + 2 = 31 := ⟨by decide +kernel, rfl⟩
theorem eX6_wedOn_31 : decode cX6_wedOn 31 = .ok (.invokevirtual 106, 3) ∧ 31 + 3 = 34 := ⟨by decide +kernel, rfl⟩
theorem eX6_wedOn_34 : decode cX6_wedOn 34 = .ok (.iastore, 1) ∧ 34 + 1 = 35 := ⟨by decide +kernel, rfl⟩
theorem eX6_wedOn_35 : decode cX6_wedOn 35 = .ok (.aload_n 0, 1) ∧ 35 + 1 = 36 := ⟨by decide +kernel, rfl⟩
theorem eX6_wedOn_36 : decode cX6_wedOn 36 = .ok (.getfield 25, 3) ∧ 36 + 3 = 39 := ⟨by decide +kernel, rfl⟩
theorem eX6_wedOn_39 : decode cX6_wedOn 39 = .ok (.iload_n 3, 1) ∧ 39 + 1 = 40 := ⟨by decide +kernel, rfl⟩
theorem eX6_wedOn_40 : decode cX6_wedOn 40 = .ok (.iconst 1, 1) ∧ 40 + 1 = 41 := ⟨by decide +kernel, rfl⟩
theorem eX6_wedOn_41 : decode cX6_wedOn 41 = .ok (.iadd, 1) ∧ 41 + 1 = 42 := ⟨by decide +kernel, rfl⟩
theorem eX6_wedOn_42 : decode cX6_wedOn 42 = .ok (.aload_n 0, 1) ∧ 42 + 1 = 43 := ⟨by decide +kernel, rfl⟩
theorem eX6_wedOn_43 : decode cX6_wedOn 43 = .ok (.getfield 7, 3) ∧ 43 + 3 = 46 := ⟨by decide +kernel, rfl⟩
theorem eX6_wedOn_46 : decode cX6_wedOn 46 = .ok (.iload_n 2, 1) ∧ 46 + 1 = 47 := ⟨by decide +kernel, rfl⟩
theorem eX6_wedOn_47 : decode cX6_wedOn 47 = .ok (.iaload, 1) ∧ 47 + 1 = 48 := ⟨by decide +kernel, rfl⟩
theorem eX6_wedOn_48 : decode cX6_wedOn 48 = .ok (.iastore, 1) ∧ 48 + 1 = 49 := ⟨by decide +kernel, rfl⟩
theorem eX6_wedOn_49 : decode cX6_wedOn 49 = .ok (.aload_n 0, 1) ∧ 49 + 1 = 50 := ⟨by decide +kernel, rfl⟩
theorem eX6_wedOn_50 : decode cX6_wedOn 50 = .ok (.getfield 25, 3) ∧ 50 + 3 = 53 := ⟨by decide +kernel, rfl⟩
theorem eX6_wedOn_53 : decode cX6_wedOn 53 = .ok (.iload_n 3, 1) ∧ 53 + 1 = 54 := ⟨by decide +kernel, rfl⟩
theorem eX6_wedOn_54 : decode cX6_wedOn 54 = .ok (.iconst 2, 1) ∧ 54 + 1 = 55 := ⟨by decide +kernel, rfl⟩
theorem eX6_wedOn_55 : decode cX6_wedOn 55 = .ok (.iadd, 1) ∧ 55 + 1 = 56 := ⟨by decide +kernel, rfl⟩
theorem eX6_wedOn_56 : decode cX6_wedOn 56 = .ok (.dup2, 1) ∧ 56 + 1 = 57 := ⟨by decide +kernel, rfl⟩
theorem eX6_wedOn_57 : decode cX6_wedOn 57 = .ok (.iaload, 1) ∧ 57 + 1 = 58 := ⟨by decide +kernel, rfl⟩
theorem eX6_wedOn_58 : decode cX6_wedOn 58 = .ok (.iconst 1, 1) ∧ 58 + 1 = 59 := ⟨by decide +kernel, rfl⟩
theorem eX6_wedOn_59 : decode cX6_wedOn 59 = .ok (.iload_n 2, 1) ∧ 59 + 1 = 60 := ⟨by decide +kernel, rfl⟩
theorem eX6_wedOn_60 : decode cX6_wedOn 60 = .ok (.ishl, 1) ∧ 60 + 1 = 61 := ⟨by decide +kernel, rfl⟩
theorem eX6_wedOn_61 : decode cX6_wedOn 61 = .ok (.ior, 1) ∧ 61 + 1 = 62 := ⟨by decide +kernel, rfl⟩
theorem eX6_wedOn_62 : decode cX6_wedOn 62 = .ok (.iastore, 1) ∧ 62 + 1 = 63 := ⟨by decide +kernel, rfl⟩
theorem eX6_wedOn_63 : decode cX6_wedOn 63 = .ok (.iconst 1, 1) ∧ 63 + 1 = 64 := ⟨by decide +kernel, rfl⟩
theorem eX6_wedOn_64 : decode cX6_wedOn 64 = .ok (.ireturn, 1) := by decide +kernel
theorem eX6_wedding_0 : decode cX6_wedding 0 = .ok (.aload_n 0, 1) ∧ 0 + 1 = 1 := ⟨by decide +kernel, rfl⟩
theorem eX6_wedding_1 : decode cX6_wedding 1 = .ok (.iload_n 1, 1) ∧ 1 + 1 = 2 := ⟨by decide +kernel, rfl⟩
theorem eX6_wedding_2 : decode cX6_wedding 2 = .ok (.invokevirtual 109, 3) ∧ 2 + 3 = 5 := ⟨by decide +kernel, rfl⟩
theorem eX6_wedding_5 : decode cX6_wedding 5 = .ok (.ifCond .ne 5, 3) ∧ ((5 : Nat) : Int) + 5 = ((10 : Nat) : Int) ∧ 5 + 3 = 8 := ⟨by decide +kernel, by decide, rfl⟩
theorem eX6_wedding_8 : decode cX6_wedding 8 = .ok (.iconst (-1), 1) ∧ 8 + 1 = 9 := ⟨by decide +kernel, rfl⟩
theorem eX6_wedding_9 : decode cX6_wedding 9 = .ok (.ireturn, 1) := by decide +kernel
theorem eX6_wedding_10 : decode cX6_wedding 10 = .ok (.iload_n 2, 1) ∧ 10 + 1 = 11 := ⟨by decide +kernel, rfl⟩
theorem eX6_wedding_11 : decode cX6_wedding 11 = .ok (.tableswitch 94 0 6 #[41, 48, 55, 62, 69, 76, 87], 41) := by decide +kernel
theorem eX6_wedding_52 : decode cX6_wedding 52 = .ok (.aload_n 0, 1) ∧ 52 + 1 = 53 := ⟨by decide +kernel, rfl⟩
theorem eX6_wedding_53 : decode cX6_wedding 53 = .ok (.getfield 7, 3) ∧ 53 + 3 = 56 := ⟨by decide +kernel, rfl⟩
theorem eX6_wedding_56 : decode cX6_wedding 56 = .ok (.iload_n 1, 1) ∧ 56 + 1 = 57 := ⟨by decide +kernel, rfl⟩
theorem eX6_wedding_57 : decode cX6_wedding 57 = .ok (.iaload, 1) ∧ 57 + 1 = 58 := ⟨by decide +kernel, rfl⟩
theorem eX6_wedding_58 : decode cX6_wedding 58 = .ok (.ireturn, 1) := by decide +kernel
theorem eX6_wedding_59 : decode cX6_wedding 59 = .ok (.aload_n 0, 1) ∧ 59 + 1 = 60 := ⟨by decide +kernel, rfl⟩
theorem eX6_wedding_60 : decode cX6_wedding 60 = .ok (.getfield 13, 3) ∧ 60 + 3 = 63 := ⟨by decide +kernel, rfl⟩
theorem eX6_wedding_63 : decode cX6_wedding 63 = .ok (.iload_n 1, 1) ∧ 63 + 1 = 64 := ⟨by decide +kernel, rfl⟩
theorem eX6_wedding_64 : decode cX6_wedding 64 = .ok (.iaload, 1) ∧ 64 + 1 = 65 := ⟨by decide +kernel, rfl⟩
theorem eX6_wedding_65 : decode cX6_wedding 65 = .ok (.ireturn, 1) := by decide +kernel
theorem eX6_wedding_66 : decode cX6_wedding 66 = .ok (.aload_n 0, 1) ∧ 66 + 1 = 67 := ⟨by decide +kernel, rfl⟩
theorem eX6_wedding_67 : decode cX6_wedding 67 = .ok (.getfield 16, 3) ∧ 67 + 3 = 70 := ⟨by decide +kernel, rfl⟩
theorem eX6_wedding_70 : decode cX6_wedding 70 = .ok (.iload_n 1, 1) ∧ 70 + 1 = 71 := ⟨by decide +kernel, rfl⟩
theorem eX6_wedding_71 : decode cX6_wedding 71 = .ok (.iaload, 1) ∧ 71 + 1 = 72 := ⟨by decide +kernel, rfl⟩
theorem eX6_wedding_72 : decode cX6_wedding 72 = .ok (.ireturn, 1) := by decide +kernel
theorem eX6_wedding_73 : decode cX6_wedding 73 = .ok (.aload_n 0, 1) ∧ 73 + 1 = 74 := ⟨by decide +kernel, rfl⟩
theorem eX6_wedding_74 : decode cX6_wedding 74 = .ok (.getfield 19, 3) ∧ 74 + 3 = 77 := ⟨by decide +kernel, rfl⟩
theorem eX6_wedding_77 : decode cX6_wedding 77 = .ok (.iload_n 1, 1) ∧ 77 + 1 = 78 := ⟨by decide +kernel, rfl⟩
theorem eX6_wedding_78 : decode cX6_wedding 78 = .ok (.iaload, 1) ∧ 78 + 1 = 79 := ⟨by decide +kernel, rfl⟩
theorem eX6_wedding_79 : decode cX6_wedding 79 = .ok (.ireturn, 1) := by decide +kernel
theorem eX6_wedding_80 : decode cX6_wedding 80 = .ok (.aload_n 0, 1) ∧ 80 + 1 = 81 := ⟨by decide +kernel, rfl⟩
theorem eX6_wedding_81 : decode cX6_wedding 81 = .ok (.getfield 22, 3) ∧ 81 + 3 = 84 := ⟨by decide +kernel, rfl⟩
theorem eX6_wedding_84 : decode cX6_wedding 84 = .ok (.iload_n 1, 1) ∧ 84 + 1 = 85 := ⟨by decide +kernel, rfl⟩
theorem eX6_wedding_85 : decode cX6_wedding 85 = .ok (.iaload, 1) ∧ 85 + 1 = 86 := ⟨by decide +kernel, rfl⟩
theorem eX6_wedding_86 : decode cX6_wedding 86 = .ok (.ireturn, 1) := by decide +kernel
theorem eX6_wedding_87 : decode cX6_wedding 87 = .ok (.aload_n 0, 1) ∧ 87 + 1 = 88 := ⟨by decide +kernel, rfl⟩
theorem eX6_wedding_88 : decode cX6_wedding 88 = .ok (.getfield 25, 3) ∧ 88 + 3 = 91 := ⟨by decide +kernel, rfl⟩
theorem eX6_wedding_91 : decode cX6_wedding 91 = .ok (.iconst 2, 1) ∧ 91 + 1 = 92 := ⟨by decide +kernel, rfl⟩
theorem eX6_wedding_92 : decode cX6_wedding 92 = .ok (.iaload, 1) ∧ 92 + 1 = 93 := ⟨by decide +kernel, rfl⟩
theorem eX6_wedding_93 : decode cX6_wedding 93 = .ok (.iload_n 1, 1) ∧ 93 + 1 = 94 := ⟨by decide +kernel, rfl⟩
theorem eX6_wedding_94 : decode cX6_wedding 94 = .ok (.ishr, 1) ∧ 94 + 1 = 95 := ⟨by decide +kernel, rfl⟩
theorem eX6_wedding_95 : decode cX6_wedding 95 = .ok (.iconst 1, 1) ∧ 95 + 1 = 96 := ⟨by decide +kernel, rfl⟩
theorem eX6_wedding_96 : decode cX6_wedding 96 = .ok (.iand, 1) ∧ 96 + 1 = 97 := ⟨by decide +kernel, rfl⟩
theorem eX6_wedding_97 : decode cX6_wedding 97 = .ok (.ireturn, 1) := by decide +kernel
theorem eX6_wedding_98 : decode cX6_wedding 98 = .ok (.aload_n 0, 1) ∧ 98 + 1 = 99 := ⟨by decide +kernel, rfl⟩
theorem eX6_wedding_99 : decode cX6_wedding 99 = .ok (.iconst 0, 1) ∧ 99 + 1 = 100 := ⟨by decide +kernel, rfl⟩
theorem eX6_wedding_100 : decode cX6_wedding 100 = .ok (.iload_n 1, 1) ∧ 100 + 1 = 101 := ⟨by decide +kernel, rfl⟩
theorem eX6_wedding_101 : decode cX6_wedding 101 = .ok (.invokevirtual 102, 3) ∧ 101 + 3 = 104 := ⟨by decide +kernel, rfl⟩
theorem eX6_wedding_104 : decode cX6_wedding 104 = .ok (.ireturn, 1) := by decide +kernel
theorem eX6_wedding_105 : decode cX6_wedding 105 = .ok (.bipush (-2), 2) ∧ 105 + 2 = 107 := ⟨by decide +kernel, rfl⟩
theorem eX6_wedding_107 : decode cX6_wedding 107 = .ok (.ireturn, 1) := by decide +kernel
theorem eX6_road_0 : decode cX6_road 0 = .ok (.iload_n 1, 1) ∧ 0 + 1 = 1 := ⟨by decide +kernel, rfl⟩
theorem eX6_road_1 : decode cX6_road 1 = .ok (.i2l, 1) ∧ 1 + 1 = 2 := ⟨by decide +kernel, rfl⟩
theorem eX6_road_2 : decode cX6_road 2 = .ok (.lconst 0, 1) ∧ 2 + 1 = 3 := ⟨by decide +kernel, rfl⟩
theorem eX6_road_3 : decode cX6_road 3 = .ok (.ldc2_w 112, 3) ∧ 3 + 3 = 6 := ⟨by decide +kernel, rfl⟩
theorem eX6_road_6 : decode cX6_road 6 = .ok (.invokestatic 59, 3) ∧ 6 + 3 = 9 := ⟨by decide +kernel, rfl⟩
theorem eX6_road_9 : decode cX6_road 9 = .ok (.ifCond .eq 14, 3) ∧ ((9 : Nat) : Int) + 14 = ((23 : Nat) : Int) ∧ 9 + 3 = 12 := ⟨by decide +kernel, by decide, rfl⟩
theorem eX6_road_12 : decode cX6_road 12 = .ok (.aload_n 0, 1) ∧ 12 + 1 = 13 := ⟨by decide +kernel, rfl⟩
theorem eX6_road_13 : decode cX6_road 13 = .ok (.getfield 25, 3) ∧ 13 + 3 = 16 := ⟨by decide +kernel, rfl⟩
theorem eX6_road_16 : decode cX6_road 16 = .ok (.iconst 3, 1) ∧ 16 + 1 = 17 := ⟨by decide +kernel, rfl⟩
theorem eX6_road_17 : decode cX6_road 17 = .ok (.iload_n 1, 1) ∧ 17 + 1 = 18 := ⟨by decide +kernel, rfl⟩
theorem eX6_road_18 : decode cX6_road 18 = .ok (.iadd, 1) ∧ 18 + 1 = 19 := ⟨by decide +kernel, rfl⟩
theorem eX6_road_19 : decode cX6_road 19 = .ok (.iaload, 1) ∧ 19 + 1 = 20 := ⟨by decide +kernel, rfl⟩
theorem eX6_road_20 : decode cX6_road 20 = .ok (.goto 4, 3) ∧ ((20 : Nat) : Int) + 4 = ((24 : Nat) : Int) := ⟨by decide +kernel, by decide⟩
theorem eX6_road_23 : decode cX6_road 23 = .ok (.iconst (-1), 1) ∧ 23 + 1 = 24 := ⟨by decide +kernel, rfl⟩
theorem eX6_road_24 : decode cX6_road 24 = .ok (.ireturn, 1) := by decide +kernel
theorem eX6_way_0 : decode cX6_way 0 = .ok (.iload_n 1, 1) ∧ 0 + 1 = 1 := ⟨by decide +kernel, rfl⟩
theorem eX6_way_1 : decode cX6_way 1 = .ok (.invokestatic 114, 3) ∧ 1 + 3 = 4 := ⟨by decide +kernel, rfl⟩
theorem eX6_way_4 : decode cX6_way 4 = .ok (.ifCond .eq 20, 3) ∧ ((4 : Nat) : Int) + 20 = ((24 : Nat) : Int) ∧ 4 + 3 = 7 := ⟨by decide +kernel, by decide, rfl⟩
theorem eX6_way_7 : decode cX6_way 7 = .ok (.iload_n 2, 1) ∧ 7 + 1 = 8 := ⟨by decide +kernel, rfl⟩
theorem eX6_way_8 : decode cX6_way 8 = .ok (.invokestatic 114, 3) ∧ 8 + 3 = 11 := ⟨by decide +kernel, rfl⟩
theorem eX6_way_11 : decode cX6_way 11 = .ok (.ifCond .eq 13, 3) ∧ ((11 : Nat) : Int) + 13 = ((24 : Nat) : Int) ∧ 11 + 3 = 14 := ⟨by decide +kernel, by decide, rfl⟩
theorem eX6_way_14 : decode cX6_way 14 = .ok (.aload_n 0, 1) ∧ 14 + 1 = 15 := ⟨by decide +kernel, rfl⟩
theorem eX6_way_15 : decode cX6_way 15 = .ok (.iconst 0, 1) ∧ 15 + 1 = 16 := ⟨by decide +kernel, rfl⟩
theorem eX6_way_16 : decode cX6_way 16 = .ok (.iload_n 1, 1) ∧ 16 + 1 = 17 := ⟨by decide +kernel, rfl⟩
theorem eX6_way_17 : decode cX6_way 17 = .ok (.iload_n 2, 1) ∧ 17 + 1 = 18 := ⟨by decide +kernel, rfl⟩
theorem eX6_way_18 : decode cX6_way 18 = .ok (.invokevirtual 86, 3) ∧ 18 + 3 = 21 := ⟨by decide +kernel, rfl⟩
theorem eX6_way_21 : decode cX6_way 21 = .ok (.goto 4, 3) ∧ ((21 : Nat) : Int) + 4 = ((25 : Nat) : Int) := ⟨by decide +kernel, by decide⟩
theorem eX6_way_24 : decode cX6_way 24 = .ok (.iconst (-1), 1) ∧ 24 + 1 = 25 := ⟨by decide +kernel, rfl⟩
theorem eX6_way_25 : decode cX6_way 25 = .ok (.ireturn, 1) := by decide +kernel
theorem eX6_keepAct_0 : decode cX6_keepAct 0 = .ok (.iconst 0, 1) ∧ 0 + 1 = 1 := ⟨by decide +kernel, rfl⟩
theorem eX6_keepAct_1 : decode cX6_keepAct 1 = .ok (.istore_n 1, 1) ∧ 1 + 1 = 2 := ⟨by decide +kernel, rfl⟩
theorem eX6_keepAct_2 : decode cX6_keepAct 2 = .ok (.iload_n 1, 1) ∧ 2 + 1 = 3 := ⟨by decide +kernel, rfl⟩
theorem eX6_keepAct_3 : decode cX6_keepAct 3 = .ok (.bipush 8, 2) ∧ 3 + 2 = 5 := ⟨by decide +kernel, rfl⟩
theorem eX6_keepAct_5 : decode cX6_keepAct 5 = .ok (.if_icmp .ge 29, 3) ∧ ((5 : Nat) : Int) + 29 = ((34 : Nat) : Int) ∧ 5 + 3 = 8 := ⟨by decide +kernel, by decide, rfl⟩
theorem eX6_keepAct_8 : decode cX6_keepAct 8 = .ok (.aload_n 0, 1) ∧ 8 + 1 = 9 := ⟨by decide +kernel, rfl⟩
theorem eX6_keepAct_9 : decode cX6_keepAct 9 = .ok (.getfield 31, 3) ∧ 9 + 3 = 12 := ⟨by decide +kernel, rfl⟩
theorem eX6_keepAct_12 : decode cX6_keepAct 12 = .ok (.bipush 8, 2) ∧ 12 + 2 = 14 := ⟨by decide +kernel, rfl⟩
theorem eX6_keepAct_14 : decode cX6_keepAct 14 = .ok (.aload_n 0, 1) ∧ 14 + 1 = 15 := ⟨by decide +kernel, rfl⟩
theorem eX6_keepAct_15 : decode cX6_keepAct 15 = .ok (.getfield 117, 3) ∧ 15 + 3 = 18 := ⟨by decide +kernel, rfl⟩
theorem eX6_keepAct_18 : decode cX6_keepAct 18 = .ok (.imul, 1) ∧ 18 + 1 = 19 := ⟨by decide +kernel, rfl⟩
theorem eX6_keepAct_19 : decode cX6_keepAct 19 = .ok (.iload_n 1, 1) ∧ 19 + 1 = 20 := ⟨by decide +kernel, rfl⟩
theorem eX6_keepAct_20 : decode cX6_keepAct 20 = .ok (.iadd, 1) ∧ 20 + 1 = 21 := ⟨by decide +kernel, rfl⟩
theorem eX6_keepAct_21 : decode cX6_keepAct 21 = .ok (.aload_n 0, 1) ∧ 21 + 1 = 22 := ⟨by decide +kernel, rfl⟩
theorem eX6_keepAct_22 : decode cX6_keepAct 22 = .ok (.getfield 25, 3) ∧ 22 + 3 = 25 := ⟨by decide +kernel, rfl⟩
theorem eX6_keepAct_25 : decode cX6_keepAct 25 = .ok (.iload_n 1, 1) ∧ 25 + 1 = 26 := ⟨by decide +kernel, rfl⟩
theorem eX6_keepAct_26 : decode cX6_keepAct 26 = .ok (.iaload, 1) ∧ 26 + 1 = 27 := ⟨by decide +kernel, rfl⟩
theorem eX6_keepAct_27 : decode cX6_keepAct 27 = .ok (.iastore, 1) ∧ 27 + 1 = 28 := ⟨by decide +kernel, rfl⟩
theorem eX6_keepAct_28 : decode cX6_keepAct 28 = .ok (.iinc 1 1, 3) ∧ 28 + 3 = 31 := ⟨by decide +kernel, rfl⟩
theorem eX6_keepAct_31 : decode cX6_keepAct 31 = .ok (.goto (-29), 3) ∧ ((31 : Nat) : Int) + (-29) = ((2 : Nat) : Int) := ⟨by decide +kernel, by decide⟩
theorem eX6_keepAct_34 : decode cX6_keepAct 34 = .ok (.aload_n 0, 1) ∧ 34 + 1 = 35 := ⟨by decide +kernel, rfl⟩
theorem eX6_keepAct_35 : decode cX6_keepAct 35 = .ok (.aload_n 0, 1) ∧ 35 + 1 = 36 := ⟨by decide +kernel, rfl⟩
theorem eX6_keepAct_36 : decode cX6_keepAct 36 = .ok (.getfield 117, 3) ∧ 36 + 3 = 39 := ⟨by decide +kernel, rfl⟩
theorem eX6_keepAct_39 : decode cX6_keepAct 39 = .ok (.iconst 1, 1) ∧ 39 + 1 = 40 := ⟨by decide +kernel, rfl⟩
theorem eX6_keepAct_40 : decode cX6_keepAct 40 = .ok (.iadd, 1) ∧ 40 + 1 = 41 := ⟨by decide +kernel, rfl⟩
theorem eX6_keepAct_41 : decode cX6_keepAct 41 = .ok (.bipush 14, 2) ∧ 41 + 2 = 43 := ⟨by decide +kernel, rfl⟩
theorem eX6_keepAct_43 : decode cX6_keepAct 43 = .ok (.irem, 1) ∧ 43 + 1 = 44 := ⟨by decide +kernel, rfl⟩
theorem eX6_keepAct_44 : decode cX6_keepAct 44 = .ok (.putfield 117, 3) ∧ 44 + 3 = 47 := ⟨by decide +kernel, rfl⟩
theorem eX6_keepAct_47 : decode cX6_keepAct 47 = .ok (.aload_n 0, 1) ∧ 47 + 1 = 48 := ⟨by decide +kernel, rfl⟩
theorem eX6_keepAct_48 : decode cX6_keepAct 48 = .ok (.aload_n 0, 1) ∧ 48 + 1 = 49 := ⟨by decide +kernel, rfl⟩
theorem eX6_keepAct_49 : decode cX6_keepAct 49 = .ok (.getfield 83, 3) ∧ 49 + 3 = 52 := ⟨by decide +kernel, rfl⟩
theorem eX6_keepAct_52 : decode cX6_keepAct 52 = .ok (.bipush 14, 2) ∧ 52 + 2 = 54 := ⟨by decide +kernel, rfl⟩
theorem eX6_keepAct_54 : decode cX6_keepAct 54 = .ok (.if_icmp .ge 12, 3) ∧ ((54 : Nat) : Int) + 12 = ((66 : Nat) : Int) ∧ 54 + 3 = 57 := ⟨by decide +kernel, by decide, rfl⟩
theorem eX6_keepAct_57 : decode cX6_keepAct 57 = .ok (.aload_n 0, 1) ∧ 57 + 1 = 58 := ⟨by decide +kernel, rfl⟩
theorem eX6_keepAct_58 : decode cX6_keepAct 58 = .ok (.getfield 83, 3) ∧ 58 + 3 = 61 := ⟨by decide +kernel, rfl⟩
theorem eX6_keepAct_61 : decode cX6_keepAct 61 = .ok (.iconst 1, 1) ∧ 61 + 1 = 62 := ⟨by decide +kernel, rfl⟩
theorem eX6_keepAct_62 : decode cX6_keepAct 62 = .ok (.iadd, 1) ∧ 62 + 1 = 63 := ⟨by decide +kernel, rfl⟩
theorem eX6_keepAct_63 : decode cX6_keepAct 63 = .ok (.goto 5, 3) ∧ ((63 : Nat) : Int) + 5 = ((68 : Nat) : Int) := ⟨by decide +kernel, by decide⟩
theorem eX6_keepAct_66 : decode cX6_keepAct 66 = .ok (.bipush 14, 2) ∧ 66 + 2 = 68 := ⟨by decide +kernel, rfl⟩
theorem eX6_keepAct_68 : decode cX6_keepAct 68 = .ok (.putfield 83, 3) ∧ 68 + 3 = 71 := ⟨by decide +kernel, rfl⟩
theorem eX6_keepAct_71 : decode cX6_keepAct 71 = .ok (.return_, 1) := by decide +kernel
theorem eX6_wed_0 : decode cX6_wed 0 = .ok (.aload_n 0, 1) ∧ 0 + 1 = 1 := ⟨by decide +kernel, rfl⟩
theorem eX6_wed_1 : decode cX6_wed 1 = .ok (.iload_n 1, 1) ∧ 1 + 1 = 2 := ⟨by decide +kernel, rfl⟩
theorem eX6_wed_2 : decode cX6_wed 2 = .ok (.invokevirtual 109, 3) ∧ 2 + 3 = 5 := ⟨by decide +kernel, rfl⟩
theorem eX6_wed_5 : decode cX6_wed 5 = .ok (.ifCond .ne 5, 3) ∧ ((5 : Nat) : Int) + 5 = ((10 : Nat) : Int) ∧ 5 + 3 = 8 := ⟨by decide +kernel, by decide, rfl⟩
theorem eX6_wed_8 : decode cX6_wed 8 = .ok (.iconst (-1), 1) ∧ 8 + 1 = 9 := ⟨by decide +kernel, rfl⟩
theorem eX6_wed_9 : decode cX6_wed 9 = .ok (.ireturn, 1) := by decide +kernel
theorem eX6_wed_10 : decode cX6_wed 10 = .ok (.aload_n 0, 1) ∧ 10 + 1 = 11 := ⟨by decide +kernel, rfl⟩
theorem eX6_wed_11 : decode cX6_wed 11 = .ok (.iconst 0, 1) ∧ 11 + 1 = 12 := ⟨by decide +kernel, rfl⟩
theorem eX6_wed_12 : decode cX6_wed 12 = .ok (.iload_n 1, 1) ∧ 12 + 1 = 13 := ⟨by decide +kernel, rfl⟩
theorem eX6_wed_13 : decode cX6_wed 13 = .ok (.invokevirtual 102, 3) ∧ 13 + 3 = 16 := ⟨by decide +kernel, rfl⟩
theorem eX6_wed_16 : decode cX6_wed 16 = .ok (.bipush (-9), 2) ∧ 16 + 2 = 18 := ⟨by decide +kernel, rfl⟩
theorem eX6_wed_18 : decode cX6_wed 18 = .ok (.if_icmp .ne 6, 3) ∧ ((18 : Nat) : Int) + 6 = ((24 : Nat) : Int) ∧ 18 + 3 = 21 := ⟨by decide +kernel, by decide, rfl⟩
theorem eX6_wed_21 : decode cX6_wed 21 = .ok (.bipush (-3), 2) ∧ 21 + 2 = 23 := ⟨by decide +kernel, rfl⟩
theorem eX6_wed_23 : decode cX6_wed 23 = .ok (.ireturn, 1) := by decide +kernel
theorem eX6_wed_24 : decode cX6_wed 24 = .ok (.aload_n 0, 1) ∧ 24 + 1 = 25 := ⟨by decide +kernel, rfl⟩
theorem eX6_wed_25 : decode cX6_wed 25 = .ok (.invokevirtual 120, 3) ∧ 25 + 3 = 28 := ⟨by decide +kernel, rfl⟩
theorem eX6_wed_28 : decode cX6_wed 28 = .ok (.aload_n 0, 1) ∧ 28 + 1 = 29 := ⟨by decide +kernel, rfl⟩
theorem eX6_wed_29 : decode cX6_wed 29 = .ok (.iconst 0, 1) ∧ 29 + 1 = 30 := ⟨by decide +kernel, rfl⟩
theorem eX6_wed_30 : decode cX6_wed 30 = .ok (.iload_n 1, 1) ∧ 30 + 1 = 31 := ⟨by decide +kernel, rfl⟩
theorem eX6_wed_31 : decode cX6_wed 31 = .ok (.invokevirtual 123, 3) ∧ 31 + 3 = 34 := ⟨by decide +kernel, rfl⟩
theorem eX6_wed_34 : decode cX6_wed 34 = .ok (.pop, 1) ∧ 34 + 1 = 35 := ⟨by decide +kernel, rfl⟩
theorem eX6_wed_35 : decode cX6_wed 35 = .ok (.aload_n 0, 1) ∧ 35 + 1 = 36 := ⟨by decide +kernel, rfl⟩
theorem eX6_wed_36 : decode cX6_wed 36 = .ok (.getfield 25, 3) ∧ 36 + 3 = 39 := ⟨by decide +kernel, rfl⟩
theorem eX6_wed_39 : decode cX6_wed 39 = .ok (.iconst 0, 1) ∧ 39 + 1 = 40 := ⟨by decide +kernel, rfl⟩
theorem eX6_wed_40 : decode cX6_wed 40 = .ok (.iaload, 1) ∧ 40 + 1 = 41 := ⟨by decide +kernel, rfl⟩
theorem eX6_wed_41 : decode cX6_wed 41 = .ok (.ireturn, 1) := by decide +kernel
theorem eX6_carry_0 : decode cX6_carry 0 = .ok (.iload_n 1, 1) ∧ 0 + 1 = 1 := ⟨by decide +kernel, rfl⟩
theorem eX6_carry_1 : decode cX6_carry 1 = .ok (.invokestatic 114, 3) ∧ 1 + 3 = 4 := ⟨by decide +kernel, rfl⟩
theorem eX6_carry_4 : decode cX6_carry 4 = .ok (.ifCond .ne 5, 3) ∧ ((4 : Nat) : Int) + 5 = ((9 : Nat) : Int) ∧ 4 + 3 = 7 := ⟨by decide +kernel, by decide, rfl⟩
theorem eX6_carry_7 : decode cX6_carry 7 = .ok (.iconst (-1), 1) ∧ 7 + 1 = 8 := ⟨by decide +kernel, rfl⟩
theorem eX6_carry_8 : decode cX6_carry 8 = .ok (.ireturn, 1) := by decide +kernel
theorem eX6_carry_9 : decode cX6_carry 9 = .ok (.aload_n 0, 1) ∧ 9 + 1 = 10 := ⟨by decide +kernel, rfl⟩
theorem eX6_carry_10 : decode cX6_carry 10 = .ok (.getfield 25, 3) ∧ 10 + 3 = 13 := ⟨by decide +kernel, rfl⟩
theorem eX6_carry_13 : decode cX6_carry 13 = .ok (.iconst 1, 1) ∧ 13 + 1 = 14 := ⟨by decide +kernel, rfl⟩
theorem eX6_carry_14 : decode cX6_carry 14 = .ok (.iaload, 1) ∧ 14 + 1 = 15 := ⟨by decide +kernel, rfl⟩
theorem eX6_carry_15 : decode cX6_carry 15 = .ok (.iload_n 1, 1) ∧ 15 + 1 = 16 := ⟨by decide +kernel, rfl⟩
theorem eX6_carry_16 : decode cX6_carry 16 = .ok (.if_icmp .ne 6, 3) ∧ ((16 : Nat) : Int) + 6 = ((22 : Nat) : Int) ∧ 16 + 3 = 19 := ⟨by decide +kernel, by decide, rfl⟩
theorem eX6_carry_19 : decode cX6_carry 19 = .ok (.bipush (-3), 2) ∧ 19 + 2 = 21 := ⟨by decide +kernel, rfl⟩
theorem eX6_carry_21 : decode cX6_carry 21 = .ok (.ireturn, 1) := by decide +kernel
theorem eX6_carry_22 : decode cX6_carry 22 = .ok (.aload_n 0, 1) ∧ 22 + 1 = 23 := ⟨by decide +kernel, rfl⟩
theorem eX6_carry_23 : decode cX6_carry 23 = .ok (.invokevirtual 120, 3) ∧ 23 + 3 = 26 := ⟨by decide +kernel, rfl⟩
theorem eX6_carry_26 : decode cX6_carry 26 = .ok (.aload_n 0, 1) ∧ 26 + 1 = 27 := ⟨by decide +kernel, rfl⟩
theorem eX6_carry_27 : decode cX6_carry 27 = .ok (.getfield 25, 3) ∧ 27 + 3 = 30 := ⟨by decide +kernel, rfl⟩
theorem eX6_carry_30 : decode cX6_carry 30 = .ok (.iconst 0, 1) ∧ 30 + 1 = 31 := ⟨by decide +kernel, rfl⟩
theorem eX6_carry_31 : decode cX6_carry 31 = .ok (.dup2, 1) ∧ 31 + 1 = 32 := ⟨by decide +kernel, rfl⟩
theorem eX6_carry_32 : decode cX6_carry 32 = .ok (.iaload, 1) ∧ 32 + 1 = 33 := ⟨by decide +kernel, rfl⟩
theorem eX6_carry_33 : decode cX6_carry 33 = .ok (.aload_n 0, 1) ∧ 33 + 1 = 34 := ⟨by decide +kernel, rfl⟩
theorem eX6_carry_34 : decode cX6_carry 34 = .ok (.iconst 0, 1) ∧ 34 + 1 = 35 := ⟨by decide +kernel, rfl⟩
theorem eX6_carry_35 : decode cX6_carry 35 = .ok (.aload_n 0, 1) ∧ 35 + 1 = 36 := ⟨by decide +kernel, rfl⟩
theorem eX6_carry_36 : decode cX6_carry 36 = .ok (.getfield 25, 3) ∧ 36 + 3 = 39 := ⟨by decide +kernel, rfl⟩
theorem eX6_carry_39 : decode cX6_carry 39 = .ok (.iconst 1, 1) ∧ 39 + 1 = 40 := ⟨by decide +kernel, rfl⟩
theorem eX6_carry_40 : decode cX6_carry 40 = .ok (.iaload, 1) ∧ 40 + 1 = 41 := ⟨by decide +kernel, rfl⟩
theorem eX6_carry_41 : decode cX6_carry 41 = .ok (.iload_n 1, 1) ∧ 41 + 1 = 42 := ⟨by decide +kernel, rfl⟩
theorem eX6_carry_42 : decode cX6_carry 42 = .ok (.invokevirtual 86, 3) ∧ 42 + 3 = 45 := ⟨by decide +kernel, rfl⟩
theorem eX6_carry_45 : decode cX6_carry 45 = .ok (.iadd, 1) ∧ 45 + 1 = 46 := ⟨by decide +kernel, rfl⟩
theorem eX6_carry_46 : decode cX6_carry 46 = .ok (.iastore, 1) ∧ 46 + 1 = 47 := ⟨by decide +kernel, rfl⟩
theorem eX6_carry_47 : decode cX6_carry 47 = .ok (.aload_n 0, 1) ∧ 47 + 1 = 48 := ⟨by decide +kernel, rfl⟩
theorem eX6_carry_48 : decode cX6_carry 48 = .ok (.getfield 25, 3) ∧ 48 + 3 = 51 := ⟨by decide +kernel, rfl⟩
theorem eX6_carry_51 : decode cX6_carry 51 = .ok (.iconst 1, 1) ∧ 51 + 1 = 52 := ⟨by decide +kernel, rfl⟩
theorem eX6_carry_52 : decode cX6_carry 52 = .ok (.iload_n 1, 1) ∧ 52 + 1 = 53 := ⟨by decide +kernel, rfl⟩
theorem eX6_carry_53 : decode cX6_carry 53 = .ok (.iastore, 1) ∧ 53 + 1 = 54 := ⟨by decide +kernel, rfl⟩
theorem eX6_carry_54 : decode cX6_carry 54 = .ok (.aload_n 0, 1) ∧ 54 + 1 = 55 := ⟨by decide +kernel, rfl⟩
theorem eX6_carry_55 : decode cX6_carry 55 = .ok (.getfield 25, 3) ∧ 55 + 3 = 58 := ⟨by decide +kernel, rfl⟩
theorem eX6_carry_58 : decode cX6_carry 58 = .ok (.iconst 0, 1) ∧ 58 + 1 = 59 := ⟨by decide +kernel, rfl⟩
theorem eX6_carry_59 : decode cX6_carry 59 = .ok (.iaload, 1) ∧ 59 + 1 = 60 := ⟨by decide +kernel, rfl⟩
theorem eX6_carry_60 : decode cX6_carry 60 = .ok (.ireturn, 1) := by decide +kernel
theorem eX6_linger_0 : decode cX6_linger 0 = .ok (.aload_n 0, 1) ∧ 0 + 1 = 1 := ⟨by decide +kernel, rfl⟩
theorem eX6_linger_1 : decode cX6_linger 1 = .ok (.invokevirtual 120, 3) ∧ 1 + 3 = 4 := ⟨by decide +kernel, rfl⟩
theorem eX6_linger_4 : decode cX6_linger 4 = .ok (.aload_n 0, 1) ∧ 4 + 1 = 5 := ⟨by decide +kernel, rfl⟩
theorem eX6_linger_5 : decode cX6_linger 5 = .ok (.getfield 25, 3) ∧ 5 + 3 = 8 := ⟨by decide +kernel, rfl⟩
theorem eX6_linger_8 : decode cX6_linger 8 = .ok (.iconst 0, 1) ∧ 8 + 1 = 9 := ⟨by decide +kernel, rfl⟩
theorem eX6_linger_9 : decode cX6_linger 9 = .ok (.dup2, 1) ∧ 9 + 1 = 10 := ⟨by decide +kernel, rfl⟩
theorem eX6_linger_10 : decode cX6_linger 10 = .ok (.iaload, 1) ∧ 10 + 1 = 11 := ⟨by decide +kernel, rfl⟩
theorem eX6_linger_11 : decode cX6_linger 11 = .ok (.iconst 1, 1) ∧ 11 + 1 = 12 := ⟨by decide +kernel, rfl⟩
theorem eX6_linger_12 : decode cX6_linger 12 = .ok (.iadd, 1) ∧ 12 + 1 = 13 := ⟨by decide +kernel, rfl⟩
theorem eX6_linger_13 : decode cX6_linger 13 = .ok (.iastore, 1) ∧ 13 + 1 = 14 := ⟨by decide +kernel, rfl⟩
theorem eX6_linger_14 : decode cX6_linger 14 = .ok (.aload_n 0, 1) ∧ 14 + 1 = 15 := ⟨by decide +kernel, rfl⟩
theorem eX6_linger_15 : decode cX6_linger 15 = .ok (.getfield 25, 3) ∧ 15 + 3 = 18 := ⟨by decide +kernel, rfl⟩
theorem eX6_linger_18 : decode cX6_linger 18 = .ok (.iconst 0, 1) ∧ 18 + 1 = 19 := ⟨by decide +kernel, rfl⟩
theorem eX6_linger_19 : decode cX6_linger 19 = .ok (.iaload, 1) ∧ 19 + 1 = 20 := ⟨by decide +kernel, rfl⟩
theorem eX6_linger_20 : decode cX6_linger 20 = .ok (.ireturn, 1) := by decide +kernel
theorem eX6_mend_0 : decode cX6_mend 0 = .ok (.iload_n 1, 1) ∧ 0 + 1 = 1 := ⟨by decide +kernel, rfl⟩
theorem eX6_mend_1 : decode cX6_mend 1 = .ok (.i2l, 1) ∧ 1 + 1 = 2 := ⟨by decide +kernel, rfl⟩
theorem eX6_mend_2 : decode cX6_mend 2 = .ok (.lconst 0, 1) ∧ 2 + 1 = 3 := ⟨by decide +kernel, rfl⟩
theorem eX6_mend_3 : decode cX6_mend 3 = .ok (.ldc2_w 112, 3) ∧ 3 + 3 = 6 := ⟨by decide +kernel, rfl⟩
theorem eX6_mend_6 : decode cX6_mend 6 = .ok (.invokestatic 59, 3) ∧ 6 + 3 = 9 := ⟨by decide +kernel, rfl⟩
theorem eX6_mend_9 : decode cX6_mend 9 = .ok (.ifCond .ne 5, 3) ∧ ((9 : Nat) : Int) + 5 = ((14 : Nat) : Int) ∧ 9 + 3 = 12 := ⟨by decide +kernel, by decide, rfl⟩
theorem eX6_mend_12 : decode cX6_mend 12 = .ok (.iconst (-1), 1) ∧ 12 + 1 = 13 := ⟨by decide +kernel, rfl⟩
theorem eX6_mend_13 : decode cX6_mend 13 = .ok (.ireturn, 1) := by decide +kernel
theorem eX6_mend_14 : decode cX6_mend 14 = .ok (.aload_n 0, 1) ∧ 14 + 1 = 15 := ⟨by decide +kernel, rfl⟩
theorem eX6_mend_15 : decode cX6_mend 15 = .ok (.getfield 25, 3) ∧ 15 + 3 = 18 := ⟨by decide +kernel, rfl⟩
theorem eX6_mend_18 : decode cX6_mend 18 = .ok (.iconst 3, 1) ∧ 18 + 1 = 19 := ⟨by decide +kernel, rfl⟩
theorem eX6_mend_19 : decode cX6_mend 19 = .ok (.iload_n 1, 1) ∧ 19 + 1 = 20 := ⟨by decide +kernel, rfl⟩
theorem eX6_mend_20 : decode cX6_mend 20 = .ok (.iadd, 1) ∧ 20 + 1 = 21 := ⟨by decide +kernel, rfl⟩
theorem eX6_mend_21 : decode cX6_mend 21 = .ok (.iaload, 1) ∧ 21 + 1 = 22 := ⟨by decide +kernel, rfl⟩
theorem eX6_mend_22 : decode cX6_mend 22 = .ok (.ifCond .ne 6, 3) ∧ ((22 : Nat) : Int) + 6 = ((28 : Nat) : Int) ∧ 22 + 3 = 25 := ⟨by decide +kernel, by decide, rfl⟩
theorem eX6_mend_25 : decode cX6_mend 25 = .ok (.bipush (-3), 2) ∧ 25 + 2 = 27 := ⟨by decide +kernel, rfl⟩
theorem eX6_mend_27 : decode cX6_mend 27 = .ok (.ireturn, 1) := by decide +kernel
theorem eX6_mend_28 : decode cX6_mend 28 = .ok (.aload_n 0, 1) ∧ 28 + 1 = 29 := ⟨by decide +kernel, rfl⟩
theorem eX6_mend_29 : decode cX6_mend 29 = .ok (.invokevirtual 120, 3) ∧ 29 + 3 = 32 := ⟨by decide +kernel, rfl⟩
theorem eX6_mend_32 : decode cX6_mend 32 = .ok (.aload_n 0, 1) ∧ 32 + 1 = 33 := ⟨by decide +kernel, rfl⟩
theorem eX6_mend_33 : decode cX6_mend 33 = .ok (.getfield 25, 3) ∧ 33 + 3 = 36 := ⟨by decide +kernel, rfl⟩
theorem eX6_mend_36 : decode cX6_mend 36 = .ok (.iconst 3, 1) ∧ 36 + 1 = 37 := ⟨by decide +kernel, rfl⟩
theorem eX6_mend_37 : decode cX6_mend 37 = .ok (.iload_n 1, 1) ∧ 37 + 1 = 38 := ⟨by decide +kernel, rfl⟩
theorem eX6_mend_38 : decode cX6_mend 38 = .ok (.iadd, 1) ∧ 38 + 1 = 39 := ⟨by decide +kernel, rfl⟩
theorem eX6_mend_39 : decode cX6_mend 39 = .ok (.dup2, 1) ∧ 39 + 1 = 40 := ⟨by decide +kernel, rfl⟩
theorem eX6_mend_40 : decode cX6_mend 40 = .ok (.iaload, 1) ∧ 40 + 1 = 41 := ⟨by decide +kernel, rfl⟩
theorem eX6_mend_41 : decode cX6_mend 41 = .ok (.iconst 1, 1) ∧ 41 + 1 = 42 := ⟨by decide +kernel, rfl⟩
theorem eX6_mend_42 : decode cX6_mend 42 = .ok (.isub, 1) ∧ 42 + 1 = 43 := ⟨by decide +kernel, rfl⟩
theorem eX6_mend_43 : decode cX6_mend 43 = .ok (.iastore, 1) ∧ 43 + 1 = 44 := ⟨by decide +kernel, rfl⟩
theorem eX6_mend_44 : decode cX6_mend 44 = .ok (.aload_n 0, 1) ∧ 44 + 1 = 45 := ⟨by decide +kernel, rfl⟩
theorem eX6_mend_45 : decode cX6_mend 45 = .ok (.getfield 25, 3) ∧ 45 + 3 = 48 := ⟨by decide +kernel, rfl⟩
theorem eX6_mend_48 : decode cX6_mend 48 = .ok (.iconst 3, 1) ∧ 48 + 1 = 49 := ⟨by decide +kernel, rfl⟩
theorem eX6_mend_49 : decode cX6_mend 49 = .ok (.iload_n 1, 1) ∧ 49 + 1 = 50 := ⟨by decide +kernel, rfl⟩
theorem eX6_mend_50 : decode cX6_mend 50 = .ok (.iadd, 1) ∧ 50 + 1 = 51 := ⟨by decide +kernel, rfl⟩
theorem eX6_mend_51 : decode cX6_mend 51 = .ok (.iaload, 1) ∧ 51 + 1 = 52 := ⟨by decide +kernel, rfl⟩
theorem eX6_mend_52 : decode cX6_mend 52 = .ok (.ireturn, 1) := by decide +kernel
theorem eX6_undo_0 : decode cX6_undo 0 = .ok (.aload_n 0, 1) ∧ 0 + 1 = 1 := ⟨by decide +kernel, rfl⟩
theorem eX6_undo_1 : decode cX6_undo 1 = .ok (.getfield 83, 3) ∧ 1 + 3 = 4 := ⟨by decide +kernel, rfl⟩
theorem eX6_undo_4 : decode cX6_undo 4 = .ok (.ifCond .ne 6, 3) ∧ ((4 : Nat) : Int) + 6 = ((10 : Nat) : Int) ∧ 4 + 3 = 7 := ⟨by decide +kernel, by decide, rfl⟩
theorem eX6_undo_7 : decode cX6_undo 7 = .ok (.bipush (-3), 2) ∧ 7 + 2 = 9 := ⟨by decide +kernel, rfl⟩
theorem eX6_undo_9 : decode cX6_undo 9 = .ok (.ireturn, 1) := by decide +kernel
theorem eX6_undo_10 : decode cX6_undo 10 = .ok (.aload_n 0, 1) ∧ 10 + 1 = 11 := ⟨by decide +kernel, rfl⟩
theorem eX6_undo_11 : decode cX6_undo 11 = .ok (.dup, 1) ∧ 11 + 1 = 12 := ⟨by decide +kernel, rfl⟩
theorem eX6_undo_12 : decode cX6_undo 12 = .ok (.getfield 83, 3) ∧ 12 + 3 = 15 := ⟨by decide +kernel, rfl⟩
theorem eX6_undo_15 : decode cX6_undo 15 = .ok (.iconst 1, 1) ∧ 15 + 1 = 16 := ⟨by decide +kernel, rfl⟩
theorem eX6_undo_16 : decode cX6_undo 16 = .ok (.isub, 1) ∧ 16 + 1 = 17 := ⟨by decide +kernel, rfl⟩
theorem eX6_undo_17 : decode cX6_undo 17 = .ok (.putfield 83, 3) ∧ 17 + 3 = 20 := ⟨by decide +kernel, rfl⟩
theorem eX6_undo_20 : decode cX6_undo 20 = .ok (.aload_n 0, 1) ∧ 20 + 1 = 21 := ⟨by decide +kernel, rfl⟩
theorem eX6_undo_21 : decode cX6_undo 21 = .ok (.aload_n 0, 1) ∧ 21 + 1 = 22 := ⟨by decide +kernel, rfl⟩
theorem eX6_undo_22 : decode cX6_undo 22 = .ok (.getfield 117, 3) ∧ 22 + 3 = 25 := ⟨by decide +kernel, rfl⟩
theorem eX6_undo_25 : decode cX6_undo 25 = .ok (.bipush 13, 2) ∧ 25 + 2 = 27 := ⟨by decide +kernel, rfl⟩
theorem eX6_undo_27 : decode cX6_undo 27 = .ok (.iadd, 1) ∧ 27 + 1 = 28 := ⟨by decide +kernel, rfl⟩
theorem eX6_undo_28 : decode cX6_undo 28 = .ok (.bipush 14, 2) ∧ 28 + 2 = 30 := ⟨by decide +kernel, rfl⟩
theorem eX6_undo_30 : decode cX6_undo 30 = .ok (.irem, 1) ∧ 30 + 1 = 31 := ⟨by decide +kernel, rfl⟩
theorem eX6_undo_31 : decode cX6_undo 31 = .ok (.putfield 117, 3) ∧ 31 + 3 = 34 := ⟨by decide +kernel, rfl⟩
theorem eX6_undo_34 : decode cX6_undo 34 = .ok (.iconst 0, 1) ∧ 34 + 1 = 35 := ⟨by decide +kernel, rfl⟩
theorem eX6_undo_35 : decode cX6_undo 35 = .ok (.istore_n 1, 1) ∧ 35 + 1 = 36 := ⟨by decide +kernel, rfl⟩
theorem eX6_undo_36 : decode cX6_undo 36 = .ok (.iload_n 1, 1) ∧ 36 + 1 = 37 := ⟨by decide +kernel, rfl⟩
theorem eX6_undo_37 : decode cX6_undo 37 = .ok (.bipush 8, 2) ∧ 37 + 2 = 39 := ⟨by decide +kernel, rfl⟩
theorem eX6_undo_39 : decode cX6_undo 39 = .ok (.if_icmp .ge 29, 3) ∧ ((39 : Nat) : Int) + 29 = ((68 : Nat) : Int) ∧ 39 + 3 = 42 := ⟨by decide +kernel, by decide, rfl⟩
theorem eX6_undo_42 : decode cX6_undo 42 = .ok (.aload_n 0, 1) ∧ 42 + 1 = 43 := ⟨by decide +kernel, rfl⟩
theorem eX6_undo_43 : decode cX6_undo 43 = .ok (.getfield 25, 3) ∧ 43 + 3 = 46 := ⟨by decide +kernel, rfl⟩
theorem eX6_undo_46 : decode cX6_undo 46 = .ok (.iload_n 1, 1) ∧ 46 + 1 = 47 := ⟨by decide +kernel, rfl⟩
theorem eX6_undo_47 : decode cX6_undo 47 = .ok (.aload_n 0, 1) ∧ 47 + 1 = 48 := ⟨by decide +kernel, rfl⟩
theorem eX6_undo_48 : decode cX6_undo 48 = .ok (.getfield 31, 3) ∧ 48 + 3 = 51 := ⟨by decide +kernel, rfl⟩
theorem eX6_undo_51 : decode cX6_undo 51 = .ok (.bipush 8, 2) ∧ 51 + 2 = 53 := ⟨by decide +kernel, rfl⟩
theorem eX6_undo_53 : decode cX6_undo 53 = .ok (.aload_n 0, 1) ∧ 53 + 1 = 54 := ⟨by decide +kernel, rfl⟩
theorem eX6_undo_54 : decode cX6_undo 54 = .ok (.getfield 117, 3) ∧ 54 + 3 = 57 := ⟨by decide +kernel, rfl⟩
theorem eX6_undo_57 : decode cX6_undo 57 = .ok (.imul, 1) ∧ 57 + 1 = 58 := ⟨by decide +kernel, rfl⟩
theorem eX6_undo_58 : decode cX6_undo 58 = .ok (.iload_n 1, 1) ∧ 58 + 1 = 59 := ⟨by decide +kernel, rfl⟩
theorem eX6_undo_59 : decode cX6_undo 59 = .ok (.iadd, 1) ∧ 59 + 1 = 60 := ⟨by decide +kernel, rfl⟩
theorem eX6_undo_60 : decode cX6_undo 60 = .ok (.iaload, 1) ∧ 60 + 1 = 61 := ⟨by decide +kernel, rfl⟩
theorem eX6_undo_61 : decode cX6_undo 61 = .ok (.iastore, 1) ∧ 61 + 1 = 62 := ⟨by decide +kernel, rfl⟩
theorem eX6_undo_62 : decode cX6_undo 62 = .ok (.iinc 1 1, 3) ∧ 62 + 3 = 65 := ⟨by decide +kernel, rfl⟩
theorem eX6_undo_65 : decode cX6_undo 65 = .ok (.goto (-29), 3) ∧ ((65 : Nat) : Int) + (-29) = ((36 : Nat) : Int) := ⟨by decide +kernel, by decide⟩
theorem eX6_undo_68 : decode cX6_undo 68 = .ok (.aload_n 0, 1) ∧ 68 + 1 = 69 := ⟨by decide +kernel, rfl⟩
theorem eX6_undo_69 : decode cX6_undo 69 = .ok (.getfield 83, 3) ∧ 69 + 3 = 72 := ⟨by decide +kernel, rfl⟩
theorem eX6_undo_72 : decode cX6_undo 72 = .ok (.ireturn, 1) := by decide +kernel
theorem eX6_noteEarlier_0 : decode cX6_noteEarlier 0 = .ok (.iload_n 3, 1) ∧ 0 + 1 = 1 := ⟨by decide +kernel, rfl⟩
theorem eX6_noteEarlier_1 : decode cX6_noteEarlier 1 = .ok (.bipush (-9), 2) ∧ 1 + 2 = 3 := ⟨by decide +kernel, rfl⟩
theorem eX6_noteEarlier_3 : decode cX6_noteEarlier 3 = .ok (.if_icmp .eq 66, 3) ∧ ((3 : Nat) : Int) + 66 = ((69 : Nat) : Int) ∧ 3 + 3 = 6 := ⟨by decide +kernel, by decide, rfl⟩
theorem eX6_noteEarlier_6 : decode cX6_noteEarlier 6 = .ok (.bipush 6, 2) ∧ 6 + 2 = 8 := ⟨by decide +kernel, rfl⟩
theorem eX6_noteEarlier_8 : decode cX6_noteEarlier 8 = .ok (.iload_n 1, 1) ∧ 8 + 1 = 9 := ⟨by decide +kernel, rfl⟩
theorem eX6_noteEarlier_9 : decode cX6_noteEarlier 9 = .ok (.iconst 1, 1) ∧ 9 + 1 = 10 := ⟨by decide +kernel, rfl⟩
theorem eX6_noteEarlier_10 : decode cX6_noteEarlier 10 = .ok (.iload_n 2, 1) ∧ 10 + 1 = 11 := ⟨by decide +kernel, rfl⟩
theorem eX6_noteEarlier_11 : decode cX6_noteEarlier 11 = .ok (.ishl, 1) ∧ 11 + 1 = 12 := ⟨by decide +kernel, rfl⟩
theorem eX6_noteEarlier_12 : decode cX6_noteEarlier 12 = .ok (.ior, 1) ∧ 12 + 1 = 13 := ⟨by decide +kernel, rfl⟩
theorem eX6_noteEarlier_13 : decode cX6_noteEarlier 13 = .ok (.imul, 1) ∧ 13 + 1 = 14 := ⟨by decide +kernel, rfl⟩
theorem eX6_noteEarlier_14 : decode cX6_noteEarlier 14 = .ok (.iload_n 2, 1) ∧ 14 + 1 = 15 := ⟨by decide +kernel, rfl⟩
theorem eX6_noteEarlier_15 : decode cX6_noteEarlier 15 = .ok (.iadd, 1) ∧ 15 + 1 = 16 := ⟨by decide +kernel, rfl⟩
theorem eX6_noteEarlier_16 : decode cX6_noteEarlier 16 = .ok (.istore 4, 2) ∧ 16 + 2 = 18 := ⟨by decide +kernel, rfl⟩
theorem eX6_noteEarlier_18 : decode cX6_noteEarlier 18 = .ok (.aload_n 0, 1) ∧ 18 + 1 = 19 := ⟨by decide +kernel, rfl⟩
theorem eX6_noteEarlier_19 : decode cX6_noteEarlier 19 = .ok (.iload_n 2, 1) ∧ 19 + 1 = 20 := ⟨by decide +kernel, rfl⟩
theorem eX6_noteEarlier_20 : decode cX6_noteEarlier 20 = .ok (.iload_n 3, 1) ∧ 20 + 1 = 21 := ⟨by decide +kernel, rfl⟩
theorem eX6_noteEarlier_21 : decode cX6_noteEarlier 21 = .ok (.invokevirtual 106, 3) ∧ 21 + 3 = 24 := ⟨by decide +kernel, rfl⟩
theorem eX6_noteEarlier_24 : decode cX6_noteEarlier 24 = .ok (.istore 5, 2) ∧ 24 + 2 = 26 := ⟨by decide +kernel, rfl⟩
theorem eX6_noteEarlier_26 : decode cX6_noteEarlier 26 = .ok (.aload_n 0, 1) ∧ 26 + 1 = 27 := ⟨by decide +kernel, rfl⟩
theorem eX6_noteEarlier_27 : decode cX6_noteEarlier 27 = .ok (.getfield 34, 3) ∧ 27 + 3 = 30 := ⟨by decide +kernel, rfl⟩
theorem eX6_noteEarlier_30 : decode cX6_noteEarlier 30 = .ok (.iload 4, 2) ∧ 30 + 2 = 32 := ⟨by decide +kernel, rfl⟩
theorem eX6_noteEarlier_32 : decode cX6_noteEarlier 32 = .ok (.aload_n 0, 1) ∧ 32 + 1 = 33 := ⟨by decide +kernel, rfl⟩
theorem eX6_noteEarlier_33 : decode cX6_noteEarlier 33 = .ok (.getfield 34, 3) ∧ 33 + 3 = 36 := ⟨by decide +kernel, rfl⟩
theorem eX6_noteEarlier_36 : decode cX6_noteEarlier 36 = .ok (.iload 4, 2) ∧ 36 + 2 = 38 := ⟨by decide +kernel, rfl⟩
theorem eX6_noteEarlier_38 : decode cX6_noteEarlier 38 = .ok (.iaload, 1) ∧ 38 + 1 = 39 := ⟨by decide +kernel, rfl⟩
theorem eX6_noteEarlier_39 : decode cX6_noteEarlier 39 = .ok (.bipush (-9), 2) ∧ 39 + 2 = 41 := ⟨by decide +kernel, rfl⟩
theorem eX6_noteEarlier_41 : decode cX6_noteEarlier 41 = .ok (.if_icmp .eq 15, 3) ∧ ((41 : Nat) : Int) + 15 = ((56 : Nat) : Int) ∧ 41 + 3 = 44 := ⟨by decide +kernel, by decide, rfl⟩
theorem eX6_noteEarlier_44 : decode cX6_noteEarlier 44 = .ok (.iload 5, 2) ∧ 44 + 2 = 46 := ⟨by decide +kernel, rfl⟩
theorem eX6_noteEarlier_46 : decode cX6_noteEarlier 46 = .ok (.aload_n 0, 1) ∧ 46 + 1 = 47 := ⟨by decide +kernel, rfl⟩
theorem eX6_noteEarlier_47 : decode cX6_noteEarlier 47 = .ok (.getfield 34, 3) ∧ 47 + 3 = 50 := ⟨by decide +kernel, rfl⟩
theorem eX6_noteEarlier_50 : decode cX6_noteEarlier 50 = .ok (.iload 4, 2) ∧ 50 + 2 = 52 := ⟨by decide +kernel, rfl⟩
theorem eX6_noteEarlier_52 : decode cX6_noteEarlier 52 = .ok (.iaload, 1) ∧ 52 + 1 = 53 := ⟨by decide +kernel, rfl⟩
theorem eX6_noteEarlier_53 : decode cX6_noteEarlier 53 = .ok (.if_icmp .ge 8, 3) ∧ ((53 : Nat) : Int) + 8 = ((61 : Nat) : Int) ∧ 53 + 3 = 56 := ⟨by decide +kernel, by decide, rfl⟩
theorem eX6_noteEarlier_56 : decode cX6_noteEarlier 56 = .ok (.iload 5, 2) ∧ 56 + 2 = 58 := ⟨by decide +kernel, rfl⟩
theorem eX6_noteEarlier_58 : decode cX6_noteEarlier 58 = .ok (.goto 10, 3) ∧ ((58 : Nat) : Int) + 10 = ((68 : Nat) : Int) := ⟨by decide +kernel, by decide⟩
theorem eX6_noteEarlier_61 : decode cX6_noteEarlier 61 = .ok (.aload_n 0, 1) ∧ 61 + 1 = 62 := ⟨by decide +kernel, rfl⟩
theorem eX6_noteEarlier_62 : decode cX6_noteEarlier 62 = .ok (.getfield 34, 3) ∧ 62 + 3 = 65 := ⟨by decide +kernel, rfl⟩
theorem eX6_noteEarlier_65 : decode cX6_noteEarlier 65 = .ok (.iload 4, 2) ∧ 65 + 2 = 67 := ⟨by decide +kernel, rfl⟩
theorem eX6_noteEarlier_67 : decode cX6_noteEarlier 67 = .ok (.iaload, 1) ∧ 67 + 1 = 68 := ⟨by decide +kernel, rfl⟩
theorem eX6_noteEarlier_68 : decode cX6_noteEarlier 68 = .ok (.iastore, 1) ∧ 68 + 1 = 69 := ⟨by decide +kernel, rfl⟩
theorem eX6_noteEarlier_69 : decode cX6_noteEarlier 69 = .ok (.return_, 1) := by decide +kernel
theorem eX6_mostOn_0 : decode cX6_mostOn 0 = .ok (.bipush 8, 2) ∧ 0 + 2 = 2 := ⟨by decide +kernel, rfl⟩
theorem eX6_mostOn_2 : decode cX6_mostOn 2 = .ok (.iload_n 1, 1) ∧ 2 + 1 = 3 := ⟨by decide +kernel, rfl⟩
theorem eX6_mostOn_3 : decode cX6_mostOn 3 = .ok (.imul, 1) ∧ 3 + 1 = 4 := ⟨by decide +kernel, rfl⟩
theorem eX6_mostOn_4 : decode cX6_mostOn 4 = .ok (.istore_n 3, 1) ∧ 4 + 1 = 5 := ⟨by decide +kernel, rfl⟩
theorem eX6_mostOn_5 : decode cX6_mostOn 5 = .ok (.iload_n 2, 1) ∧ 5 + 1 = 6 := ⟨by decide +kernel, rfl⟩
theorem eX6_mostOn_6 : decode cX6_mostOn 6 = .ok (.aload_n 0, 1) ∧ 6 + 1 = 7 := ⟨by decide +kernel, rfl⟩
theorem eX6_mostOn_7 : decode cX6_mostOn 7 = .ok (.getfield 25, 3) ∧ 7 + 3 = 10 := ⟨by decide +kernel, rfl⟩
theorem eX6_mostOn_10 : decode cX6_mostOn 10 = .ok (.iload_n 3, 1) ∧ 10 + 1 = 11 := ⟨by decide +kernel, rfl⟩
theorem eX6_mostOn_11 : decode cX6_mostOn 11 = .ok (.iconst 2, 1) ∧ 11 + 1 = 12 := ⟨by decide +kernel, rfl⟩
theorem eX6_mostOn_12 : decode cX6_mostOn 12 = .ok (.iadd, 1) ∧ 12 + 1 = 13 := ⟨by decide +kernel, rfl⟩
theorem eX6_mostOn_13 : decode cX6_mostOn 13 = .ok (.iaload, 1) ∧ 13 + 1 = 14 := ⟨by decide +kernel, rfl⟩
theorem eX6_mostOn_14 : decode cX6_mostOn 14 = .ok (.iconst (-1), 1) ∧ 14 + 1 = 15 := ⟨by decide +kernel, rfl⟩
theorem eX6_mostOn_15 : decode cX6_mostOn 15 = .ok (.ixor, 1) ∧ 15 + 1 = 16 := ⟨by decide +kernel, rfl⟩
theorem eX6_mostOn_16 : decode cX6_mostOn 16 = .ok (.iand, 1) ∧ 16 + 1 = 17 := ⟨by decide +kernel, rfl⟩
theorem eX6_mostOn_17 : decode cX6_mostOn 17 = .ok (.istore 4, 2) ∧ 17 + 2 = 19 := ⟨by decide +kernel, rfl⟩
theorem eX6_mostOn_19 : decode cX6_mostOn 19 = .ok (.iconst 0, 1) ∧ 19 + 1 = 20 := ⟨by decide +kernel, rfl⟩
theorem eX6_mostOn_20 : decode cX6_mostOn 20 = .ok (.istore 5, 2) ∧ 20 + 2 = 22 := ⟨by decide +kernel, rfl⟩
theorem eX6_mostOn_22 : decode cX6_mostOn 22 = .ok (.iconst 0, 1) ∧ 22 + 1 = 23 := ⟨by decide +kernel, rfl⟩
theorem eX6_mostOn_23 : decode cX6_mostOn 23 = .ok (.istore 6, 2) ∧ 23 + 2 = 25 := ⟨by decide +kernel, rfl⟩
theorem eX6_mostOn_25 : decode cX6_mostOn 25 = .ok (.iload 6, 2) ∧ 25 + 2 = 27 := ⟨by decide +kernel, rfl⟩
theorem eX6_mostOn_27 : decode cX6_mostOn 27 = .ok (.sipush 384, 3) ∧ 27 + 3 = 30 := ⟨by decide +kernel, rfl⟩
theorem eX6_mostOn_30 : decode cX6_mostOn 30 = .ok (.if_icmp .ge 18, 3) ∧ ((30 : Nat) : Int) + 18 = ((48 : Nat) : Int) ∧ 30 + 3 = 33 := ⟨by decide +kernel, by decide, rfl⟩
theorem eX6_mostOn_33 : decode cX6_mostOn 33 = .ok (.aload_n 0, 1) ∧ 33 + 1 = 34 := ⟨by decide +kernel, rfl⟩
theorem eX6_mostOn_34 : decode cX6_mostOn 34 = .ok (.getfield 34, 3) ∧ 34 + 3 = 37 := ⟨by decide +kernel, rfl⟩
theorem eX6_mostOn_37 : decode cX6_mostOn 37 = .ok (.iload 6, 2) ∧ 37 + 2 = 39 := ⟨by decide +kernel, rfl⟩
theorem eX6_mostOn_39 : decode cX6_mostOn 39 = .ok (.bipush (-9), 2) ∧ 39 + 2 = 41 := ⟨by decide +kernel, rfl⟩
theorem eX6_mostOn_41 : decode cX6_mostOn 41 = .ok (.iastore, 1) ∧ 41 + 1 = 42 := ⟨by decide +kernel, rfl⟩
theorem eX6_mostOn_42 : decode cX6_mostOn 42 = .ok (.iinc 6 1, 3) ∧ 42 + 3 = 45 := ⟨by decide +kernel, rfl⟩
theorem eX6_mostOn_45 : decode cX6_mostOn 45 = .ok (.goto (-20), 3) ∧ ((45 : Nat) : Int) + (-20) = ((25 : Nat) : Int) := ⟨by decide +kernel, by decide⟩
theorem eX6_mostOn_48 : decode cX6_mostOn 48 = .ok (.iconst 0, 1) ∧ 48 + 1 = 49 := ⟨by decide +kernel, rfl⟩
theorem eX6_mostOn_49 : decode cX6_mostOn 49 = .ok (.istore 6, 2) ∧ 49 + 2 = 51 := ⟨by decide +kernel, rfl⟩
theorem eX6_mostOn_51 : decode cX6_mostOn 51 = .ok (.iload 6, 2) ∧ 51 + 2 = 53 := ⟨by decide +kernel, rfl⟩
theorem eX6_mostOn_53 : decode cX6_mostOn 53 = .ok (.iload 4, 2) ∧ 53 + 2 = 55 := ⟨by decide +kernel, rfl⟩
theorem eX6_mostOn_55 : decode cX6_mostOn 55 = .ok (.if_icmp .gt 230, 3) ∧ ((55 : Nat) : Int) + 230 = ((285 : Nat) : Int) ∧ 55 + 3 = 58 := ⟨by decide +kernel, by decide, rfl⟩
theorem eX6_mostOn_58 : decode cX6_mostOn 58 = .ok (.iconst 0, 1) ∧ 58 + 1 = 59 := ⟨by decide +kernel, rfl⟩
theorem eX6_mostOn_59 : decode cX6_mostOn 59 = .ok (.istore 7, 2) ∧ 59 + 2 = 61 := ⟨by decide +kernel, rfl⟩
theorem eX6_mostOn_61 : decode cX6_mostOn 61 = .ok (.iload 7, 2) ∧ 61 + 2 = 63 := ⟨by decide +kernel, rfl⟩
theorem eX6_mostOn_63 : decode cX6_mostOn 63 = .ok (.aload_n 0, 1) ∧ 63 + 1 = 64 := ⟨by decide +kernel, rfl⟩
theorem eX6_mostOn_64 : decode cX6_mostOn 64 = .ok (.getfield 80, 3) ∧ 64 + 3 = 67 := ⟨by decide +kernel, rfl⟩
theorem eX6_mostOn_67 : decode cX6_mostOn 67 = .ok (.if_icmp .ge 212, 3) ∧ ((67 : Nat) : Int) + 212 = ((279 : Nat) : Int) ∧ 67 + 3 = 70 := ⟨by decide +kernel, by decide, rfl⟩
theorem eX6_mostOn_70 : decode cX6_mostOn 70 = .ok (.iload 6, 2) ∧ 70 + 2 = 72 := ⟨by decide +kernel, rfl⟩
theorem eX6_mostOn_72 : decode cX6_mostOn 72 = .ok (.iload 4, 2) ∧ 72 + 2 = 74 := ⟨by decide +kernel, rfl⟩
theorem eX6_mostOn_74 : decode cX6_mostOn 74 = .ok (.iconst (-1), 1) ∧ 74 + 1 = 75 := ⟨by decide +kernel, rfl⟩
theorem eX6_mostOn_75 : decode cX6_mostOn 75 = .ok (.ixor, 1) ∧ 75 + 1 = 76 := ⟨by decide +kernel, rfl⟩
theorem eX6_mostOn_76 : decode cX6_mostOn 76 = .ok (.iand, 1) ∧ 76 + 1 = 77 := ⟨by decide +kernel, rfl⟩
theorem eX6_mostOn_77 : decode cX6_mostOn 77 = .ok (.ifCond .ne 202, 3) ∧ ((77 : Nat) : Int) + 202 = ((279 : Nat) : Int) ∧ 77 + 3 = 80 := ⟨by decide +kernel, by decide, rfl⟩
theorem eX6_mostOn_80 : decode cX6_mostOn 80 = .ok (.iload 4, 2) ∧ 80 + 2 = 82 := ⟨by decide +kernel, rfl⟩
theorem eX6_mostOn_82 : decode cX6_mostOn 82 = .ok (.iload 6, 2) ∧ 82 + 2 = 84 := ⟨by decide +kernel, rfl⟩
theorem eX6_mostOn_84 : decode cX6_mostOn 84 = .ok (.iconst (-1), 1) ∧ 84 + 1 = 85 := ⟨by decide +kernel, rfl⟩
theorem eX6_mostOn_85 : decode cX6_mostOn 85 = .ok (.ixor, 1) ∧ 85 + 1 = 86 := ⟨by decide +kernel, rfl⟩
theorem eX6_mostOn_86 : decode cX6_mostOn 86 = .ok (.iand, 1) ∧ 86 + 1 = 87 := ⟨by decide +kernel, rfl⟩
theorem eX6_mostOn_87 : decode cX6_mostOn 87 = .ok (.iload 7, 2) ∧ 87 + 2 = 89 := ⟨by decide +kernel, rfl⟩
theorem eX6_mostOn_89 : decode cX6_mostOn 89 = .ok (.invokestatic 94, 3) ∧ 89 + 3 = 92 := ⟨by decide +kernel, rfl⟩
theorem eX6_mostOn_92 : decode cX6_mostOn 92 = .ok (.ifCond .eq 119, 3) ∧ ((92 : Nat) : Int) + 119 = ((211 : Nat) : Int) ∧ 92 + 3 = 95 := ⟨by decide +kernel, by decide, rfl⟩
theorem eX6_mostOn_95 : decode cX6_mostOn 95 = .ok (.iload 6, 2) ∧ 95 + 2 = 97 := ⟨by decide +kernel, rfl⟩
theorem eX6_mostOn_97 : decode cX6_mostOn 97 = .ok (.ifCond .ne 32, 3) ∧ ((97 : Nat) : Int) + 32 = ((129 : Nat) : Int) ∧ 97 + 3 = 100 := ⟨by decide +kernel, by decide, rfl⟩
theorem eX6_mostOn_100 : decode cX6_mostOn 100 = .ok (.aload_n 0, 1) ∧ 100 + 1 = 101 := ⟨by decide +kernel, rfl⟩
theorem eX6_mostOn_101 : decode cX6_mostOn 101 = .ok (.iconst 0, 1) ∧ 101 + 1 = 102 := ⟨by decide +kernel, rfl⟩
theorem eX6_mostOn_102 : decode cX6_mostOn 102 = .ok (.iload 7, 2) ∧ 102 + 2 = 104 := ⟨by decide +kernel, rfl⟩
theorem eX6_mostOn_104 : decode cX6_mostOn 104 = .ok (.aload_n 0, 1) ∧ 104 + 1 = 105 := ⟨by decide +kernel, rfl⟩
theorem eX6_mostOn_105 : decode cX6_mostOn 105 = .ok (.iload_n 1, 1) ∧ 105 + 1 = 106 := ⟨by decide +kernel, rfl⟩
theorem eX6_mostOn_106 : decode cX6_mostOn 106 = .ok (.iload 7, 2) ∧ 106 + 2 = 108 := ⟨by decide +kernel, rfl⟩
theorem eX6_mostOn_108 : decode cX6_mostOn 108 = .ok (.aload_n 0, 1) ∧ 108 + 1 = 109 := ⟨by decide +kernel, rfl⟩
theorem eX6_mostOn_109 : decode cX6_mostOn 109 = .ok (.getfield 25, 3) ∧ 109 + 3 = 112 := ⟨by decide +kernel, rfl⟩
theorem eX6_mostOn_112 : decode cX6_mostOn 112 = .ok (.iload_n 3, 1) ∧ 112 + 1 = 113 := ⟨by decide +kernel, rfl⟩
theorem eX6_mostOn_113 : decode cX6_mostOn 113 = .ok (.iconst 1, 1) ∧ 113 + 1 = 114 := ⟨by decide +kernel, rfl⟩
theorem eX6_mostOn_114 : decode cX6_mostOn 114 = .ok (.iadd, 1) ∧ 114 + 1 = 115 := ⟨by decide +kernel, rfl⟩
theorem eX6_mostOn_115 : decode cX6_mostOn 115 = .ok (.iaload, 1) ∧ 115 + 1 = 116 := ⟨by decide +kernel, rfl⟩
theorem eX6_mostOn_116 : decode cX6_mostOn 116 = .ok (.aload_n 0, 1) ∧ 116 + 1 = 117 := ⟨by decide +kernel, rfl⟩
theorem eX6_mostOn_117 : decode cX6_mostOn 117 = .ok (.getfield 25, 3) ∧ 117 + 3 = 120 := ⟨by decide +kernel, rfl⟩
theorem eX6_mostOn_120 : decode cX6_mostOn 120 = .ok (.iload_n 3, 1) ∧ 120 + 1 = 121 := ⟨by decide +kernel, rfl⟩
theorem eX6_mostOn_121 : decode cX6_mostOn 121 = .ok (.iaload, 1) ∧ 121 + 1 = 122 := ⟨by decide +kernel, rfl⟩
theorem eX6_mostOn_122 : decode cX6_mostOn 122 = .ok (.iconst 0, 1) ∧ 122 + 1 = 123 := ⟨by decide +kernel, rfl⟩
theorem eX6_mostOn_123 : decode cX6_mostOn 123 = .ok (.invokevirtual 98, 3) ∧ 123 + 3 = 126 := ⟨by decide +kernel, rfl⟩
theorem eX6_mostOn_126 : decode cX6_mostOn 126 = .ok (.invokevirtual 126, 3) ∧ 126 + 3 = 129 := ⟨by decide +kernel, rfl⟩
theorem eX6_mostOn_129 : decode cX6_mostOn 129 = .ok (.iconst 0, 1) ∧ 129 + 1 = 130 := ⟨by decide +kernel, rfl⟩
theorem eX6_mostOn_130 : decode cX6_mostOn 130 = .ok (.istore 8, 2) ∧ 130 + 2 = 132 := ⟨by decide +kernel, rfl⟩
theorem eX6_mostOn_132 : decode cX6_mostOn 132 = .ok (.iload 8, 2) ∧ 132 + 2 = 134 := ⟨by decide +kernel, rfl⟩
theorem eX6_mostOn_134 : decode cX6_mostOn 134 = .ok (.aload_n 0, 1) ∧ 134 + 1 = 135 := ⟨by decide +kernel, rfl⟩
theorem eX6_mostOn_135 : decode cX6_mostOn 135 = .ok (.getfield 80, 3) ∧ 135 + 3 = 138 := ⟨by decide +kernel, rfl⟩
theorem eX6_mostOn_138 : decode cX6_mostOn 138 = .ok (.if_icmp .ge 73, 3) ∧ ((138 : Nat) : Int) + 73 = ((211 : Nat) : Int) ∧ 138 + 3 = 141 := ⟨by decide +kernel, by decide, rfl⟩
theorem eX6_mostOn_141 : decode cX6_mostOn 141 = .ok (.iload 6, 2) ∧ 141 + 2 = 143 := ⟨by decide +kernel, rfl⟩
theorem eX6_mostOn_143 : decode cX6_mostOn 143 = .ok (.iload 8, 2) ∧ 143 + 2 = 145 := ⟨by decide +kernel, rfl⟩
theorem eX6_mostOn_145 : decode cX6_mostOn 145 = .ok (.invokestatic 94, 3) ∧ 145 + 3 = 148 := ⟨by decide +kernel, rfl⟩
theorem eX6_mostOn_148 : decode cX6_mostOn 148 = .ok (.ifCond .eq 57, 3) ∧ ((148 : Nat) : Int) + 57 = ((205 : Nat) : Int) ∧ 148 + 3 = 151 := ⟨by decide +kernel, by decide, rfl⟩
theorem eX6_mostOn_151 : decode cX6_mostOn 151 = .ok (.aload_n 0, 1) ∧ 151 + 1 = 152 := ⟨by decide +kernel, rfl⟩
theorem eX6_mostOn_152 : decode cX6_mostOn 152 = .ok (.getfield 34, 3) ∧ 152 + 3 = 155 := ⟨by decide +kernel, rfl⟩
theorem eX6_mostOn_155 : decode cX6_mostOn 155 = .ok (.bipush 6, 2) ∧ 155 + 2 = 157 := ⟨by decide +kernel, rfl⟩
theorem eX6_mostOn_157 : decode cX6_mostOn 157 = .ok (.iload 6, 2) ∧ 157 + 2 = 159 := ⟨by decide +kernel, rfl⟩
theorem eX6_mostOn_159 : decode cX6_mostOn 159 = .ok (.imul, 1) ∧ 159 + 1 = 160 := ⟨by decide +kernel, rfl⟩
theorem eX6_mostOn_160 : decode cX6_mostOn 160 = .ok (.iload 8, 2) ∧ 160 + 2 = 162 := ⟨by decide +kernel, rfl⟩
theorem eX6_mostOn_162 : decode cX6_mostOn 162 = .ok (.iadd, 1) ∧ 162 + 1 = 163 := ⟨by decide +kernel, rfl⟩
theorem eX6_mostOn_163 : decode cX6_mostOn 163 = .ok (.iaload, 1) ∧ 163 + 1 = 164 := ⟨by decide +kernel, rfl⟩
theorem eX6_mostOn_164 : decode cX6_mostOn 164 = .ok (.bipush (-9), 2) ∧ 164 + 2 = 166 := ⟨by decide +kernel, rfl⟩
theorem eX6_mostOn_166 : decode cX6_mostOn 166 = .ok (.if_icmp .eq 39, 3) ∧ ((166 : Nat) : Int) + 39 = ((205 : Nat) : Int) ∧ 166 + 3 = 169 := ⟨by decide +kernel, by decide, rfl⟩
theorem eX6_mostOn_169 : decode cX6_mostOn 169 = .ok (.aload_n 0, 1) ∧ 169 + 1 = 170 := ⟨by decide +kernel, rfl⟩
theorem eX6_mostOn_170 : decode cX6_mostOn 170 = .ok (.iload 6, 2) ∧ 170 + 2 = 172 := ⟨by decide +kernel, rfl⟩
theorem eX6_mostOn_172 : decode cX6_mostOn 172 = .ok (.iload 7, 2) ∧ 172 + 2 = 174 := ⟨by decide +kernel, rfl⟩
theorem eX6_mostOn_174 : decode cX6_mostOn 174 = .ok (.aload_n 0, 1) ∧ 174 + 1 = 175 := ⟨by decide +kernel, rfl⟩
theorem eX6_mostOn_175 : decode cX6_mostOn 175 = .ok (.iload_n 1, 1) ∧ 175 + 1 = 176 := ⟨by decide +kernel, rfl⟩
theorem eX6_mostOn_176 : decode cX6_mostOn 176 = .ok (.iload 7, 2) ∧ 176 + 2 = 178 := ⟨by decide +kernel, rfl⟩
theorem eX6_mostOn_178 : decode cX6_mostOn 178 = .ok (.aload_n 0, 1) ∧ 178 + 1 = 179 := ⟨by decide +kernel, rfl⟩
theorem eX6_mostOn_179 : decode cX6_mostOn 179 = .ok (.getfield 7, 3) ∧ 179 + 3 = 182 := ⟨by decide +kernel, rfl⟩
theorem eX6_mostOn_182 : decode cX6_mostOn 182 = .ok (.iload 8, 2) ∧ 182 + 2 = 184 := ⟨by decide +kernel, rfl⟩
theorem eX6_mostOn_184 : decode cX6_mostOn 184 = .ok (.iaload, 1) ∧ 184 + 1 = 185 := ⟨by decide +kernel, rfl⟩
theorem eX6_mostOn_185 : decode cX6_mostOn 185 = .ok (.aload_n 0, 1) ∧ 185 + 1 = 186 := ⟨by decide +kernel, rfl⟩
theorem eX6_mostOn_186 : decode cX6_mostOn 186 = .ok (.getfield 34, 3) ∧ 186 + 3 = 189 := ⟨by decide +kernel, rfl⟩
theorem eX6_mostOn_189 : decode cX6_mostOn 189 = .ok (.bipush 6, 2) ∧ 189 + 2 = 191 := ⟨by decide +kernel, rfl⟩
theorem eX6_mostOn_191 : decode cX6_mostOn 191 = .ok (.iload 6, 2) ∧ 191 + 2 = 193 := ⟨by decide +kernel, rfl⟩
theorem eX6_mostOn_193 : decode cX6_mostOn 193 = .ok (.imul, 1) ∧ 193 + 1 = 194 := ⟨by decide +kernel, rfl⟩
theorem eX6_mostOn_194 : decode cX6_mostOn 194 = .ok (.iload 8, 2) ∧ 194 + 2 = 196 := ⟨by decide +kernel, rfl⟩
theorem eX6_mostOn_196 : decode cX6_mostOn 196 = .ok (.iadd, 1) ∧ 196 + 1 = 197 := ⟨by decide +kernel, rfl⟩
theorem eX6_mostOn_197 : decode cX6_mostOn 197 = .ok (.iaload, 1) ∧ 197 + 1 = 198 := ⟨by decide +kernel, rfl⟩
theorem eX6_mostOn_198 : decode cX6_mostOn 198 = .ok (.iconst 0, 1) ∧ 198 + 1 = 199 := ⟨by decide +kernel, rfl⟩
theorem eX6_mostOn_199 : decode cX6_mostOn 199 = .ok (.invokevirtual 98, 3) ∧ 199 + 3 = 202 := ⟨by decide +kernel, rfl⟩
theorem eX6_mostOn_202 : decode cX6_mostOn 202 = .ok (.invokevirtual 126, 3) ∧ 202 + 3 = 205 := ⟨by decide +kernel, rfl⟩
theorem eX6_mostOn_205 : decode cX6_mostOn 205 = .ok (.iinc 8 1, 3) ∧ 205 + 3 = 208 := ⟨by decide +kernel, rfl⟩
theorem eX6_mostOn_208 : decode cX6_mostOn 208 = .ok (.goto (-76), 3) ∧ ((208 : Nat) : Int) + (-76) = ((132 : Nat) : Int) := ⟨by decide +kernel, by decide⟩
theorem eX6_mostOn_211 : decode cX6_mostOn 211 = .ok (.iload 6, 2) ∧ 211 + 2 = 213 := ⟨by decide +kernel, rfl⟩
theorem eX6_mostOn_213 : decode cX6_mostOn 213 = .ok (.iload 7, 2) ∧ 213 + 2 = 215 := ⟨by decide +kernel, rfl⟩
theorem eX6_mostOn_215 : decode cX6_mostOn 215 = .ok (.invokestatic 94, 3) ∧ 215 + 3 = 218 := ⟨by decide +kernel, rfl⟩
theorem eX6_mostOn_218 : decode cX6_mostOn 218 = .ok (.ifCond .eq 25, 3) ∧ ((218 : Nat) : Int) + 25 = ((243 : Nat) : Int) ∧ 218 + 3 = 221 := ⟨by decide +kernel, by decide, rfl⟩
theorem eX6_mostOn_221 : decode cX6_mostOn 221 = .ok (.aload_n 0, 1) ∧ 221 + 1 = 222 := ⟨by decide +kernel, rfl⟩
theorem eX6_mostOn_222 : decode cX6_mostOn 222 = .ok (.getfield 34, 3) ∧ 222 + 3 = 225 := ⟨by decide +kernel, rfl⟩
theorem eX6_mostOn_225 : decode cX6_mostOn 225 = .ok (.bipush 6, 2) ∧ 225 + 2 = 227 := ⟨by decide +kernel, rfl⟩
theorem eX6_mostOn_227 : decode cX6_mostOn 227 = .ok (.iload 6, 2) ∧ 227 + 2 = 229 := ⟨by decide +kernel, rfl⟩
theorem eX6_mostOn_229 : decode cX6_mostOn 229 = .ok (.imul, 1) ∧ 229 + 1 = 230 := ⟨by decide +kernel, rfl⟩
theorem eX6_mostOn_230 : decode cX6_mostOn 230 = .ok (.iload 7, 2) ∧ 230 + 2 = 232 := ⟨by decide +kernel, rfl⟩
theorem eX6_mostOn_232 : decode cX6_mostOn 232 = .ok (.iadd, 1) ∧ 232 + 1 = 233 := ⟨by decide +kernel, rfl⟩
theorem eX6_mostOn_233 : decode cX6_mostOn 233 = .ok (.iaload, 1) ∧ 233 + 1 = 234 := ⟨by decide +kernel, rfl⟩
theorem eX6_mostOn_234 : decode cX6_mostOn 234 = .ok (.bipush (-9), 2) ∧ 234 + 2 = 236 := ⟨by decide +kernel, rfl⟩
theorem eX6_mostOn_236 : decode cX6_mostOn 236 = .ok (.if_icmp .eq 7, 3) ∧ ((236 : Nat) : Int) + 7 = ((243 : Nat) : Int) ∧ 236 + 3 = 239 := ⟨by decide +kernel, by decide, rfl⟩
theorem eX6_mostOn_239 : decode cX6_mostOn 239 = .ok (.iconst 1, 1) ∧ 239 + 1 = 240 := ⟨by decide +kernel, rfl⟩
theorem eX6_mostOn_240 : decode cX6_mostOn 240 = .ok (.goto 4, 3) ∧ ((240 : Nat) : Int) + 4 = ((244 : Nat) : Int) := ⟨by decide +kernel, by decide⟩
theorem eX6_mostOn_243 : decode cX6_mostOn 243 = .ok (.iconst 0, 1) ∧ 243 + 1 = 244 := ⟨by decide +kernel, rfl⟩
theorem eX6_mostOn_244 : decode cX6_mostOn 244 = .ok (.istore 8, 2) ∧ 244 + 2 = 246 := ⟨by decide +kernel, rfl⟩
theorem eX6_mostOn_246 : decode cX6_mostOn 246 = .ok (.iload 8, 2) ∧ 246 + 2 = 248 := ⟨by decide +kernel, rfl⟩
theorem eX6_mostOn_248 : decode cX6_mostOn 248 = .ok (.ifCond .eq 21, 3) ∧ ((248 : Nat) : Int) + 21 = ((269 : Nat) : Int) ∧ 248 + 3 = 251 := ⟨by decide +kernel, by decide, rfl⟩
theorem eX6_mostOn_251 : decode cX6_mostOn 251 = .ok (.iload 6, 2) ∧ 251 + 2 = 253 := ⟨by decide +kernel, rfl⟩
theorem eX6_mostOn_253 : decode cX6_mostOn 253 = .ok (.invokestatic 130, 3) ∧ 253 + 3 = 256 := ⟨by decide +kernel, rfl⟩
theorem eX6_mostOn_256 : decode cX6_mostOn 256 = .ok (.iload 5, 2) ∧ 256 + 2 = 258 := ⟨by decide +kernel, rfl⟩
theorem eX6_mostOn_258 : decode cX6_mostOn 258 = .ok (.if_icmp .le 11, 3) ∧ ((258 : Nat) : Int) + 11 = ((269 : Nat) : Int) ∧ 258 + 3 = 261 := ⟨by decide +kernel, by decide, rfl⟩
theorem eX6_mostOn_261 : decode cX6_mostOn 261 = .ok (.iload 6, 2) ∧ 261 + 2 = 263 := ⟨by decide +kernel, rfl⟩
theorem eX6_mostOn_263 : decode cX6_mostOn 263 = .ok (.invokestatic 130, 3) ∧ 263 + 3 = 266 := ⟨by decide +kernel, rfl⟩
theorem eX6_mostOn_266 : decode cX6_mostOn 266 = .ok (.goto 5, 3) ∧ ((266 : Nat) : Int) + 5 = ((271 : Nat) : Int) := ⟨by decide +kernel, by decide⟩
theorem eX6_mostOn_269 : decode cX6_mostOn 269 = .ok (.iload 5, 2) ∧ 269 + 2 = 271 := ⟨by decide +kernel, rfl⟩
theorem eX6_mostOn_271 : decode cX6_mostOn 271 = .ok (.istore 5, 2) ∧ 271 + 2 = 273 := ⟨by decide +kernel, rfl⟩
theorem eX6_mostOn_273 : decode cX6_mostOn 273 = .ok (.iinc 7 1, 3) ∧ 273 + 3 = 276 := ⟨by decide +kernel, rfl⟩
theorem eX6_mostOn_276 : decode cX6_mostOn 276 = .ok (.goto (-215), 3) ∧ ((276 : Nat) : Int) + (-215) = ((61 : Nat) : Int) := ⟨by decide +kernel, by decide⟩
theorem eX6_mostOn_279 : decode cX6_mostOn 279 = .ok (.iinc 6 1, 3) ∧ 279 + 3 = 282 := ⟨by decide +kernel, rfl⟩
theorem eX6_mostOn_282 : decode cX6_mostOn 282 = .ok (.goto (-231), 3) ∧ ((282 : Nat) : Int) + (-231) = ((51 : Nat) : Int) := ⟨by decide +kernel, by decide⟩
theorem eX6_mostOn_285 : decode cX6_mostOn 285 = .ok (.iload 5, 2) ∧ 285 + 2 = 287 := ⟨by decide +kernel, rfl⟩
theorem eX6_mostOn_287 : decode cX6_mostOn 287 = .ok (.ireturn, 1) := by decide +kernel
theorem eX6_endOf_0 : decode cX6_endOf 0 = .ok (.bipush (-9), 2) ∧ 0 + 2 = 2 := ⟨by decide +kernel, rfl⟩
theorem eX6_endOf_2 : decode cX6_endOf 2 = .ok (.istore_n 2, 1) ∧ 2 + 1 = 3 := ⟨by decide +kernel, rfl⟩
theorem eX6_endOf_3 : decode cX6_endOf 3 = .ok (.iconst 0, 1) ∧ 3 + 1 = 4 := ⟨by decide +kernel, rfl⟩
theorem eX6_endOf_4 : decode cX6_endOf 4 = .ok (.istore_n 3, 1) ∧ 4 + 1 = 5 := ⟨by decide +kernel, rfl⟩
theorem eX6_endOf_5 : decode cX6_endOf 5 = .ok (.iload_n 3, 1) ∧ 5 + 1 = 6 := ⟨by decide +kernel, rfl⟩
theorem eX6_endOf_6 : decode cX6_endOf 6 = .ok (.sipush 384, 3) ∧ 6 + 3 = 9 := ⟨by decide +kernel, rfl⟩
theorem eX6_endOf_9 : decode cX6_endOf 9 = .ok (.if_icmp .ge 70, 3) ∧ ((9 : Nat) : Int) + 70 = ((79 : Nat) : Int) ∧ 9 + 3 = 12 := ⟨by decide +kernel, by decide, rfl⟩
theorem eX6_endOf_12 : decode cX6_endOf 12 = .ok (.aload_n 0, 1) ∧ 12 + 1 = 13 := ⟨by decide +kernel, rfl⟩
theorem eX6_endOf_13 : decode cX6_endOf 13 = .ok (.getfield 34, 3) ∧ 13 + 3 = 16 := ⟨by decide +kernel, rfl⟩
theorem eX6_endOf_16 : decode cX6_endOf 16 = .ok (.iload_n 3, 1) ∧ 16 + 1 = 17 := ⟨by decide +kernel, rfl⟩
theorem eX6_endOf_17 : decode cX6_endOf 17 = .ok (.iaload, 1) ∧ 17 + 1 = 18 := ⟨by decide +kernel, rfl⟩
theorem eX6_endOf_18 : decode cX6_endOf 18 = .ok (.bipush (-9), 2) ∧ 18 + 2 = 20 := ⟨by decide +kernel, rfl⟩
theorem eX6_endOf_20 : decode cX6_endOf 20 = .ok (.if_icmp .eq 18, 3) ∧ ((20 : Nat) : Int) + 18 = ((38 : Nat) : Int) ∧ 20 + 3 = 23 := ⟨by decide +kernel, by decide, rfl⟩
theorem eX6_endOf_23 : decode cX6_endOf 23 = .ok (.iload_n 3, 1) ∧ 23 + 1 = 24 := ⟨by decide +kernel, rfl⟩
theorem eX6_endOf_24 : decode cX6_endOf 24 = .ok (.bipush 6, 2) ∧ 24 + 2 = 26 := ⟨by decide +kernel, rfl⟩
theorem eX6_endOf_26 : decode cX6_endOf 26 = .ok (.idiv, 1) ∧ 26 + 1 = 27 := ⟨by decide +kernel, rfl⟩
theorem eX6_endOf_27 : decode cX6_endOf 27 = .ok (.invokestatic 130, 3) ∧ 27 + 3 = 30 := ⟨by decide +kernel, rfl⟩
theorem eX6_endOf_30 : decode cX6_endOf 30 = .ok (.iload_n 1, 1) ∧ 30 + 1 = 31 := ⟨by decide +kernel, rfl⟩
theorem eX6_endOf_31 : decode cX6_endOf 31 = .ok (.if_icmp .ne 7, 3) ∧ ((31 : Nat) : Int) + 7 = ((38 : Nat) : Int) ∧ 31 + 3 = 34 := ⟨by decide +kernel, by decide, rfl⟩
theorem eX6_endOf_34 : decode cX6_endOf 34 = .ok (.iconst 1, 1) ∧ 34 + 1 = 35 := ⟨by decide +kernel, rfl⟩
theorem eX6_endOf_35 : decode cX6_endOf 35 = .ok (.goto 4, 3) ∧ ((35 : Nat) : Int) + 4 = ((39 : Nat) : Int) := ⟨by decide +kernel, by decide⟩
theorem eX6_endOf_38 : decode cX6_endOf 38 = .ok (.iconst 0, 1) ∧ 38 + 1 = 39 := ⟨by decide +kernel, rfl⟩
theorem eX6_endOf_39 : decode cX6_endOf 39 = .ok (.istore 4, 2) ∧ 39 + 2 = 41 := ⟨by decide +kernel, rfl⟩
theorem eX6_endOf_41 : decode cX6_endOf 41 = .ok (.iload 4, 2) ∧ 41 + 2 = 43 := ⟨by decide +kernel, rfl⟩
theorem eX6_endOf_43 : decode cX6_endOf 43 = .ok (.ifCond .eq 28, 3) ∧ ((43 : Nat) : Int) + 28 = ((71 : Nat) : Int) ∧ 43 + 3 = 46 := ⟨by decide +kernel, by decide, rfl⟩
theorem eX6_endOf_46 : decode cX6_endOf 46 = .ok (.iload_n 2, 1) ∧ 46 + 1 = 47 := ⟨by decide +kernel, rfl⟩
theorem eX6_endOf_47 : decode cX6_endOf 47 = .ok (.bipush (-9), 2) ∧ 47 + 2 = 49 := ⟨by decide +kernel, rfl⟩
theorem eX6_endOf_49 : decode cX6_endOf 49 = .ok (.if_icmp .eq 13, 3) ∧ ((49 : Nat) : Int) + 13 = ((62 : Nat) : Int) ∧ 49 + 3 = 52 := ⟨by decide +kernel, by decide, rfl⟩
theorem eX6_endOf_52 : decode cX6_endOf 52 = .ok (.aload_n 0, 1) ∧ 52 + 1 = 53 := ⟨by decide +kernel, rfl⟩
theorem eX6_endOf_53 : decode cX6_endOf 53 = .ok (.getfield 34, 3) ∧ 53 + 3 = 56 := ⟨by decide +kernel, rfl⟩
theorem eX6_endOf_56 : decode cX6_endOf 56 = .ok (.iload_n 3, 1) ∧ 56 + 1 = 57 := ⟨by decide +kernel, rfl⟩
theorem eX6_endOf_57 : decode cX6_endOf 57 = .ok (.iaload, 1) ∧ 57 + 1 = 58 := ⟨by decide +kernel, rfl⟩
theorem eX6_endOf_58 : decode cX6_endOf 58 = .ok (.iload_n 2, 1) ∧ 58 + 1 = 59 := ⟨by decide +kernel, rfl⟩
theorem eX6_endOf_59 : decode cX6_endOf 59 = .ok (.if_icmp .ge 12, 3) ∧ ((59 : Nat) : Int) + 12 = ((71 : Nat) : Int) ∧ 59 + 3 = 62 := ⟨by decide +kernel, by decide, rfl⟩
theorem eX6_endOf_62 : decode cX6_endOf 62 = .ok (.aload_n 0, 1) ∧ 62 + 1 = 63 := ⟨by decide +kernel, rfl⟩
theorem eX6_endOf_63 : decode cX6_endOf 63 = .ok (.getfield 34, 3) ∧ 63 + 3 = 66 := ⟨by decide +kernel, rfl⟩
theorem eX6_endOf_66 : decode cX6_endOf 66 = .ok (.iload_n 3, 1) ∧ 66 + 1 = 67 := ⟨by decide +kernel, rfl⟩
theorem eX6_endOf_67 : decode cX6_endOf 67 = .ok (.iaload, 1) ∧ 67 + 1 = 68 := ⟨by decide +kernel, rfl⟩
theorem eX6_endOf_68 : decode cX6_endOf 68 = .ok (.goto 4, 3) ∧ ((68 : Nat) : Int) + 4 = ((72 : Nat) : Int) := ⟨by decide +kernel, by decide⟩
theorem eX6_endOf_71 : decode cX6_endOf 71 = .ok (.iload_n 2, 1) ∧ 71 + 1 = 72 := ⟨by decide +kernel, rfl⟩
theorem eX6_endOf_72 : decode cX6_endOf 72 = .ok (.istore_n 2, 1) ∧ 72 + 1 = 73 := ⟨by decide +kernel, rfl⟩
theorem eX6_endOf_73 : decode cX6_endOf 73 = .ok (.iinc 3 1, 3) ∧ 73 + 3 = 76 := ⟨by decide +kernel, rfl⟩
theorem eX6_endOf_76 : decode cX6_endOf 76 = .ok (.goto (-71), 3) ∧ ((76 : Nat) : Int) + (-71) = ((5 : Nat) : Int) := ⟨by decide +kernel, by decide⟩
theorem eX6_endOf_79 : decode cX6_endOf 79 = .ok (.iload_n 1, 1) ∧ 79 + 1 = 80 := ⟨by decide +kernel, rfl⟩
theorem eX6_endOf_80 : decode cX6_endOf 80 = .ok (.ifCond .ne 12, 3) ∧ ((80 : Nat) : Int) + 12 = ((92 : Nat) : Int) ∧ 80 + 3 = 83 := ⟨by decide +kernel, by decide, rfl⟩
theorem eX6_endOf_83 : decode cX6_endOf 83 = .ok (.aload_n 0, 1) ∧ 83 + 1 = 84 := ⟨by decide +kernel, rfl⟩
theorem eX6_endOf_84 : decode cX6_endOf 84 = .ok (.getfield 25, 3) ∧ 84 + 3 = 87 := ⟨by decide +kernel, rfl⟩
theorem eX6_endOf_87 : decode cX6_endOf 87 = .ok (.iconst 0, 1) ∧ 87 + 1 = 88 := ⟨by decide +kernel, rfl⟩
theorem eX6_endOf_88 : decode cX6_endOf 88 = .ok (.iaload, 1) ∧ 88 + 1 = 89 := ⟨by decide +kernel, rfl⟩
theorem eX6_endOf_89 : decode cX6_endOf 89 = .ok (.goto 4, 3) ∧ ((89 : Nat) : Int) + 4 = ((93 : Nat) : Int) := ⟨by decide +kernel, by decide⟩
theorem eX6_endOf_92 : decode cX6_endOf 92 = .ok (.iload_n 2, 1) ∧ 92 + 1 = 93 := ⟨by decide +kernel, rfl⟩
theorem eX6_endOf_93 : decode cX6_endOf 93 = .ok (.ireturn, 1) := by decide +kernel
theorem eX6_layTrial_0 : decode cX6_layTrial 0 = .ok (.iconst 0, 1) ∧ 0 + 1 = 1 := ⟨by decide +kernel, rfl⟩
theorem eX6_layTrial_1 : decode cX6_layTrial 1 = .ok (.istore_n 1, 1) ∧ 1 + 1 = 2 := ⟨by decide +kernel, rfl⟩
theorem eX6_layTrial_2 : decode cX6_layTrial 2 = .ok (.iload_n 1, 1) ∧ 2 + 1 = 3 := ⟨by decide +kernel, rfl⟩
theorem eX6_layTrial_3 : decode cX6_layTrial 3 = .ok (.bipush 8, 2) ∧ 3 + 2 = 5 := ⟨by decide +kernel, rfl⟩
theorem eX6_layTrial_5 : decode cX6_layTrial 5 = .ok (.if_icmp .ge 24, 3) ∧ ((5 : Nat) : Int) + 24 = ((29 : Nat) : Int) ∧ 5 + 3 = 8 := ⟨by decide +kernel, by decide, rfl⟩
theorem eX6_layTrial_8 : decode cX6_layTrial 8 = .ok (.aload_n 0, 1) ∧ 8 + 1 = 9 := ⟨by decide +kernel, rfl⟩
theorem eX6_layTrial_9 : decode cX6_layTrial 9 = .ok (.getfield 25, 3) ∧ 9 + 3 = 12 := ⟨by decide +kernel, rfl⟩
theorem eX6_layTrial_12 : decode cX6_layTrial 12 = .ok (.bipush 8, 2) ∧ 12 + 2 = 14 := ⟨by decide +kernel, rfl⟩
theorem eX6_layTrial_14 : decode cX6_layTrial 14 = .ok (.iload_n 1, 1) ∧ 14 + 1 = 15 := ⟨by decide +kernel, rfl⟩
theorem eX6_layTrial_15 : decode cX6_layTrial 15 = .ok (.iadd, 1) ∧ 15 + 1 = 16 := ⟨by decide +kernel, rfl⟩
theorem eX6_layTrial_16 : decode cX6_layTrial 16 = .ok (.aload_n 0, 1) ∧ 16 + 1 = 17 := ⟨by decide +kernel, rfl⟩
theorem eX6_layTrial_17 : decode cX6_layTrial 17 = .ok (.getfield 25, 3) ∧ 17 + 3 = 20 := ⟨by decide +kernel, rfl⟩
theorem eX6_layTrial_20 : decode cX6_layTrial 20 = .ok (.iload_n 1, 1) ∧ 20 + 1 = 21 := ⟨by decide +kernel, rfl⟩
theorem eX6_layTrial_21 : decode cX6_layTrial 21 = .ok (.iaload, 1) ∧ 21 + 1 = 22 := ⟨by decide +kernel, rfl⟩
theorem eX6_layTrial_22 : decode cX6_layTrial 22 = .ok (.iastore, 1) ∧ 22 + 1 = 23 := ⟨by decide +kernel, rfl⟩
theorem eX6_layTrial_23 : decode cX6_layTrial 23 = .ok (.iinc 1 1, 3) ∧ 23 + 3 = 26 := ⟨by decide +kernel, rfl⟩
theorem eX6_layTrial_26 : decode cX6_layTrial 26 = .ok (.goto (-24), 3) ∧ ((26 : Nat) : Int) + (-24) = ((2 : Nat) : Int) := ⟨by decide +kernel, by decide⟩
theorem eX6_layTrial_29 : decode cX6_layTrial 29 = .ok (.return_, 1) := by decide +kernel
theorem eX6_firstRow_0 : decode cX6_firstRow 0 = .ok (.iconst 0, 1) ∧ 0 + 1 = 1 := ⟨by decide +kernel, rfl⟩
theorem eX6_firstRow_1 : decode cX6_firstRow 1 = .ok (.istore_n 2, 1) ∧ 1 + 1 = 2 := ⟨by decide +kernel, rfl⟩
theorem eX6_firstRow_2 : decode cX6_firstRow 2 = .ok (.iconst 0, 1) ∧ 2 + 1 = 3 := ⟨by decide +kernel, rfl⟩
theorem eX6_firstRow_3 : decode cX6_firstRow 3 = .ok (.istore_n 3, 1) ∧ 3 + 1 = 4 := ⟨by decide +kernel, rfl⟩
theorem eX6_firstRow_4 : decode cX6_firstRow 4 = .ok (.iload_n 1, 1) ∧ 4 + 1 = 5 := ⟨by decide +kernel, rfl⟩
theorem eX6_firstRow_5 : decode cX6_firstRow 5 = .ok (.istore 4, 2) ∧ 5 + 2 = 7 := ⟨by decide +kernel, rfl⟩
theorem eX6_firstRow_7 : decode cX6_firstRow 7 = .ok (.iload 4, 2) ∧ 7 + 2 = 9 := ⟨by decide +kernel, rfl⟩
theorem eX6_firstRow_9 : decode cX6_firstRow 9 = .ok (.ifCond .le 45, 3) ∧ ((9 : Nat) : Int) + 45 = ((54 : Nat) : Int) ∧ 9 + 3 = 12 := ⟨by decide +kernel, by decide, rfl⟩
theorem eX6_firstRow_12 : decode cX6_firstRow 12 = .ok (.iconst 0, 1) ∧ 12 + 1 = 13 := ⟨by decide +kernel, rfl⟩
theorem eX6_firstRow_13 : decode cX6_firstRow 13 = .ok (.istore 5, 2) ∧ 13 + 2 = 15 := ⟨by decide +kernel, rfl⟩
theorem eX6_firstRow_15 : decode cX6_firstRow 15 = .ok (.aload_n 0, 1) ∧ 15 + 1 = 16 := ⟨by decide +kernel, rfl⟩
theorem eX6_firstRow_16 : decode cX6_firstRow 16 = .ok (.iload_n 2, 1) ∧ 16 + 1 = 17 := ⟨by decide +kernel, rfl⟩
theorem eX6_firstRow_17 : decode cX6_firstRow 17 = .ok (.iload 5, 2) ∧ 17 + 2 = 19 := ⟨by decide +kernel, rfl⟩
theorem eX6_firstRow_19 : decode cX6_firstRow 19 = .ok (.iload 4, 2) ∧ 19 + 2 = 21 := ⟨by decide +kernel, rfl⟩
theorem eX6_firstRow_21 : decode cX6_firstRow 21 = .ok (.iconst 1, 1) ∧ 21 + 1 = 22 := ⟨by decide +kernel, rfl⟩
theorem eX6_firstRow_22 : decode cX6_firstRow 22 = .ok (.isub, 1) ∧ 22 + 1 = 23 := ⟨by decide +kernel, rfl⟩
theorem eX6_firstRow_23 : decode cX6_firstRow 23 = .ok (.invokevirtual 133, 3) ∧ 23 + 3 = 26 := ⟨by decide +kernel, rfl⟩
theorem eX6_firstRow_26 : decode cX6_firstRow 26 = .ok (.ifCond .ne 9, 3) ∧ ((26 : Nat) : Int) + 9 = ((35 : Nat) : Int) ∧ 26 + 3 = 29 := ⟨by decide +kernel, by decide, rfl⟩
theorem eX6_firstRow_29 : decode cX6_firstRow 29 = .ok (.iinc 5 1, 3) ∧ 29 + 3 = 32 := ⟨by decide +kernel, rfl⟩
theorem eX6_firstRow_32 : decode cX6_firstRow 32 = .ok (.goto (-17), 3) ∧ ((32 : Nat) : Int) + (-17) = ((15 : Nat) : Int) := ⟨by decide +kernel, by decide⟩
theorem eX6_firstRow_35 : decode cX6_firstRow 35 = .ok (.bipush 10, 2) ∧ 35 + 2 = 37 := ⟨by decide +kernel, rfl⟩
theorem eX6_firstRow_37 : decode cX6_firstRow 37 = .ok (.iload_n 2, 1) ∧ 37 + 1 = 38 := ⟨by decide +kernel, rfl⟩
theorem eX6_firstRow_38 : decode cX6_firstRow 38 = .ok (.imul, 1) ∧ 38 + 1 = 39 := ⟨by decide +kernel, rfl⟩
theorem eX6_firstRow_39 : decode cX6_firstRow 39 = .ok (.iload 5, 2) ∧ 39 + 2 = 41 := ⟨by decide +kernel, rfl⟩
theorem eX6_firstRow_41 : decode cX6_firstRow 41 = .ok (.iadd, 1) ∧ 41 + 1 = 42 := ⟨by decide +kernel, rfl⟩
theorem eX6_firstRow_42 : decode cX6_firstRow 42 = .ok (.iconst 1, 1) ∧ 42 + 1 = 43 := ⟨by decide +kernel, rfl⟩
theorem eX6_firstRow_43 : decode cX6_firstRow 43 = .ok (.iadd, 1) ∧ 43 + 1 = 44 := ⟨by decide +kernel, rfl⟩
theorem eX6_firstRow_44 : decode cX6_firstRow 44 = .ok (.istore_n 2, 1) ∧ 44 + 1 = 45 := ⟨by decide +kernel, rfl⟩
theorem eX6_firstRow_45 : decode cX6_firstRow 45 = .ok (.iinc 3 1, 3) ∧ 45 + 3 = 48 := ⟨by decide +kernel, rfl⟩
theorem eX6_firstRow_48 : decode cX6_firstRow 48 = .ok (.iinc 4 (-1), 3) ∧ 48 + 3 = 51 := ⟨by decide +kernel, rfl⟩
theorem eX6_firstRow_51 : decode cX6_firstRow 51 = .ok (.goto (-44), 3) ∧ ((51 : Nat) : Int) + (-44) = ((7 : Nat) : Int) := ⟨by decide +kernel, by decide⟩
theorem eX6_firstRow_54 : decode cX6_firstRow 54 = .ok (.iload_n 3, 1) ∧ 54 + 1 = 55 := ⟨by decide +kernel, rfl⟩
theorem eX6_firstRow_55 : decode cX6_firstRow 55 = .ok (.iload_n 1, 1) ∧ 55 + 1 = 56 := ⟨by decide +kernel, rfl⟩
theorem eX6_firstRow_56 : decode cX6_firstRow 56 = .ok (.if_icmp .ne 7, 3) ∧ ((56 : Nat) : Int) + 7 = ((63 : Nat) : Int) ∧ 56 + 3 = 59 := ⟨by decide +kernel, by decide, rfl⟩
theorem eX6_firstRow_59 : decode cX6_firstRow 59 = .ok (.iload_n 2, 1) ∧ 59 + 1 = 60 := ⟨by decide +kernel, rfl⟩
theorem eX6_firstRow_60 : decode cX6_firstRow 60 = .ok (.goto 5, 3) ∧ ((60 : Nat) : Int) + 5 = ((65 : Nat) : Int) := ⟨by decide +kernel, by decide⟩
theorem eX6_firstRow_63 : decode cX6_firstRow 63 = .ok (.bipush (-9), 2) ∧ 63 + 2 = 65 := ⟨by decide +kernel, rfl⟩
theorem eX6_firstRow_65 : decode cX6_firstRow 65 = .ok (.ireturn, 1) := by decide +kernel
theorem eX6_goesOn_0 : decode cX6_goesOn 0 = .ok (.aload_n 0, 1) ∧ 0 + 1 = 1 := ⟨by decide +kernel, rfl⟩
theorem eX6_goesOn_1 : decode cX6_goesOn 1 = .ok (.invokevirtual 137, 3) ∧ 1 + 3 = 4 := ⟨by decide +kernel, rfl⟩
theorem eX6_goesOn_4 : decode cX6_goesOn 4 = .ok (.ldc 140, 2) ∧ 4 + 2 = 6 := ⟨by decide +kernel, rfl⟩
theorem eX6_goesOn_6 : decode cX6_goesOn 6 = .ok (.istore 4, 2) ∧ 6 + 2 = 8 := ⟨by decide +kernel, rfl⟩
theorem eX6_goesOn_8 : decode cX6_goesOn 8 = .ok (.iload 4, 2) ∧ 8 + 2 = 10 := ⟨by decide +kernel, rfl⟩
theorem eX6_goesOn_10 : decode cX6_goesOn 10 = .ok (.ifCond .le 37, 3) ∧ ((10 : Nat) : Int) + 37 = ((47 : Nat) : Int) ∧ 10 + 3 = 13 := ⟨by decide +kernel, by decide, rfl⟩
theorem eX6_goesOn_13 : decode cX6_goesOn 13 = .ok (.iload_n 1, 1) ∧ 13 + 1 = 14 := ⟨by decide +kernel, rfl⟩
theorem eX6_goesOn_14 : decode cX6_goesOn 14 = .ok (.iload 4, 2) ∧ 14 + 2 = 16 := ⟨by decide +kernel, rfl⟩
theorem eX6_goesOn_16 : decode cX6_goesOn 16 = .ok (.idiv, 1) ∧ 16 + 1 = 17 := ⟨by decide +kernel, rfl⟩
theorem eX6_goesOn_17 : decode cX6_goesOn 17 = .ok (.bipush 10, 2) ∧ 17 + 2 = 19 := ⟨by decide +kernel, rfl⟩
theorem eX6_goesOn_19 : decode cX6_goesOn 19 = .ok (.irem, 1) ∧ 19 + 1 = 20 := ⟨by decide +kernel, rfl⟩
theorem eX6_goesOn_20 : decode cX6_goesOn 20 = .ok (.iconst 1, 1) ∧ 20 + 1 = 21 := ⟨by decide +kernel, rfl⟩
theorem eX6_goesOn_21 : decode cX6_goesOn 21 = .ok (.isub, 1) ∧ 21 + 1 = 22 := ⟨by decide +kernel, rfl⟩
theorem eX6_goesOn_22 : decode cX6_goesOn 22 = .ok (.istore 5, 2) ∧ 22 + 2 = 24 := ⟨by decide +kernel, rfl⟩
theorem eX6_goesOn_24 : decode cX6_goesOn 24 = .ok (.iload 5, 2) ∧ 24 + 2 = 26 := ⟨by decide +kernel, rfl⟩
theorem eX6_goesOn_26 : decode cX6_goesOn 26 = .ok (.ifCond .lt 11, 3) ∧ ((26 : Nat) : Int) + 11 = ((37 : Nat) : Int) ∧ 26 + 3 = 29 := ⟨by decide +kernel, by decide, rfl⟩
theorem eX6_goesOn_29 : decode cX6_goesOn 29 = .ok (.aload_n 0, 1) ∧ 29 + 1 = 30 := ⟨by decide +kernel, rfl⟩
theorem eX6_goesOn_30 : decode cX6_goesOn 30 = .ok (.iconst 1, 1) ∧ 30 + 1 = 31 := ⟨by decide +kernel, rfl⟩
theorem eX6_goesOn_31 : decode cX6_goesOn 31 = .ok (.iload 5, 2) ∧ 31 + 2 = 33 := ⟨by decide +kernel, rfl⟩
theorem eX6_goesOn_33 : decode cX6_goesOn 33 = .ok (.invokevirtual 123, 3) ∧ 33 + 3 = 36 := ⟨by decide +kernel, rfl⟩
theorem eX6_goesOn_36 : decode cX6_goesOn 36 = .ok (.pop, 1) ∧ 36 + 1 = 37 := ⟨by decide +kernel, rfl⟩
theorem eX6_goesOn_37 : decode cX6_goesOn 37 = .ok (.iload 4, 2) ∧ 37 + 2 = 39 := ⟨by decide +kernel, rfl⟩
theorem eX6_goesOn_39 : decode cX6_goesOn 39 = .ok (.bipush 10, 2) ∧ 39 + 2 = 41 := ⟨by decide +kernel, rfl⟩
theorem eX6_goesOn_41 : decode cX6_goesOn 41 = .ok (.idiv, 1) ∧ 41 + 1 = 42 := ⟨by decide +kernel, rfl⟩
theorem eX6_goesOn_42 : decode cX6_goesOn 42 = .ok (.istore 4, 2) ∧ 42 + 2 = 44 := ⟨by decide +kernel, rfl⟩
theorem eX6_goesOn_44 : decode cX6_goesOn 44 = .ok (.goto (-36), 3) ∧ ((44 : Nat) : Int) + (-36) = ((8 : Nat) : Int) := ⟨by decide +kernel, by decide⟩
theorem eX6_goesOn_47 : decode cX6_goesOn 47 = .ok (.aload_n 0, 1) ∧ 47 + 1 = 48 := ⟨by decide +kernel, rfl⟩
theorem eX6_goesOn_48 : decode cX6_goesOn 48 = .ok (.iconst 1, 1) ∧ 48 + 1 = 49 := ⟨by decide +kernel, rfl⟩
theorem eX6_goesOn_49 : decode cX6_goesOn 49 = .ok (.iload_n 2, 1) ∧ 49 + 1 = 50 := ⟨by decide +kernel, rfl⟩
theorem eX6_goesOn_50 : decode cX6_goesOn 50 = .ok (.invokevirtual 123, 3) ∧ 50 + 3 = 53 := ⟨by decide +kernel, rfl⟩
theorem eX6_goesOn_53 : decode cX6_goesOn 53 = .ok (.ifCond .eq 20, 3) ∧ ((53 : Nat) : Int) + 20 = ((73 : Nat) : Int) ∧ 53 + 3 = 56 := ⟨by decide +kernel, by decide, rfl⟩
theorem eX6_goesOn_56 : decode cX6_goesOn 56 = .ok (.aload_n 0, 1) ∧ 56 + 1 = 57 := ⟨by decide +kernel, rfl⟩
theorem eX6_goesOn_57 : decode cX6_goesOn 57 = .ok (.iconst 1, 1) ∧ 57 + 1 = 58 := ⟨by decide +kernel, rfl⟩
theorem eX6_goesOn_58 : decode cX6_goesOn 58 = .ok (.aload_n 0, 1) ∧ 58 + 1 = 59 := ⟨by decide +kernel, rfl⟩
theorem eX6_goesOn_59 : decode cX6_goesOn 59 = .ok (.invokevirtual 141, 3) ∧ 59 + 3 = 62 := ⟨by decide +kernel, rfl⟩
theorem eX6_goesOn_62 : decode cX6_goesOn 62 = .ok (.invokevirtual 144, 3) ∧ 62 + 3 = 65 := ⟨by decide +kernel, rfl⟩
theorem eX6_goesOn_65 : decode cX6_goesOn 65 = .ok (.iload_n 3, 1) ∧ 65 + 1 = 66 := ⟨by decide +kernel, rfl⟩
theorem eX6_goesOn_66 : decode cX6_goesOn 66 = .ok (.if_icmp .ne 7, 3) ∧ ((66 : Nat) : Int) + 7 = ((73 : Nat) : Int) ∧ 66 + 3 = 69 := ⟨by decide +kernel, by decide, rfl⟩
theorem eX6_goesOn_69 : decode cX6_goesOn 69 = .ok (.iconst 1, 1) ∧ 69 + 1 = 70 := ⟨by decide +kernel, rfl⟩
theorem eX6_goesOn_70 : decode cX6_goesOn 70 = .ok (.goto 4, 3) ∧ ((70 : Nat) : Int) + 4 = ((74 : Nat) : Int) := ⟨by decide +kernel, by decide⟩
theorem eX6_goesOn_73 : decode cX6_goesOn 73 = .ok (.iconst 0, 1) ∧ 73 + 1 = 74 := ⟨by decide +kernel, rfl⟩
theorem eX6_goesOn_74 : decode cX6_goesOn 74 = .ok (.ireturn, 1) := by decide +kernel
theorem eX6_most_0 : decode cX6_most 0 = .ok (.iload_n 1, 1) ∧ 0 + 1 = 1 := ⟨by decide +kernel, rfl⟩
theorem eX6_most_1 : decode cX6_most 1 = .ok (.i2l, 1) ∧ 1 + 1 = 2 := ⟨by decide +kernel, rfl⟩
theorem eX6_most_2 : decode cX6_most 2 = .ok (.lconst 0, 1) ∧ 2 + 1 = 3 := ⟨by decide +kernel, rfl⟩
theorem eX6_most_3 : decode cX6_most 3 = .ok (.ldc2_w 147, 3) ∧ 3 + 3 = 6 := ⟨by decide +kernel, rfl⟩
theorem eX6_most_6 : decode cX6_most 6 = .ok (.invokestatic 59, 3) ∧ 6 + 3 = 9 := ⟨by decide +kernel, rfl⟩
theorem eX6_most_9 : decode cX6_most 9 = .ok (.ifCond .ne 6, 3) ∧ ((9 : Nat) : Int) + 6 = ((15 : Nat) : Int) ∧ 9 + 3 = 12 := ⟨by decide +kernel, by decide, rfl⟩
theorem eX6_most_12 : decode cX6_most 12 = .ok (.bipush (-2), 2) ∧ 12 + 2 = 14 := ⟨by decide +kernel, rfl⟩
theorem eX6_most_14 : decode cX6_most 14 = .ok (.ireturn, 1) := by decide +kernel
theorem eX6_most_15 : decode cX6_most 15 = .ok (.aload_n 0, 1) ∧ 15 + 1 = 16 := ⟨by decide +kernel, rfl⟩
theorem eX6_most_16 : decode cX6_most 16 = .ok (.iconst 0, 1) ∧ 16 + 1 = 17 := ⟨by decide +kernel, rfl⟩
theorem eX6_most_17 : decode cX6_most 17 = .ok (.aload_n 0, 1) ∧ 17 + 1 = 18 := ⟨by decide +kernel, rfl⟩
theorem eX6_most_18 : decode cX6_most 18 = .ok (.invokevirtual 141, 3) ∧ 18 + 3 = 21 := ⟨by decide +kernel, rfl⟩
theorem eX6_most_21 : decode cX6_most 21 = .ok (.invokevirtual 144, 3) ∧ 21 + 3 = 24 := ⟨by decide +kernel, rfl⟩
theorem eX6_most_24 : decode cX6_most 24 = .ok (.istore_n 2, 1) ∧ 24 + 1 = 25 := ⟨by decide +kernel, rfl⟩
theorem eX6_most_25 : decode cX6_most 25 = .ok (.iload_n 1, 1) ∧ 25 + 1 = 26 := ⟨by decide +kernel, rfl⟩
theorem eX6_most_26 : decode cX6_most 26 = .ok (.ifCond .ne 7, 3) ∧ ((26 : Nat) : Int) + 7 = ((33 : Nat) : Int) ∧ 26 + 3 = 29 := ⟨by decide +kernel, by decide, rfl⟩
theorem eX6_most_29 : decode cX6_most 29 = .ok (.iload_n 2, 1) ∧ 29 + 1 = 30 := ⟨by decide +kernel, rfl⟩
theorem eX6_most_30 : decode cX6_most 30 = .ok (.goto 21, 3) ∧ ((30 : Nat) : Int) + 21 = ((51 : Nat) : Int) := ⟨by decide +kernel, by decide⟩
theorem eX6_most_33 : decode cX6_most 33 = .ok (.iload_n 1, 1) ∧ 33 + 1 = 34 := ⟨by decide +kernel, rfl⟩
theorem eX6_most_34 : decode cX6_most 34 = .ok (.iconst 1, 1) ∧ 34 + 1 = 35 := ⟨by decide +kernel, rfl⟩
theorem eX6_most_35 : decode cX6_most 35 = .ok (.if_icmp .ne 11, 3) ∧ ((35 : Nat) : Int) + 11 = ((46 : Nat) : Int) ∧ 35 + 3 = 38 := ⟨by decide +kernel, by decide, rfl⟩
theorem eX6_most_38 : decode cX6_most 38 = .ok (.aload_n 0, 1) ∧ 38 + 1 = 39 := ⟨by decide +kernel, rfl⟩
theorem eX6_most_39 : decode cX6_most 39 = .ok (.iload_n 2, 1) ∧ 39 + 1 = 40 := ⟨by decide +kernel, rfl⟩
theorem eX6_most_40 : decode cX6_most 40 = .ok (.invokevirtual 149, 3) ∧ 40 + 3 = 43 := ⟨by decide +kernel, rfl⟩
theorem eX6_most_43 : decode cX6_most 43 = .ok (.goto 8, 3) ∧ ((43 : Nat) : Int) + 8 = ((51 : Nat) : Int) := ⟨by decide +kernel, by decide⟩
theorem eX6_most_46 : decode cX6_most 46 = .ok (.aload_n 0, 1) ∧ 46 + 1 = 47 := ⟨by decide +kernel, rfl⟩
theorem eX6_most_47 : decode cX6_most 47 = .ok (.iload_n 2, 1) ∧ 47 + 1 = 48 := ⟨by decide +kernel, rfl⟩
theorem eX6_most_48 : decode cX6_most 48 = .ok (.invokevirtual 152, 3) ∧ 48 + 3 = 51 := ⟨by decide +kernel, rfl⟩
theorem eX6_most_51 : decode cX6_most 51 = .ok (.ireturn, 1) := by decide +kernel
theorem eX6_slack_0 : decode cX6_slack 0 = .ok (.aload_n 0, 1) ∧ 0 + 1 = 1 := ⟨by decide +kernel, rfl⟩
theorem eX6_slack_1 : decode cX6_slack 1 = .ok (.iconst 0, 1) ∧ 1 + 1 = 2 := ⟨by decide +kernel, rfl⟩
theorem eX6_slack_2 : decode cX6_slack 2 = .ok (.aload_n 0, 1) ∧ 2 + 1 = 3 := ⟨by decide +kernel, rfl⟩
theorem eX6_slack_3 : decode cX6_slack 3 = .ok (.invokevirtual 141, 3) ∧ 3 + 3 = 6 := ⟨by decide +kernel, rfl⟩
theorem eX6_slack_6 : decode cX6_slack 6 = .ok (.invokevirtual 144, 3) ∧ 6 + 3 = 9 := ⟨by decide +kernel, rfl⟩
theorem eX6_slack_9 : decode cX6_slack 9 = .ok (.istore_n 1, 1) ∧ 9 + 1 = 10 := ⟨by decide +kernel, rfl⟩
theorem eX6_slack_10 : decode cX6_slack 10 = .ok (.iconst 1, 1) ∧ 10 + 1 = 11 := ⟨by decide +kernel, rfl⟩
theorem eX6_slack_11 : decode cX6_slack 11 = .ok (.istore_n 2, 1) ∧ 11 + 1 = 12 := ⟨by decide +kernel, rfl⟩
theorem eX6_slack_12 : decode cX6_slack 12 = .ok (.iload_n 2, 1) ∧ 12 + 1 = 13 := ⟨by decide +kernel, rfl⟩
theorem eX6_slack_13 : decode cX6_slack 13 = .ok (.bipush 10, 2) ∧ 13 + 2 = 15 := ⟨by decide +kernel, rfl⟩
theorem eX6_slack_15 : decode cX6_slack 15 = .ok (.if_icmp .ge 41, 3) ∧ ((15 : Nat) : Int) + 41 = ((56 : Nat) : Int) ∧ 15 + 3 = 18 := ⟨by decide +kernel, by decide, rfl⟩
theorem eX6_slack_18 : decode cX6_slack 18 = .ok (.aload_n 0, 1) ∧ 18 + 1 = 19 := ⟨by decide +kernel, rfl⟩
theorem eX6_slack_19 : decode cX6_slack 19 = .ok (.invokevirtual 137, 3) ∧ 19 + 3 = 22 := ⟨by decide +kernel, rfl⟩
theorem eX6_slack_22 : decode cX6_slack 22 = .ok (.aload_n 0, 1) ∧ 22 + 1 = 23 := ⟨by decide +kernel, rfl⟩
theorem eX6_slack_23 : decode cX6_slack 23 = .ok (.getfield 25, 3) ∧ 23 + 3 = 26 := ⟨by decide +kernel, rfl⟩
theorem eX6_slack_26 : decode cX6_slack 26 = .ok (.bipush 8, 2) ∧ 26 + 2 = 28 := ⟨by decide +kernel, rfl⟩
theorem eX6_slack_28 : decode cX6_slack 28 = .ok (.dup2, 1) ∧ 28 + 1 = 29 := ⟨by decide +kernel, rfl⟩
theorem eX6_slack_29 : decode cX6_slack 29 = .ok (.iaload, 1) ∧ 29 + 1 = 30 := ⟨by decide +kernel, rfl⟩
theorem eX6_slack_30 : decode cX6_slack 30 = .ok (.iload_n 2, 1) ∧ 30 + 1 = 31 := ⟨by decide +kernel, rfl⟩
theorem eX6_slack_31 : decode cX6_slack 31 = .ok (.iadd, 1) ∧ 31 + 1 = 32 := ⟨by decide +kernel, rfl⟩
theorem eX6_slack_32 : decode cX6_slack 32 = .ok (.iastore, 1) ∧ 32 + 1 = 33 := ⟨by decide +kernel, rfl⟩
theorem eX6_slack_33 : decode cX6_slack 33 = .ok (.aload_n 0, 1) ∧ 33 + 1 = 34 := ⟨by decide +kernel, rfl⟩
theorem eX6_slack_34 : decode cX6_slack 34 = .ok (.iconst 1, 1) ∧ 34 + 1 = 35 := ⟨by decide +kernel, rfl⟩
theorem eX6_slack_35 : decode cX6_slack 35 = .ok (.aload_n 0, 1) ∧ 35 + 1 = 36 := ⟨by decide +kernel, rfl⟩
theorem eX6_slack_36 : decode cX6_slack 36 = .ok (.invokevirtual 141, 3) ∧ 36 + 3 = 39 := ⟨by decide +kernel, rfl⟩
theorem eX6_slack_39 : decode cX6_slack 39 = .ok (.invokevirtual 144, 3) ∧ 39 + 3 = 42 := ⟨by decide +kernel, rfl⟩
theorem eX6_slack_42 : decode cX6_slack 42 = .ok (.iload_n 1, 1) ∧ 42 + 1 = 43 := ⟨by decide +kernel, rfl⟩
theorem eX6_slack_43 : decode cX6_slack 43 = .ok (.if_icmp .ge 7, 3) ∧ ((43 : Nat) : Int) + 7 = ((50 : Nat) : Int) ∧ 43 + 3 = 46 := ⟨by decide +kernel, by decide, rfl⟩
theorem eX6_slack_46 : decode cX6_slack 46 = .ok (.iload_n 2, 1) ∧ 46 + 1 = 47 := ⟨by decide +kernel, rfl⟩
theorem eX6_slack_47 : decode cX6_slack 47 = .ok (.iconst 1, 1) ∧ 47 + 1 = 48 := ⟨by decide +kernel, rfl⟩
theorem eX6_slack_48 : decode cX6_slack 48 = .ok (.isub, 1) ∧ 48 + 1 = 49 := ⟨by decide +kernel, rfl⟩
theorem eX6_slack_49 : decode cX6_slack 49 = .ok (.ireturn, 1) := by decide +kernel
theorem eX6_slack_50 : decode cX6_slack 50 = .ok (.iinc 2 1, 3) ∧ 50 + 3 = 53 := ⟨by decide +kernel, rfl⟩
theorem eX6_slack_53 : decode cX6_slack 53 = .ok (.goto (-41), 3) ∧ ((53 : Nat) : Int) + (-41) = ((12 : Nat) : Int) := ⟨by decide +kernel, by decide⟩
theorem eX6_slack_56 : decode cX6_slack 56 = .ok (.bipush 9, 2) ∧ 56 + 2 = 58 := ⟨by decide +kernel, rfl⟩
theorem eX6_slack_58 : decode cX6_slack 58 = .ok (.ireturn, 1) := by decide +kernel
theorem eX6_mending_0 : decode cX6_mending 0 = .ok (.bipush (-9), 2) ∧ 0 + 2 = 2 := ⟨by decide +kernel, rfl⟩
theorem eX6_mending_2 : decode cX6_mending 2 = .ok (.istore_n 2, 1) ∧ 2 + 1 = 3 := ⟨by decide +kernel, rfl⟩
theorem eX6_mending_3 : decode cX6_mending 3 = .ok (.bipush (-9), 2) ∧ 3 + 2 = 5 := ⟨by decide +kernel, rfl⟩
theorem eX6_mending_5 : decode cX6_mending 5 = .ok (.istore_n 3, 1) ∧ 5 + 1 = 6 := ⟨by decide +kernel, rfl⟩
theorem eX6_mending_6 : decode cX6_mending 6 = .ok (.iconst 0, 1) ∧ 6 + 1 = 7 := ⟨by decide +kernel, rfl⟩
theorem eX6_mending_7 : decode cX6_mending 7 = .ok (.istore 4, 2) ∧ 7 + 2 = 9 := ⟨by decide +kernel, rfl⟩
theorem eX6_mending_9 : decode cX6_mending 9 = .ok (.iload 4, 2) ∧ 9 + 2 = 11 := ⟨by decide +kernel, rfl⟩
theorem eX6_mending_11 : decode cX6_mending 11 = .ok (.iconst 5, 1) ∧ 11 + 1 = 12 := ⟨by decide +kernel, rfl⟩
theorem eX6_mending_12 : decode cX6_mending 12 = .ok (.if_icmp .ge 76, 3) ∧ ((12 : Nat) : Int) + 76 = ((88 : Nat) : Int) ∧ 12 + 3 = 15 := ⟨by decide +kernel, by decide, rfl⟩
theorem eX6_mending_15 : decode cX6_mending 15 = .ok (.aload_n 0, 1) ∧ 15 + 1 = 16 := ⟨by decide +kernel, rfl⟩
theorem eX6_mending_16 : decode cX6_mending 16 = .ok (.getfield 25, 3) ∧ 16 + 3 = 19 := ⟨by decide +kernel, rfl⟩
theorem eX6_mending_19 : decode cX6_mending 19 = .ok (.iconst 3, 1) ∧ 19 + 1 = 20 := ⟨by decide +kernel, rfl⟩
theorem eX6_mending_20 : decode cX6_mending 20 = .ok (.iload 4, 2) ∧ 20 + 2 = 22 := ⟨by decide +kernel, rfl⟩
theorem eX6_mending_22 : decode cX6_mending 22 = .ok (.iadd, 1) ∧ 22 + 1 = 23 := ⟨by decide +kernel, rfl⟩
theorem eX6_mending_23 : decode cX6_mending 23 = .ok (.iaload, 1) ∧ 23 + 1 = 24 := ⟨by decide +kernel, rfl⟩
theorem eX6_mending_24 : decode cX6_mending 24 = .ok (.ifCond .le 58, 3) ∧ ((24 : Nat) : Int) + 58 = ((82 : Nat) : Int) ∧ 24 + 3 = 27 := ⟨by decide +kernel, by decide, rfl⟩
theorem eX6_mending_27 : decode cX6_mending 27 = .ok (.aload_n 0, 1) ∧ 27 + 1 = 28 := ⟨by decide +kernel, rfl⟩
theorem eX6_mending_28 : decode cX6_mending 28 = .ok (.invokevirtual 137, 3) ∧ 28 + 3 = 31 := ⟨by decide +kernel, rfl⟩
theorem eX6_mending_31 : decode cX6_mending 31 = .ok (.aload_n 0, 1) ∧ 31 + 1 = 32 := ⟨by decide +kernel, rfl⟩
theorem eX6_mending_32 : decode cX6_mending 32 = .ok (.getfield 25, 3) ∧ 32 + 3 = 35 := ⟨by decide +kernel, rfl⟩
theorem eX6_mending_35 : decode cX6_mending 35 = .ok (.bipush 11, 2) ∧ 35 + 2 = 37 := ⟨by decide +kernel, rfl⟩
theorem eX6_mending_37 : decode cX6_mending 37 = .ok (.iload 4, 2) ∧ 37 + 2 = 39 := ⟨by decide +kernel, rfl⟩
theorem eX6_mending_39 : decode cX6_mending 39 = .ok (.iadd, 1) ∧ 39 + 1 = 40 := ⟨by decide +kernel, rfl⟩
theorem eX6_mending_40 : decode cX6_mending 40 = .ok (.dup2, 1) ∧ 40 + 1 = 41 := ⟨by decide +kernel, rfl⟩
theorem eX6_mending_41 : decode cX6_mending 41 = .ok (.iaload, 1) ∧ 41 + 1 = 42 := ⟨by decide +kernel, rfl⟩
theorem eX6_mending_42 : decode cX6_mending 42 = .ok (.iconst 1, 1) ∧ 42 + 1 = 43 := ⟨by decide +kernel, rfl⟩
theorem eX6_mending_43 : decode cX6_mending 43 = .ok (.isub, 1) ∧ 43 + 1 = 44 := ⟨by decide +kernel, rfl⟩
theorem eX6_mending_44 : decode cX6_mending 44 = .ok (.iastore, 1) ∧ 44 + 1 = 45 := ⟨by decide +kernel, rfl⟩
theorem eX6_mending_45 : decode cX6_mending 45 = .ok (.aload_n 0, 1) ∧ 45 + 1 = 46 := ⟨by decide +kernel, rfl⟩
theorem eX6_mending_46 : decode cX6_mending 46 = .ok (.iconst 1, 1) ∧ 46 + 1 = 47 := ⟨by decide +kernel, rfl⟩
theorem eX6_mending_47 : decode cX6_mending 47 = .ok (.aload_n 0, 1) ∧ 47 + 1 = 48 := ⟨by decide +kernel, rfl⟩
theorem eX6_mending_48 : decode cX6_mending 48 = .ok (.invokevirtual 141, 3) ∧ 48 + 3 = 51 := ⟨by decide +kernel, rfl⟩
theorem eX6_mending_51 : decode cX6_mending 51 = .ok (.invokevirtual 144, 3) ∧ 51 + 3 = 54 := ⟨by decide +kernel, rfl⟩
theorem eX6_mending_54 : decode cX6_mending 54 = .ok (.istore 5, 2) ∧ 54 + 2 = 56 := ⟨by decide +kernel, rfl⟩
theorem eX6_mending_56 : decode cX6_mending 56 = .ok (.iload 5, 2) ∧ 56 + 2 = 58 := ⟨by decide +kernel, rfl⟩
theorem eX6_mending_58 : decode cX6_mending 58 = .ok (.iload_n 3, 1) ∧ 58 + 1 = 59 := ⟨by decide +kernel, rfl⟩
theorem eX6_mending_59 : decode cX6_mending 59 = .ok (.if_icmp .le 8, 3) ∧ ((59 : Nat) : Int) + 8 = ((67 : Nat) : Int) ∧ 59 + 3 = 62 := ⟨by decide +kernel, by decide, rfl⟩
theorem eX6_mending_62 : decode cX6_mending 62 = .ok (.iload 4, 2) ∧ 62 + 2 = 64 := ⟨by decide +kernel, rfl⟩
theorem eX6_mending_64 : decode cX6_mending 64 = .ok (.goto 4, 3) ∧ ((64 : Nat) : Int) + 4 = ((68 : Nat) : Int) := ⟨by decide +kernel, by decide⟩
theorem eX6_mending_67 : decode cX6_mending 67 = .ok (.iload_n 2, 1) ∧ 67 + 1 = 68 := ⟨by decide +kernel, rfl⟩
theorem eX6_mending_68 : decode cX6_mending 68 = .ok (.istore_n 2, 1) ∧ 68 + 1 = 69 := ⟨by decide +kernel, rfl⟩
theorem eX6_mending_69 : decode cX6_mending 69 = .ok (.iload 5, 2) ∧ 69 + 2 = 71 := ⟨by decide +kernel, rfl⟩
theorem eX6_mending_71 : decode cX6_mending 71 = .ok (.iload_n 3, 1) ∧ 71 + 1 = 72 := ⟨by decide +kernel, rfl⟩
theorem eX6_mending_72 : decode cX6_mending 72 = .ok (.if_icmp .le 8, 3) ∧ ((72 : Nat) : Int) + 8 = ((80 : Nat) : Int) ∧ 72 + 3 = 75 := ⟨by decide +kernel, by decide, rfl⟩
theorem eX6_mending_75 : decode cX6_mending 75 = .ok (.iload 5, 2) ∧ 75 + 2 = 77 := ⟨by decide +kernel, rfl⟩
theorem eX6_mending_77 : decode cX6_mending 77 = .ok (.goto 4, 3) ∧ ((77 : Nat) : Int) + 4 = ((81 : Nat) : Int) := ⟨by decide +kernel, by decide⟩
theorem eX6_mending_80 : decode cX6_mending 80 = .ok (.iload_n 3, 1) ∧ 80 + 1 = 81 := ⟨by decide +kernel, rfl⟩
theorem eX6_mending_81 : decode cX6_mending 81 = .ok (.istore_n 3, 1) ∧ 81 + 1 = 82 := ⟨by decide +kernel, rfl⟩
theorem eX6_mending_82 : decode cX6_mending 82 = .ok (.iinc 4 1, 3) ∧ 82 + 3 = 85 := ⟨by decide +kernel, rfl⟩
theorem eX6_mending_85 : decode cX6_mending 85 = .ok (.goto (-76), 3) ∧ ((85 : Nat) : Int) + (-76) = ((9 : Nat) : Int) := ⟨by decide +kernel, by decide⟩
theorem eX6_mending_88 : decode cX6_mending 88 = .ok (.iload_n 1, 1) ∧ 88 + 1 = 89 := ⟨by decide +kernel, rfl⟩
theorem eX6_mending_89 : decode cX6_mending 89 = .ok (.ifCond .eq 7, 3) ∧ ((89 : Nat) : Int) + 7 = ((96 : Nat) : Int) ∧ 89 + 3 = 92 := ⟨by decide +kernel, by decide, rfl⟩
theorem eX6_mending_92 : decode cX6_mending 92 = .ok (.iload_n 3, 1) ∧ 92 + 1 = 93 := ⟨by decide +kernel, rfl⟩
theorem eX6_mending_93 : decode cX6_mending 93 = .ok (.goto 4, 3) ∧ ((93 : Nat) : Int) + 4 = ((97 : Nat) : Int) := ⟨by decide +kernel, by decide⟩
theorem eX6_mending_96 : decode cX6_mending 96 = .ok (.iload_n 2, 1) ∧ 96 + 1 = 97 := ⟨by decide +kernel, rfl⟩
theorem eX6_mending_97 : decode cX6_mending 97 = .ok (.ireturn, 1) := by decide +kernel
theorem eX6_tenTo_0 : decode cX6_tenTo 0 = .ok (.iconst 1, 1) ∧ 0 + 1 = 1 := ⟨by decide +kernel, rfl⟩
theorem eX6_tenTo_1 : decode cX6_tenTo 1 = .ok (.istore_n 1, 1) ∧ 1 + 1 = 2 := ⟨by decide +kernel, rfl⟩
theorem eX6_tenTo_2 : decode cX6_tenTo 2 = .ok (.iconst 0, 1) ∧ 2 + 1 = 3 := ⟨by decide +kernel, rfl⟩
theorem eX6_tenTo_3 : decode cX6_tenTo 3 = .ok (.istore_n 2, 1) ∧ 3 + 1 = 4 := ⟨by decide +kernel, rfl⟩
theorem eX6_tenTo_4 : decode cX6_tenTo 4 = .ok (.iload_n 2, 1) ∧ 4 + 1 = 5 := ⟨by decide +kernel, rfl⟩
theorem eX6_tenTo_5 : decode cX6_tenTo 5 = .ok (.iload_n 0, 1) ∧ 5 + 1 = 6 := ⟨by decide +kernel, rfl⟩
theorem eX6_tenTo_6 : decode cX6_tenTo 6 = .ok (.if_icmp .ge 14, 3) ∧ ((6 : Nat) : Int) + 14 = ((20 : Nat) : Int) ∧ 6 + 3 = 9 := ⟨by decide +kernel, by decide, rfl⟩
theorem eX6_tenTo_9 : decode cX6_tenTo 9 = .ok (.iload_n 1, 1) ∧ 9 + 1 = 10 := ⟨by decide +kernel, rfl⟩
theorem eX6_tenTo_10 : decode cX6_tenTo 10 = .ok (.bipush 10, 2) ∧ 10 + 2 = 12 := ⟨by decide +kernel, rfl⟩
theorem eX6_tenTo_12 : decode cX6_tenTo 12 = .ok (.imul, 1) ∧ 12 + 1 = 13 := ⟨by decide +kernel, rfl⟩
theorem eX6_tenTo_13 : decode cX6_tenTo 13 = .ok (.istore_n 1, 1) ∧ 13 + 1 = 14 := ⟨by decide +kernel, rfl⟩
theorem eX6_tenTo_14 : decode cX6_tenTo 14 = .ok (.iinc 2 1, 3) ∧ 14 + 3 = 17 := ⟨by decide +kernel, rfl⟩
theorem eX6_tenTo_17 : decode cX6_tenTo 17 = .ok (.goto (-13), 3) ∧ ((17 : Nat) : Int) + (-13) = ((4 : Nat) : Int) := ⟨by decide +kernel, by decide⟩
theorem eX6_tenTo_20 : decode cX6_tenTo 20 = .ok (.iload_n 1, 1) ∧ 20 + 1 = 21 := ⟨by decide +kernel, rfl⟩
theorem eX6_tenTo_21 : decode cX6_tenTo 21 = .ok (.ireturn, 1) := by decide +kernel
theorem eX6_judge_0 : decode cX6_judge 0 = .ok (.iload_n 1, 1) ∧ 0 + 1 = 1 := ⟨by decide +kernel, rfl⟩
theorem eX6_judge_1 : decode cX6_judge 1 = .ok (.i2l, 1) ∧ 1 + 1 = 2 := ⟨by decide +kernel, rfl⟩
theorem eX6_judge_2 : decode cX6_judge 2 = .ok (.lconst 1, 1) ∧ 2 + 1 = 3 := ⟨by decide +kernel, rfl⟩
theorem eX6_judge_3 : decode cX6_judge 3 = .ok (.ldc2_w 155, 3) ∧ 3 + 3 = 6 := ⟨by decide +kernel, rfl⟩
theorem eX6_judge_6 : decode cX6_judge 6 = .ok (.invokestatic 59, 3) ∧ 6 + 3 = 9 := ⟨by decide +kernel, rfl⟩
theorem eX6_judge_9 : decode cX6_judge 9 = .ok (.ifCond .eq 19, 3) ∧ ((9 : Nat) : Int) + 19 = ((28 : Nat) : Int) ∧ 9 + 3 = 12 := ⟨by decide +kernel, by decide, rfl⟩
theorem eX6_judge_12 : decode cX6_judge 12 = .ok (.iload_n 2, 1) ∧ 12 + 1 = 13 := ⟨by decide +kernel, rfl⟩
theorem eX6_judge_13 : decode cX6_judge 13 = .ok (.i2l, 1) ∧ 13 + 1 = 14 := ⟨by decide +kernel, rfl⟩
theorem eX6_judge_14 : decode cX6_judge 14 = .ok (.lconst 0, 1) ∧ 14 + 1 = 15 := ⟨by decide +kernel, rfl⟩
theorem eX6_judge_15 : decode cX6_judge 15 = .ok (.iload_n 1, 1) ∧ 15 + 1 = 16 := ⟨by decide +kernel, rfl⟩
theorem eX6_judge_16 : decode cX6_judge 16 = .ok (.invokestatic 157, 3) ∧ 16 + 3 = 19 := ⟨by decide +kernel, rfl⟩
theorem eX6_judge_19 : decode cX6_judge 19 = .ok (.iconst 1, 1) ∧ 19 + 1 = 20 := ⟨by decide +kernel, rfl⟩
theorem eX6_judge_20 : decode cX6_judge 20 = .ok (.isub, 1) ∧ 20 + 1 = 21 := ⟨by decide +kernel, rfl⟩
theorem eX6_judge_21 : decode cX6_judge 21 = .ok (.i2l, 1) ∧ 21 + 1 = 22 := ⟨by decide +kernel, rfl⟩
theorem eX6_judge_22 : decode cX6_judge 22 = .ok (.invokestatic 59, 3) ∧ 22 + 3 = 25 := ⟨by decide +kernel, rfl⟩
theorem eX6_judge_25 : decode cX6_judge 25 = .ok (.ifCond .ne 6, 3) ∧ ((25 : Nat) : Int) + 6 = ((31 : Nat) : Int) ∧ 25 + 3 = 28 := ⟨by decide +kernel, by decide, rfl⟩
theorem eX6_judge_28 : decode cX6_judge 28 = .ok (.bipush (-2), 2) ∧ 28 + 2 = 30 := ⟨by decide +kernel, rfl⟩
theorem eX6_judge_30 : decode cX6_judge 30 = .ok (.ireturn, 1) := by decide +kernel
theorem eX6_judge_31 : decode cX6_judge 31 = .ok (.aload_n 0, 1) ∧ 31 + 1 = 32 := ⟨by decide +kernel, rfl⟩
theorem eX6_judge_32 : decode cX6_judge 32 = .ok (.invokevirtual 137, 3) ∧ 32 + 3 = 35 := ⟨by decide +kernel, rfl⟩
theorem eX6_judge_35 : decode cX6_judge 35 = .ok (.iconst 0, 1) ∧ 35 + 1 = 36 := ⟨by decide +kernel, rfl⟩
theorem eX6_judge_36 : decode cX6_judge 36 = .ok (.istore_n 3, 1) ∧ 36 + 1 = 37 := ⟨by decide +kernel, rfl⟩
theorem eX6_judge_37 : decode cX6_judge 37 = .ok (.iload_n 3, 1) ∧ 37 + 1 = 38 := ⟨by decide +kernel, rfl⟩
theorem eX6_judge_38 : decode cX6_judge 38 = .ok (.iload_n 1, 1) ∧ 38 + 1 = 39 := ⟨by decide +kernel, rfl⟩
theorem eX6_judge_39 : decode cX6_judge 39 = .ok (.if_icmp .ge 47, 3) ∧ ((39 : Nat) : Int) + 47 = ((86 : Nat) : Int) ∧ 39 + 3 = 42 := ⟨by decide +kernel, by decide, rfl⟩
theorem eX6_judge_42 : decode cX6_judge 42 = .ok (.iload_n 2, 1) ∧ 42 + 1 = 43 := ⟨by decide +kernel, rfl⟩
theorem eX6_judge_43 : decode cX6_judge 43 = .ok (.iload_n 1, 1) ∧ 43 + 1 = 44 := ⟨by decide +kernel, rfl⟩
theorem eX6_judge_44 : decode cX6_judge 44 = .ok (.iconst 1, 1) ∧ 44 + 1 = 45 := ⟨by decide +kernel, rfl⟩
theorem eX6_judge_45 : decode cX6_judge 45 = .ok (.isub, 1) ∧ 45 + 1 = 46 := ⟨by decide +kernel, rfl⟩
theorem eX6_judge_46 : decode cX6_judge 46 = .ok (.iload_n 3, 1) ∧ 46 + 1 = 47 := ⟨by decide +kernel, rfl⟩
theorem eX6_judge_47 : decode cX6_judge 47 = .ok (.isub, 1) ∧ 47 + 1 = 48 := ⟨by decide +kernel, rfl⟩
theorem eX6_judge_48 : decode cX6_judge 48 = .ok (.invokestatic 157, 3) ∧ 48 + 3 = 51 := ⟨by decide +kernel, rfl⟩
theorem eX6_judge_51 : decode cX6_judge 51 = .ok (.idiv, 1) ∧ 51 + 1 = 52 := ⟨by decide +kernel, rfl⟩
theorem eX6_judge_52 : decode cX6_judge 52 = .ok (.bipush 10, 2) ∧ 52 + 2 = 54 := ⟨by decide +kernel, rfl⟩
theorem eX6_judge_54 : decode cX6_judge 54 = .ok (.irem, 1) ∧ 54 + 1 = 55 := ⟨by decide +kernel, rfl⟩
theorem eX6_judge_55 : decode cX6_judge 55 = .ok (.iconst 1, 1) ∧ 55 + 1 = 56 := ⟨by decide +kernel, rfl⟩
theorem eX6_judge_56 : decode cX6_judge 56 = .ok (.isub, 1) ∧ 56 + 1 = 57 := ⟨by decide +kernel, rfl⟩
theorem eX6_judge_57 : decode cX6_judge 57 = .ok (.istore 4, 2) ∧ 57 + 2 = 59 := ⟨by decide +kernel, rfl⟩
theorem eX6_judge_59 : decode cX6_judge 59 = .ok (.aload_n 0, 1) ∧ 59 + 1 = 60 := ⟨by decide +kernel, rfl⟩
theorem eX6_judge_60 : decode cX6_judge 60 = .ok (.iload 4, 2) ∧ 60 + 2 = 62 := ⟨by decide +kernel, rfl⟩
theorem eX6_judge_62 : decode cX6_judge 62 = .ok (.invokevirtual 109, 3) ∧ 62 + 3 = 65 := ⟨by decide +kernel, rfl⟩
theorem eX6_judge_65 : decode cX6_judge 65 = .ok (.ifCond .eq 13, 3) ∧ ((65 : Nat) : Int) + 13 = ((78 : Nat) : Int) ∧ 65 + 3 = 68 := ⟨by decide +kernel, by decide, rfl⟩
theorem eX6_judge_68 : decode cX6_judge 68 = .ok (.aload_n 0, 1) ∧ 68 + 1 = 69 := ⟨by decide +kernel, rfl⟩
theorem eX6_judge_69 : decode cX6_judge 69 = .ok (.iconst 1, 1) ∧ 69 + 1 = 70 := ⟨by decide +kernel, rfl⟩
theorem eX6_judge_70 : decode cX6_judge 70 = .ok (.iload 4, 2) ∧ 70 + 2 = 72 := ⟨by decide +kernel, rfl⟩
theorem eX6_judge_72 : decode cX6_judge 72 = .ok (.invokevirtual 123, 3) ∧ 72 + 3 = 75 := ⟨by decide +kernel, rfl⟩
theorem eX6_judge_75 : decode cX6_judge 75 = .ok (.ifCond .ne 5, 3) ∧ ((75 : Nat) : Int) + 5 = ((80 : Nat) : Int) ∧ 75 + 3 = 78 := ⟨by decide +kernel, by decide, rfl⟩
theorem eX6_judge_78 : decode cX6_judge 78 = .ok (.iload_n 3, 1) ∧ 78 + 1 = 79 := ⟨by decide +kernel, rfl⟩
theorem eX6_judge_79 : decode cX6_judge 79 = .ok (.ireturn, 1) := by decide +kernel
theorem eX6_judge_80 : decode cX6_judge 80 = .ok (.iinc 3 1, 3) ∧ 80 + 3 = 83 := ⟨by decide +kernel, rfl⟩
theorem eX6_judge_83 : decode cX6_judge 83 = .ok (.goto (-46), 3) ∧ ((83 : Nat) : Int) + (-46) = ((37 : Nat) : Int) := ⟨by decide +kernel, by decide⟩
theorem eX6_judge_86 : decode cX6_judge 86 = .ok (.bipush (-9), 2) ∧ 86 + 2 = 88 := ⟨by decide +kernel, rfl⟩
theorem eX6_judge_88 : decode cX6_judge 88 = .ok (.ireturn, 1) := by decide +kernel
theorem eX6_later_0 : decode cX6_later 0 = .ok (.aload_n 0, 1) ∧ 0 + 1 = 1 := ⟨by decide +kernel, rfl⟩
theorem eX6_later_1 : decode cX6_later 1 = .ok (.iload_n 1, 1) ∧ 1 + 1 = 2 := ⟨by decide +kernel, rfl⟩
theorem eX6_later_2 : decode cX6_later 2 = .ok (.invokevirtual 109, 3) ∧ 2 + 3 = 5 := ⟨by decide +kernel, rfl⟩
theorem eX6_later_5 : decode cX6_later 5 = .ok (.ifCond .ne 5, 3) ∧ ((5 : Nat) : Int) + 5 = ((10 : Nat) : Int) ∧ 5 + 3 = 8 := ⟨by decide +kernel, by decide, rfl⟩
theorem eX6_later_8 : decode cX6_later 8 = .ok (.iconst (-1), 1) ∧ 8 + 1 = 9 := ⟨by decide +kernel, rfl⟩
theorem eX6_later_9 : decode cX6_later 9 = .ok (.ireturn, 1) := by decide +kernel
theorem eX6_later_10 : decode cX6_later 10 = .ok (.aload_n 0, 1) ∧ 10 + 1 = 11 := ⟨by decide +kernel, rfl⟩
theorem eX6_later_11 : decode cX6_later 11 = .ok (.getfield 25, 3) ∧ 11 + 3 = 14 := ⟨by decide +kernel, rfl⟩
theorem eX6_later_14 : decode cX6_later 14 = .ok (.iconst 2, 1) ∧ 14 + 1 = 15 := ⟨by decide +kernel, rfl⟩
theorem eX6_later_15 : decode cX6_later 15 = .ok (.iaload, 1) ∧ 15 + 1 = 16 := ⟨by decide +kernel, rfl⟩
theorem eX6_later_16 : decode cX6_later 16 = .ok (.iload_n 1, 1) ∧ 16 + 1 = 17 := ⟨by decide +kernel, rfl⟩
theorem eX6_later_17 : decode cX6_later 17 = .ok (.invokestatic 94, 3) ∧ 17 + 3 = 20 := ⟨by decide +kernel, rfl⟩
theorem eX6_later_20 : decode cX6_later 20 = .ok (.ifCond .eq 6, 3) ∧ ((20 : Nat) : Int) + 6 = ((26 : Nat) : Int) ∧ 20 + 3 = 23 := ⟨by decide +kernel, by decide, rfl⟩
theorem eX6_later_23 : decode cX6_later 23 = .ok (.bipush (-3), 2) ∧ 23 + 2 = 25 := ⟨by decide +kernel, rfl⟩
theorem eX6_later_25 : decode cX6_later 25 = .ok (.ireturn, 1) := by decide +kernel
theorem eX6_later_26 : decode cX6_later 26 = .ok (.bipush (-9), 2) ∧ 26 + 2 = 28 := ⟨by decide +kernel, rfl⟩
theorem eX6_later_28 : decode cX6_later 28 = .ok (.istore_n 2, 1) ∧ 28 + 1 = 29 := ⟨by decide +kernel, rfl⟩
theorem eX6_later_29 : decode cX6_later 29 = .ok (.iconst 0, 1) ∧ 29 + 1 = 30 := ⟨by decide +kernel, rfl⟩
theorem eX6_later_30 : decode cX6_later 30 = .ok (.istore_n 3, 1) ∧ 30 + 1 = 31 := ⟨by decide +kernel, rfl⟩
theorem eX6_later_31 : decode cX6_later 31 = .ok (.iload_n 3, 1) ∧ 31 + 1 = 32 := ⟨by decide +kernel, rfl⟩
theorem eX6_later_32 : decode cX6_later 32 = .ok (.bipush 10, 2) ∧ 32 + 2 = 34 := ⟨by decide +kernel, rfl⟩
theorem eX6_later_34 : decode cX6_later 34 = .ok (.if_icmp .ge 34, 3) ∧ ((34 : Nat) : Int) + 34 = ((68 : Nat) : Int) ∧ 34 + 3 = 37 := ⟨by decide +kernel, by decide, rfl⟩
theorem eX6_later_37 : decode cX6_later 37 = .ok (.aload_n 0, 1) ∧ 37 + 1 = 38 := ⟨by decide +kernel, rfl⟩
theorem eX6_later_38 : decode cX6_later 38 = .ok (.iconst 0, 1) ∧ 38 + 1 = 39 := ⟨by decide +kernel, rfl⟩
theorem eX6_later_39 : decode cX6_later 39 = .ok (.iload_n 1, 1) ∧ 39 + 1 = 40 := ⟨by decide +kernel, rfl⟩
theorem eX6_later_40 : decode cX6_later 40 = .ok (.aload_n 0, 1) ∧ 40 + 1 = 41 := ⟨by decide +kernel, rfl⟩
theorem eX6_later_41 : decode cX6_later 41 = .ok (.getfield 25, 3) ∧ 41 + 3 = 44 := ⟨by decide +kernel, rfl⟩
theorem eX6_later_44 : decode cX6_later 44 = .ok (.iconst 1, 1) ∧ 44 + 1 = 45 := ⟨by decide +kernel, rfl⟩
theorem eX6_later_45 : decode cX6_later 45 = .ok (.iaload, 1) ∧ 45 + 1 = 46 := ⟨by decide +kernel, rfl⟩
theorem eX6_later_46 : decode cX6_later 46 = .ok (.iload_n 3, 1) ∧ 46 + 1 = 47 := ⟨by decide +kernel, rfl⟩
theorem eX6_later_47 : decode cX6_later 47 = .ok (.iconst 0, 1) ∧ 47 + 1 = 48 := ⟨by decide +kernel, rfl⟩
theorem eX6_later_48 : decode cX6_later 48 = .ok (.invokevirtual 98, 3) ∧ 48 + 3 = 51 := ⟨by decide +kernel, rfl⟩
theorem eX6_later_51 : decode cX6_later 51 = .ok (.bipush (-9), 2) ∧ 51 + 2 = 53 := ⟨by decide +kernel, rfl⟩
theorem eX6_later_53 : decode cX6_later 53 = .ok (.if_icmp .eq 7, 3) ∧ ((53 : Nat) : Int) + 7 = ((60 : Nat) : Int) ∧ 53 + 3 = 56 := ⟨by decide +kernel, by decide, rfl⟩
theorem eX6_later_56 : decode cX6_later 56 = .ok (.iload_n 3, 1) ∧ 56 + 1 = 57 := ⟨by decide +kernel, rfl⟩
theorem eX6_later_57 : decode cX6_later 57 = .ok (.goto 4, 3) ∧ ((57 : Nat) : Int) + 4 = ((61 : Nat) : Int) := ⟨by decide +kernel, by decide⟩
theorem eX6_later_60 : decode cX6_later 60 = .ok (.iload_n 2, 1) ∧ 60 + 1 = 61 := ⟨by decide +kernel, rfl⟩
theorem eX6_later_61 : decode cX6_later 61 = .ok (.istore_n 2, 1) ∧ 61 + 1 = 62 := ⟨by decide +kernel, rfl⟩
theorem eX6_later_62 : decode cX6_later 62 = .ok (.iinc 3 1, 3) ∧ 62 + 3 = 65 := ⟨by decide +kernel, rfl⟩
theorem eX6_later_65 : decode cX6_later 65 = .ok (.goto (-34), 3) ∧ ((65 : Nat) : Int) + (-34) = ((31 : Nat) : Int) := ⟨by decide +kernel, by decide⟩
theorem eX6_later_68 : decode cX6_later 68 = .ok (.iload_n 2, 1) ∧ 68 + 1 = 69 := ⟨by decide +kernel, rfl⟩
theorem eX6_later_69 : decode cX6_later 69 = .ok (.ireturn, 1) := by decide +kernel
theorem eX6_see_0 : decode cX6_see 0 = .ok (.iload_n 2, 1) ∧ 0 + 1 = 1 := ⟨by decide +kernel, rfl⟩
theorem eX6_see_1 : decode cX6_see 1 = .ok (.invokestatic 114, 3) ∧ 1 + 3 = 4 := ⟨by decide +kernel, rfl⟩
theorem eX6_see_4 : decode cX6_see 4 = .ok (.ifCond .ne 5, 3) ∧ ((4 : Nat) : Int) + 5 = ((9 : Nat) : Int) ∧ 4 + 3 = 7 := ⟨by decide +kernel, by decide, rfl⟩
theorem eX6_see_7 : decode cX6_see 7 = .ok (.iconst (-1), 1) ∧ 7 + 1 = 8 := ⟨by decide +kernel, rfl⟩
theorem eX6_see_8 : decode cX6_see 8 = .ok (.ireturn, 1) := by decide +kernel
theorem eX6_see_9 : decode cX6_see 9 = .ok (.iload_n 1, 1) ∧ 9 + 1 = 10 := ⟨by decide +kernel, rfl⟩
theorem eX6_see_10 : decode cX6_see 10 = .ok (.i2l, 1) ∧ 10 + 1 = 11 := ⟨by decide +kernel, rfl⟩
theorem eX6_see_11 : decode cX6_see 11 = .ok (.lconst 0, 1) ∧ 11 + 1 = 12 := ⟨by decide +kernel, rfl⟩
theorem eX6_see_12 : decode cX6_see 12 = .ok (.ldc2_w 155, 3) ∧ 12 + 3 = 15 := ⟨by decide +kernel, rfl⟩
theorem eX6_see_15 : decode cX6_see 15 = .ok (.invokestatic 59, 3) ∧ 15 + 3 = 18 := ⟨by decide +kernel, rfl⟩
theorem eX6_see_18 : decode cX6_see 18 = .ok (.ifCond .ne 6, 3) ∧ ((18 : Nat) : Int) + 6 = ((24 : Nat) : Int) ∧ 18 + 3 = 21 := ⟨by decide +kernel, by decide, rfl⟩
theorem eX6_see_21 : decode cX6_see 21 = .ok (.bipush (-2), 2) ∧ 21 + 2 = 23 := ⟨by decide +kernel, rfl⟩
theorem eX6_see_23 : decode cX6_see 23 = .ok (.ireturn, 1) := by decide +kernel
theorem eX6_see_24 : decode cX6_see 24 = .ok (.aload_n 0, 1) ∧ 24 + 1 = 25 := ⟨by decide +kernel, rfl⟩
theorem eX6_see_25 : decode cX6_see 25 = .ok (.getfield 160, 3) ∧ 25 + 3 = 28 := ⟨by decide +kernel, rfl⟩
theorem eX6_see_28 : decode cX6_see 28 = .ok (.bipush 6, 2) ∧ 28 + 2 = 30 := ⟨by decide +kernel, rfl⟩
theorem eX6_see_30 : decode cX6_see 30 = .ok (.if_icmp .ne 6, 3) ∧ ((30 : Nat) : Int) + 6 = ((36 : Nat) : Int) ∧ 30 + 3 = 33 := ⟨by decide +kernel, by decide, rfl⟩
theorem eX6_see_33 : decode cX6_see 33 = .ok (.bipush (-4), 2) ∧ 33 + 2 = 35 := ⟨by decide +kernel, rfl⟩
theorem eX6_see_35 : decode cX6_see 35 = .ok (.ireturn, 1) := by decide +kernel
theorem eX6_see_36 : decode cX6_see 36 = .ok (.aload_n 0, 1) ∧ 36 + 1 = 37 := ⟨by decide +kernel, rfl⟩
theorem eX6_see_37 : decode cX6_see 37 = .ok (.getfield 37, 3) ∧ 37 + 3 = 40 := ⟨by decide +kernel, rfl⟩
theorem eX6_see_40 : decode cX6_see 40 = .ok (.aload_n 0, 1) ∧ 40 + 1 = 41 := ⟨by decide +kernel, rfl⟩
theorem eX6_see_41 : decode cX6_see 41 = .ok (.getfield 160, 3) ∧ 41 + 3 = 44 := ⟨by decide +kernel, rfl⟩
theorem eX6_see_44 : decode cX6_see 44 = .ok (.iload_n 1, 1) ∧ 44 + 1 = 45 := ⟨by decide +kernel, rfl⟩
theorem eX6_see_45 : decode cX6_see 45 = .ok (.iastore, 1) ∧ 45 + 1 = 46 := ⟨by decide +kernel, rfl⟩
theorem eX6_see_46 : decode cX6_see 46 = .ok (.aload_n 0, 1) ∧ 46 + 1 = 47 := ⟨by decide +kernel, rfl⟩
theorem eX6_see_47 : decode cX6_see 47 = .ok (.getfield 40, 3) ∧ 47 + 3 = 50 := ⟨by decide +kernel, rfl⟩
theorem eX6_see_50 : decode cX6_see 50 = .ok (.aload_n 0, 1) ∧ 50 + 1 = 51 := ⟨by decide +kernel, rfl⟩
theorem eX6_see_51 : decode cX6_see 51 = .ok (.getfield 160, 3) ∧ 51 + 3 = 54 := ⟨by decide +kernel, rfl⟩
theorem eX6_see_54 : decode cX6_see 54 = .ok (.iload_n 2, 1) ∧ 54 + 1 = 55 := ⟨by decide +kernel, rfl⟩
theorem eX6_see_55 : decode cX6_see 55 = .ok (.iastore, 1) ∧ 55 + 1 = 56 := ⟨by decide +kernel, rfl⟩
theorem eX6_see_56 : decode cX6_see 56 = .ok (.aload_n 0, 1) ∧ 56 + 1 = 57 := ⟨by decide +kernel, rfl⟩
theorem eX6_see_57 : decode cX6_see 57 = .ok (.dup, 1) ∧ 57 + 1 = 58 := ⟨by decide +kernel, rfl⟩
theorem eX6_see_58 : decode cX6_see 58 = .ok (.getfield 160, 3) ∧ 58 + 3 = 61 := ⟨by decide +kernel, rfl⟩
theorem eX6_see_61 : decode cX6_see 61 = .ok (.iconst 1, 1) ∧ 61 + 1 = 62 := ⟨by decide +kernel, rfl⟩
theorem eX6_see_62 : decode cX6_see 62 = .ok (.iadd, 1) ∧ 62 + 1 = 63 := ⟨by decide +kernel, rfl⟩
theorem eX6_see_63 : decode cX6_see 63 = .ok (.putfield 160, 3) ∧ 63 + 3 = 66 := ⟨by decide +kernel, rfl⟩
theorem eX6_see_66 : decode cX6_see 66 = .ok (.aload_n 0, 1) ∧ 66 + 1 = 67 := ⟨by decide +kernel, rfl⟩
theorem eX6_see_67 : decode cX6_see 67 = .ok (.getfield 160, 3) ∧ 67 + 3 = 70 := ⟨by decide +kernel, rfl⟩
theorem eX6_see_70 : decode cX6_see 70 = .ok (.ireturn, 1) := by decide +kernel
theorem eX6_unsee_0 : decode cX6_unsee 0 = .ok (.aload_n 0, 1) ∧ 0 + 1 = 1 := ⟨by decide +kernel, rfl⟩
theorem eX6_unsee_1 : decode cX6_unsee 1 = .ok (.getfield 160, 3) ∧ 1 + 3 = 4 := ⟨by decide +kernel, rfl⟩
theorem eX6_unsee_4 : decode cX6_unsee 4 = .ok (.istore_n 1, 1) ∧ 4 + 1 = 5 := ⟨by decide +kernel, rfl⟩
theorem eX6_unsee_5 : decode cX6_unsee 5 = .ok (.aload_n 0, 1) ∧ 5 + 1 = 6 := ⟨by decide +kernel, rfl⟩
theorem eX6_unsee_6 : decode cX6_unsee 6 = .ok (.iconst 0, 1) ∧ 6 + 1 = 7 := ⟨by decide +kernel, rfl⟩
theorem eX6_unsee_7 : decode cX6_unsee 7 = .ok (.putfield 160, 3) ∧ 7 + 3 = 10 := ⟨by decide +kernel, rfl⟩
theorem eX6_unsee_10 : decode cX6_unsee 10 = .ok (.iload_n 1, 1) ∧ 10 + 1 = 11 := ⟨by decide +kernel, rfl⟩
theorem eX6_unsee_11 : decode cX6_unsee 11 = .ok (.ireturn, 1) := by decide +kernel
theorem eX6_isSeen_0 : decode cX6_isSeen 0 = .ok (.iconst 1, 1) ∧ 0 + 1 = 1 := ⟨by decide +kernel, rfl⟩
theorem eX6_isSeen_1 : decode cX6_isSeen 1 = .ok (.istore_n 2, 1) ∧ 1 + 1 = 2 := ⟨by decide +kernel, rfl⟩
theorem eX6_isSeen_2 : decode cX6_isSeen 2 = .ok (.iconst 0, 1) ∧ 2 + 1 = 3 := ⟨by decide +kernel, rfl⟩
theorem eX6_isSeen_3 : decode cX6_isSeen 3 = .ok (.istore_n 3, 1) ∧ 3 + 1 = 4 := ⟨by decide +kernel, rfl⟩
theorem eX6_isSeen_4 : decode cX6_isSeen 4 = .ok (.iload_n 3, 1) ∧ 4 + 1 = 5 := ⟨by decide +kernel, rfl⟩
theorem eX6_isSeen_5 : decode cX6_isSeen 5 = .ok (.aload_n 0, 1) ∧ 5 + 1 = 6 := ⟨by decide +kernel, rfl⟩
theorem eX6_isSeen_6 : decode cX6_isSeen 6 = .ok (.getfield 160, 3) ∧ 6 + 3 = 9 := ⟨by decide +kernel, rfl⟩
theorem eX6_isSeen_9 : decode cX6_isSeen 9 = .ok (.if_icmp .ge 45, 3) ∧ ((9 : Nat) : Int) + 45 = ((54 : Nat) : Int) ∧ 9 + 3 = 12 := ⟨by decide +kernel, by decide, rfl⟩
theorem eX6_isSeen_12 : decode cX6_isSeen 12 = .ok (.iload_n 2, 1) ∧ 12 + 1 = 13 := ⟨by decide +kernel, rfl⟩
theorem eX6_isSeen_13 : decode cX6_isSeen 13 = .ok (.ifCond .eq 33, 3) ∧ ((13 : Nat) : Int) + 33 = ((46 : Nat) : Int) ∧ 13 + 3 = 16 := ⟨by decide +kernel, by decide, rfl⟩
theorem eX6_isSeen_16 : decode cX6_isSeen 16 = .ok (.aload_n 0, 1) ∧ 16 + 1 = 17 := ⟨by decide +kernel, rfl⟩
theorem eX6_isSeen_17 : decode cX6_isSeen 17 = .ok (.getfield 37, 3) ∧ 17 + 3 = 20 := ⟨by decide +kernel, rfl⟩
theorem eX6_isSeen_20 : decode cX6_isSeen 20 = .ok (.iload_n 3, 1) ∧ 20 + 1 = 21 := ⟨by decide +kernel, rfl⟩
theorem eX6_isSeen_21 : decode cX6_isSeen 21 = .ok (.iaload, 1) ∧ 21 + 1 = 22 := ⟨by decide +kernel, rfl⟩
theorem eX6_isSeen_22 : decode cX6_isSeen 22 = .ok (.iload_n 1, 1) ∧ 22 + 1 = 23 := ⟨by decide +kernel, rfl⟩
theorem eX6_isSeen_23 : decode cX6_isSeen 23 = .ok (.if_icmp .ne 19, 3) ∧ ((23 : Nat) : Int) + 19 = ((42 : Nat) : Int) ∧ 23 + 3 = 26 := ⟨by decide +kernel, by decide, rfl⟩
theorem eX6_isSeen_26 : decode cX6_isSeen 26 = .ok (.aload_n 0, 1) ∧ 26 + 1 = 27 := ⟨by decide +kernel, rfl⟩
theorem eX6_isSeen_27 : decode cX6_isSeen 27 = .ok (.getfield 25, 3) ∧ 27 + 3 = 30 := ⟨by decide +kernel, rfl⟩
theorem eX6_isSeen_30 : decode cX6_isSeen 30 = .ok (.bipush 9, 2) ∧ 30 + 2 = 32 := ⟨by decide +kernel, rfl⟩
theorem eX6_isSeen_32 : decode cX6_isSeen 32 = .ok (.iaload, 1) ∧ 32 + 1 = 33 := ⟨by decide +kernel, rfl⟩
theorem eX6_isSeen_33 : decode cX6_isSeen 33 = .ok (.aload_n 0, 1) ∧ 33 + 1 = 34 := ⟨by decide +kernel, rfl⟩
theorem eX6_isSeen_34 : decode cX6_isSeen 34 = .ok (.getfield 40, 3) ∧ 34 + 3 = 37 := ⟨by decide +kernel, rfl⟩
theorem eX6_isSeen_37 : decode cX6_isSeen 37 = .ok (.iload_n 3, 1) ∧ 37 + 1 = 38 := ⟨by decide +kernel, rfl⟩
theorem eX6_isSeen_38 : decode cX6_isSeen 38 = .ok (.iaload, 1) ∧ 38 + 1 = 39 := ⟨by decide +kernel, rfl⟩
theorem eX6_isSeen_39 : decode cX6_isSeen 39 = .ok (.if_icmp .ne 7, 3) ∧ ((39 : Nat) : Int) + 7 = ((46 : Nat) : Int) ∧ 39 + 3 = 42 := ⟨by decide +kernel, by decide, rfl⟩
theorem eX6_isSeen_42 : decode cX6_isSeen 42 = .ok (.iconst 1, 1) ∧ 42 + 1 = 43 := ⟨by decide +kernel, rfl⟩
theorem eX6_isSeen_43 : decode cX6_isSeen 43 = .ok (.goto 4, 3) ∧ ((43 : Nat) : Int) + 4 = ((47 : Nat) : Int) := ⟨by decide +kernel, by decide⟩
theorem eX6_isSeen_46 : decode cX6_isSeen 46 = .ok (.iconst 0, 1) ∧ 46 + 1 = 47 := ⟨by decide +kernel, rfl⟩
theorem eX6_isSeen_47 : decode cX6_isSeen 47 = .ok (.istore_n 2, 1) ∧ 47 + 1 = 48 := ⟨by decide +kernel, rfl⟩
theorem eX6_isSeen_48 : decode cX6_isSeen 48 = .ok (.iinc 3 1, 3) ∧ 48 + 3 = 51 := ⟨by decide +kernel, rfl⟩
theorem eX6_isSeen_51 : decode cX6_isSeen 51 = .ok (.goto (-47), 3) ∧ ((51 : Nat) : Int) + (-47) = ((4 : Nat) : Int) := ⟨by decide +kernel, by decide⟩
theorem eX6_isSeen_54 : decode cX6_isSeen 54 = .ok (.iload_n 2, 1) ∧ 54 + 1 = 55 := ⟨by decide +kernel, rfl⟩
theorem eX6_isSeen_55 : decode cX6_isSeen 55 = .ok (.ireturn, 1) := by decide +kernel
theorem eX6_rowsOf_0 : decode cX6_rowsOf 0 = .ok (.iconst 1, 1) ∧ 0 + 1 = 1 := ⟨by decide +kernel, rfl⟩
theorem eX6_rowsOf_1 : decode cX6_rowsOf 1 = .ok (.istore_n 2, 1) ∧ 1 + 1 = 2 := ⟨by decide +kernel, rfl⟩
theorem eX6_rowsOf_2 : decode cX6_rowsOf 2 = .ok (.iconst 0, 1) ∧ 2 + 1 = 3 := ⟨by decide +kernel, rfl⟩
theorem eX6_rowsOf_3 : decode cX6_rowsOf 3 = .ok (.istore_n 3, 1) ∧ 3 + 1 = 4 := ⟨by decide +kernel, rfl⟩
theorem eX6_rowsOf_4 : decode cX6_rowsOf 4 = .ok (.iload_n 3, 1) ∧ 4 + 1 = 5 := ⟨by decide +kernel, rfl⟩
theorem eX6_rowsOf_5 : decode cX6_rowsOf 5 = .ok (.iload_n 1, 1) ∧ 5 + 1 = 6 := ⟨by decide +kernel, rfl⟩
theorem eX6_rowsOf_6 : decode cX6_rowsOf 6 = .ok (.if_icmp .ge 15, 3) ∧ ((6 : Nat) : Int) + 15 = ((21 : Nat) : Int) ∧ 6 + 3 = 9 := ⟨by decide +kernel, by decide, rfl⟩
theorem eX6_rowsOf_9 : decode cX6_rowsOf 9 = .ok (.iload_n 2, 1) ∧ 9 + 1 = 10 := ⟨by decide +kernel, rfl⟩
theorem eX6_rowsOf_10 : decode cX6_rowsOf 10 = .ok (.iload_n 0, 1) ∧ 10 + 1 = 11 := ⟨by decide +kernel, rfl⟩
theorem eX6_rowsOf_11 : decode cX6_rowsOf 11 = .ok (.iload_n 3, 1) ∧ 11 + 1 = 12 := ⟨by decide +kernel, rfl⟩
theorem eX6_rowsOf_12 : decode cX6_rowsOf 12 = .ok (.isub, 1) ∧ 12 + 1 = 13 := ⟨by decide +kernel, rfl⟩
theorem eX6_rowsOf_13 : decode cX6_rowsOf 13 = .ok (.imul, 1) ∧ 13 + 1 = 14 := ⟨by decide +kernel, rfl⟩
theorem eX6_rowsOf_14 : decode cX6_rowsOf 14 = .ok (.istore_n 2, 1) ∧ 14 + 1 = 15 := ⟨by decide +kernel, rfl⟩
theorem eX6_rowsOf_15 : decode cX6_rowsOf 15 = .ok (.iinc 3 1, 3) ∧ 15 + 3 = 18 := ⟨by decide +kernel, rfl⟩
theorem eX6_rowsOf_18 : decode cX6_rowsOf 18 = .ok (.goto (-14), 3) ∧ ((18 : Nat) : Int) + (-14) = ((4 : Nat) : Int) := ⟨by decide +kernel, by decide⟩
theorem eX6_rowsOf_21 : decode cX6_rowsOf 21 = .ok (.iload_n 2, 1) ∧ 21 + 1 = 22 := ⟨by decide +kernel, rfl⟩
theorem eX6_rowsOf_22 : decode cX6_rowsOf 22 = .ok (.ireturn, 1) := by decide +kernel
theorem eX6_rowBy_0 : decode cX6_rowBy 0 = .ok (.aload_n 0, 1) ∧ 0 + 1 = 1 := ⟨by decide +kernel, rfl⟩
theorem eX6_rowBy_1 : decode cX6_rowBy 1 = .ok (.invokevirtual 137, 3) ∧ 1 + 3 = 4 := ⟨by decide +kernel, rfl⟩
theorem eX6_rowBy_4 : decode cX6_rowBy 4 = .ok (.aload_n 0, 1) ∧ 4 + 1 = 5 := ⟨by decide +kernel, rfl⟩
theorem eX6_rowBy_5 : decode cX6_rowBy 5 = .ok (.invokevirtual 141, 3) ∧ 5 + 3 = 8 := ⟨by decide +kernel, rfl⟩
theorem eX6_rowBy_8 : decode cX6_rowBy 8 = .ok (.aload_n 0, 1) ∧ 8 + 1 = 9 := ⟨by decide +kernel, rfl⟩
theorem eX6_rowBy_9 : decode cX6_rowBy 9 = .ok (.getfield 25, 3) ∧ 9 + 3 = 12 := ⟨by decide +kernel, rfl⟩
theorem eX6_rowBy_12 : decode cX6_rowBy 12 = .ok (.iconst 2, 1) ∧ 12 + 1 = 13 := ⟨by decide +kernel, rfl⟩
theorem eX6_rowBy_13 : decode cX6_rowBy 13 = .ok (.iaload, 1) ∧ 13 + 1 = 14 := ⟨by decide +kernel, rfl⟩
theorem eX6_rowBy_14 : decode cX6_rowBy 14 = .ok (.iconst (-1), 1) ∧ 14 + 1 = 15 := ⟨by decide +kernel, rfl⟩
theorem eX6_rowBy_15 : decode cX6_rowBy 15 = .ok (.ixor, 1) ∧ 15 + 1 = 16 := ⟨by decide +kernel, rfl⟩
theorem eX6_rowBy_16 : decode cX6_rowBy 16 = .ok (.iand, 1) ∧ 16 + 1 = 17 := ⟨by decide +kernel, rfl⟩
theorem eX6_rowBy_17 : decode cX6_rowBy 17 = .ok (.istore_n 3, 1) ∧ 17 + 1 = 18 := ⟨by decide +kernel, rfl⟩
theorem eX6_rowBy_18 : decode cX6_rowBy 18 = .ok (.iload_n 3, 1) ∧ 18 + 1 = 19 := ⟨by decide +kernel, rfl⟩
theorem eX6_rowBy_19 : decode cX6_rowBy 19 = .ok (.invokestatic 130, 3) ∧ 19 + 3 = 22 := ⟨by decide +kernel, rfl⟩
theorem eX6_rowBy_22 : decode cX6_rowBy 22 = .ok (.istore 4, 2) ∧ 22 + 2 = 24 := ⟨by decide +kernel, rfl⟩
theorem eX6_rowBy_24 : decode cX6_rowBy 24 = .ok (.iload_n 1, 1) ∧ 24 + 1 = 25 := ⟨by decide +kernel, rfl⟩
theorem eX6_rowBy_25 : decode cX6_rowBy 25 = .ok (.istore 5, 2) ∧ 25 + 2 = 27 := ⟨by decide +kernel, rfl⟩
theorem eX6_rowBy_27 : decode cX6_rowBy 27 = .ok (.iconst 0, 1) ∧ 27 + 1 = 28 := ⟨by decide +kernel, rfl⟩
theorem eX6_rowBy_28 : decode cX6_rowBy 28 = .ok (.istore 6, 2) ∧ 28 + 2 = 30 := ⟨by decide +kernel, rfl⟩
theorem eX6_rowBy_30 : decode cX6_rowBy 30 = .ok (.aload_n 0, 1) ∧ 30 + 1 = 31 := ⟨by decide +kernel, rfl⟩
theorem eX6_rowBy_31 : decode cX6_rowBy 31 = .ok (.iconst 0, 1) ∧ 31 + 1 = 32 := ⟨by decide +kernel, rfl⟩
theorem eX6_rowBy_32 : decode cX6_rowBy 32 = .ok (.invokevirtual 163, 3) ∧ 32 + 3 = 35 := ⟨by decide +kernel, rfl⟩
theorem eX6_rowBy_35 : decode cX6_rowBy 35 = .ok (.istore 7, 2) ∧ 35 + 2 = 37 := ⟨by decide +kernel, rfl⟩
theorem eX6_rowBy_37 : decode cX6_rowBy 37 = .ok (.iconst 0, 1) ∧ 37 + 1 = 38 := ⟨by decide +kernel, rfl⟩
theorem eX6_rowBy_38 : decode cX6_rowBy 38 = .ok (.istore 8, 2) ∧ 38 + 2 = 40 := ⟨by decide +kernel, rfl⟩
theorem eX6_rowBy_40 : decode cX6_rowBy 40 = .ok (.iload 8, 2) ∧ 40 + 2 = 42 := ⟨by decide +kernel, rfl⟩
theorem eX6_rowBy_42 : decode cX6_rowBy 42 = .ok (.iload_n 2, 1) ∧ 42 + 1 = 43 := ⟨by decide +kernel, rfl⟩
theorem eX6_rowBy_43 : decode cX6_rowBy 43 = .ok (.if_icmp .ge 156, 3) ∧ ((43 : Nat) : Int) + 156 = ((199 : Nat) : Int) ∧ 43 + 3 = 46 := ⟨by decide +kernel, by decide, rfl⟩
theorem eX6_rowBy_46 : decode cX6_rowBy 46 = .ok (.iload 7, 2) ∧ 46 + 2 = 48 := ⟨by decide +kernel, rfl⟩
theorem eX6_rowBy_48 : decode cX6_rowBy 48 = .ok (.ifCond .eq 151, 3) ∧ ((48 : Nat) : Int) + 151 = ((199 : Nat) : Int) ∧ 48 + 3 = 51 := ⟨by decide +kernel, by decide, rfl⟩
theorem eX6_rowBy_51 : decode cX6_rowBy 51 = .ok (.iload 4, 2) ∧ 51 + 2 = 53 := ⟨by decide +kernel, rfl⟩
theorem eX6_rowBy_53 : decode cX6_rowBy 53 = .ok (.iconst 1, 1) ∧ 53 + 1 = 54 := ⟨by decide +kernel, rfl⟩
theorem eX6_rowBy_54 : decode cX6_rowBy 54 = .ok (.isub, 1) ∧ 54 + 1 = 55 := ⟨by decide +kernel, rfl⟩
theorem eX6_rowBy_55 : decode cX6_rowBy 55 = .ok (.iload 8, 2) ∧ 55 + 2 = 57 := ⟨by decide +kernel, rfl⟩
theorem eX6_rowBy_57 : decode cX6_rowBy 57 = .ok (.isub, 1) ∧ 57 + 1 = 58 := ⟨by decide +kernel, rfl⟩
theorem eX6_rowBy_58 : decode cX6_rowBy 58 = .ok (.iload_n 2, 1) ∧ 58 + 1 = 59 := ⟨by decide +kernel, rfl⟩
theorem eX6_rowBy_59 : decode cX6_rowBy 59 = .ok (.iconst 1, 1) ∧ 59 + 1 = 60 := ⟨by decide +kernel, rfl⟩
theorem eX6_rowBy_60 : decode cX6_rowBy 60 = .ok (.isub, 1) ∧ 60 + 1 = 61 := ⟨by decide +kernel, rfl⟩
theorem eX6_rowBy_61 : decode cX6_rowBy 61 = .ok (.iload 8, 2) ∧ 61 + 2 = 63 := ⟨by decide +kernel, rfl⟩
theorem eX6_rowBy_63 : decode cX6_rowBy 63 = .ok (.isub, 1) ∧ 63 + 1 = 64 := ⟨by decide +kernel, rfl⟩
theorem eX6_rowBy_64 : decode cX6_rowBy 64 = .ok (.invokestatic 166, 3) ∧ 64 + 3 = 67 := ⟨by decide +kernel, rfl⟩
theorem eX6_rowBy_67 : decode cX6_rowBy 67 = .ok (.istore 9, 2) ∧ 67 + 2 = 69 := ⟨by decide +kernel, rfl⟩
theorem eX6_rowBy_69 : decode cX6_rowBy 69 = .ok (.iload 5, 2) ∧ 69 + 2 = 71 := ⟨by decide +kernel, rfl⟩
theorem eX6_rowBy_71 : decode cX6_rowBy 71 = .ok (.iload 9, 2) ∧ 71 + 2 = 73 := ⟨by decide +kernel, rfl⟩
theorem eX6_rowBy_73 : decode cX6_rowBy 73 = .ok (.idiv, 1) ∧ 73 + 1 = 74 := ⟨by decide +kernel, rfl⟩
theorem eX6_rowBy_74 : decode cX6_rowBy 74 = .ok (.istore 10, 2) ∧ 74 + 2 = 76 := ⟨by decide +kernel, rfl⟩
theorem eX6_rowBy_76 : decode cX6_rowBy 76 = .ok (.iload 5, 2) ∧ 76 + 2 = 78 := ⟨by decide +kernel, rfl⟩
theorem eX6_rowBy_78 : decode cX6_rowBy 78 = .ok (.iload 9, 2) ∧ 78 + 2 = 80 := ⟨by decide +kernel, rfl⟩
theorem eX6_rowBy_80 : decode cX6_rowBy 80 = .ok (.irem, 1) ∧ 80 + 1 = 81 := ⟨by decide +kernel, rfl⟩
theorem eX6_rowBy_81 : decode cX6_rowBy 81 = .ok (.istore 5, 2) ∧ 81 + 2 = 83 := ⟨by decide +kernel, rfl⟩
theorem eX6_rowBy_83 : decode cX6_rowBy 83 = .ok (.bipush (-9), 2) ∧ 83 + 2 = 85 := ⟨by decide +kernel, rfl⟩
theorem eX6_rowBy_85 : decode cX6_rowBy 85 = .ok (.istore 11, 2) ∧ 85 + 2 = 87 := ⟨by decide +kernel, rfl⟩
theorem eX6_rowBy_87 : decode cX6_rowBy 87 = .ok (.iconst 0, 1) ∧ 87 + 1 = 88 := ⟨by decide +kernel, rfl⟩
theorem eX6_rowBy_88 : decode cX6_rowBy 88 = .ok (.istore 12, 2) ∧ 88 + 2 = 90 := ⟨by decide +kernel, rfl⟩
theorem eX6_rowBy_90 : decode cX6_rowBy 90 = .ok (.iload 12, 2) ∧ 90 + 2 = 92 := ⟨by decide +kernel, rfl⟩
theorem eX6_rowBy_92 : decode cX6_rowBy 92 = .ok (.aload_n 0, 1) ∧ 92 + 1 = 93 := ⟨by decide +kernel, rfl⟩
theorem eX6_rowBy_93 : decode cX6_rowBy 93 = .ok (.getfield 80, 3) ∧ 93 + 3 = 96 := ⟨by decide +kernel, rfl⟩
theorem eX6_rowBy_96 : decode cX6_rowBy 96 = .ok (.if_icmp .ge 51, 3) ∧ ((96 : Nat) : Int) + 51 = ((147 : Nat) : Int) ∧ 96 + 3 = 99 := ⟨by decide +kernel, by decide, rfl⟩
theorem eX6_rowBy_99 : decode cX6_rowBy 99 = .ok (.iload_n 3, 1) ∧ 99 + 1 = 100 := ⟨by decide +kernel, rfl⟩
theorem eX6_rowBy_100 : decode cX6_rowBy 100 = .ok (.iload 12, 2) ∧ 100 + 2 = 102 := ⟨by decide +kernel, rfl⟩
theorem eX6_rowBy_102 : decode cX6_rowBy 102 = .ok (.invokestatic 94, 3) ∧ 102 + 3 = 105 := ⟨by decide +kernel, rfl⟩
theorem eX6_rowBy_105 : decode cX6_rowBy 105 = .ok (.ifCond .eq 13, 3) ∧ ((105 : Nat) : Int) + 13 = ((118 : Nat) : Int) ∧ 105 + 3 = 108 := ⟨by decide +kernel, by decide, rfl⟩
theorem eX6_rowBy_108 : decode cX6_rowBy 108 = .ok (.iload 10, 2) ∧ 108 + 2 = 110 := ⟨by decide +kernel, rfl⟩
theorem eX6_rowBy_110 : decode cX6_rowBy 110 = .ok (.ifCond .ne 8, 3) ∧ ((110 : Nat) : Int) + 8 = ((118 : Nat) : Int) ∧ 110 + 3 = 113 := ⟨by decide +kernel, by decide, rfl⟩
theorem eX6_rowBy_113 : decode cX6_rowBy 113 = .ok (.iload 12, 2) ∧ 113 + 2 = 115 := ⟨by decide +kernel, rfl⟩
theorem eX6_rowBy_115 : decode cX6_rowBy 115 = .ok (.goto 5, 3) ∧ ((115 : Nat) : Int) + 5 = ((120 : Nat) : Int) := ⟨by decide +kernel, by decide⟩
theorem eX6_rowBy_118 : decode cX6_rowBy 118 = .ok (.iload 11, 2) ∧ 118 + 2 = 120 := ⟨by decide +kernel, rfl⟩
theorem eX6_rowBy_120 : decode cX6_rowBy 120 = .ok (.istore 11, 2) ∧ 120 + 2 = 122 := ⟨by decide +kernel, rfl⟩
theorem eX6_rowBy_122 : decode cX6_rowBy 122 = .ok (.iload 10, 2) ∧ 122 + 2 = 124 := ⟨by decide +kernel, rfl⟩
theorem eX6_rowBy_124 : decode cX6_rowBy 124 = .ok (.iload_n 3, 1) ∧ 124 + 1 = 125 := ⟨by decide +kernel, rfl⟩
theorem eX6_rowBy_125 : decode cX6_rowBy 125 = .ok (.iload 12, 2) ∧ 125 + 2 = 127 := ⟨by decide +kernel, rfl⟩
theorem eX6_rowBy_127 : decode cX6_rowBy 127 = .ok (.invokestatic 94, 3) ∧ 127 + 3 = 130 := ⟨by decide +kernel, rfl⟩
theorem eX6_rowBy_130 : decode cX6_rowBy 130 = .ok (.ifCond .eq 7, 3) ∧ ((130 : Nat) : Int) + 7 = ((137 : Nat) : Int) ∧ 130 + 3 = 133 := ⟨by decide +kernel, by decide, rfl⟩
theorem eX6_rowBy_133 : decode cX6_rowBy 133 = .ok (.iconst 1, 1) ∧ 133 + 1 = 134 := ⟨by decide +kernel, rfl⟩
theorem eX6_rowBy_134 : decode cX6_rowBy 134 = .ok (.goto 4, 3) ∧ ((134 : Nat) : Int) + 4 = ((138 : Nat) : Int) := ⟨by decide +kernel, by decide⟩
theorem eX6_rowBy_137 : decode cX6_rowBy 137 = .ok (.iconst 0, 1) ∧ 137 + 1 = 138 := ⟨by decide +kernel, rfl⟩
theorem eX6_rowBy_138 : decode cX6_rowBy 138 = .ok (.isub, 1) ∧ 138 + 1 = 139 := ⟨by decide +kernel, rfl⟩
theorem eX6_rowBy_139 : decode cX6_rowBy 139 = .ok (.istore 10, 2) ∧ 139 + 2 = 141 := ⟨by decide +kernel, rfl⟩
theorem eX6_rowBy_141 : decode cX6_rowBy 141 = .ok (.iinc 12 1, 3) ∧ 141 + 3 = 144 := ⟨by decide +kernel, rfl⟩
theorem eX6_rowBy_144 : decode cX6_rowBy 144 = .ok (.goto (-54), 3) ∧ ((144 : Nat) : Int) + (-54) = ((90 : Nat) : Int) := ⟨by decide +kernel, by decide⟩
theorem eX6_rowBy_147 : decode cX6_rowBy 147 = .ok (.iload_n 3, 1) ∧ 147 + 1 = 148 := ⟨by decide +kernel, rfl⟩
theorem eX6_rowBy_148 : decode cX6_rowBy 148 = .ok (.iconst 1, 1) ∧ 148 + 1 = 149 := ⟨by decide +kernel, rfl⟩
theorem eX6_rowBy_149 : decode cX6_rowBy 149 = .ok (.iload 11, 2) ∧ 149 + 2 = 151 := ⟨by decide +kernel, rfl⟩
theorem eX6_rowBy_151 : decode cX6_rowBy 151 = .ok (.ishl, 1) ∧ 151 + 1 = 152 := ⟨by decide +kernel, rfl⟩
theorem eX6_rowBy_152 : decode cX6_rowBy 152 = .ok (.iconst (-1), 1) ∧ 152 + 1 = 153 := ⟨by decide +kernel, rfl⟩
theorem eX6_rowBy_153 : decode cX6_rowBy 153 = .ok (.ixor, 1) ∧ 153 + 1 = 154 := ⟨by decide +kernel, rfl⟩
theorem eX6_rowBy_154 : decode cX6_rowBy 154 = .ok (.iand, 1) ∧ 154 + 1 = 155 := ⟨by decide +kernel, rfl⟩
theorem eX6_rowBy_155 : decode cX6_rowBy 155 = .ok (.istore_n 3, 1) ∧ 155 + 1 = 156 := ⟨by decide +kernel, rfl⟩
theorem eX6_rowBy_156 : decode cX6_rowBy 156 = .ok (.iload 6, 2) ∧ 156 + 2 = 158 := ⟨by decide +kernel, rfl⟩
theorem eX6_rowBy_158 : decode cX6_rowBy 158 = .ok (.iconst 1, 1) ∧ 158 + 1 = 159 := ⟨by decide +kernel, rfl⟩
theorem eX6_rowBy_159 : decode cX6_rowBy 159 = .ok (.iload 11, 2) ∧ 159 + 2 = 161 := ⟨by decide +kernel, rfl⟩
theorem eX6_rowBy_161 : decode cX6_rowBy 161 = .ok (.ishl, 1) ∧ 161 + 1 = 162 := ⟨by decide +kernel, rfl⟩
theorem eX6_rowBy_162 : decode cX6_rowBy 162 = .ok (.ior, 1) ∧ 162 + 1 = 163 := ⟨by decide +kernel, rfl⟩
theorem eX6_rowBy_163 : decode cX6_rowBy 163 = .ok (.istore 6, 2) ∧ 163 + 2 = 165 := ⟨by decide +kernel, rfl⟩
theorem eX6_rowBy_165 : decode cX6_rowBy 165 = .ok (.aload_n 0, 1) ∧ 165 + 1 = 166 := ⟨by decide +kernel, rfl⟩
theorem eX6_rowBy_166 : decode cX6_rowBy 166 = .ok (.iconst 1, 1) ∧ 166 + 1 = 167 := ⟨by decide +kernel, rfl⟩
theorem eX6_rowBy_167 : decode cX6_rowBy 167 = .ok (.iload 11, 2) ∧ 167 + 2 = 169 := ⟨by decide +kernel, rfl⟩
theorem eX6_rowBy_169 : decode cX6_rowBy 169 = .ok (.invokevirtual 123, 3) ∧ 169 + 3 = 172 := ⟨by decide +kernel, rfl⟩
theorem eX6_rowBy_172 : decode cX6_rowBy 172 = .ok (.ifCond .eq 18, 3) ∧ ((172 : Nat) : Int) + 18 = ((190 : Nat) : Int) ∧ 172 + 3 = 175 := ⟨by decide +kernel, by decide, rfl⟩
theorem eX6_rowBy_175 : decode cX6_rowBy 175 = .ok (.aload_n 0, 1) ∧ 175 + 1 = 176 := ⟨by decide +kernel, rfl⟩
theorem eX6_rowBy_176 : decode cX6_rowBy 176 = .ok (.iload 8, 2) ∧ 176 + 2 = 178 := ⟨by decide +kernel, rfl⟩
theorem eX6_rowBy_178 : decode cX6_rowBy 178 = .ok (.iconst 1, 1) ∧ 178 + 1 = 179 := ⟨by decide +kernel, rfl⟩
theorem eX6_rowBy_179 : decode cX6_rowBy 179 = .ok (.iadd, 1) ∧ 179 + 1 = 180 := ⟨by decide +kernel, rfl⟩
theorem eX6_rowBy_180 : decode cX6_rowBy 180 = .ok (.invokevirtual 163, 3) ∧ 180 + 3 = 183 := ⟨by decide +kernel, rfl⟩
theorem eX6_rowBy_183 : decode cX6_rowBy 183 = .ok (.ifCond .eq 7, 3) ∧ ((183 : Nat) : Int) + 7 = ((190 : Nat) : Int) ∧ 183 + 3 = 186 := ⟨by decide +kernel, by decide, rfl⟩
theorem eX6_rowBy_186 : decode cX6_rowBy 186 = .ok (.iconst 1, 1) ∧ 186 + 1 = 187 := ⟨by decide +kernel, rfl⟩
theorem eX6_rowBy_187 : decode cX6_rowBy 187 = .ok (.goto 4, 3) ∧ ((187 : Nat) : Int) + 4 = ((191 : Nat) : Int) := ⟨by decide +kernel, by decide⟩
theorem eX6_rowBy_190 : decode cX6_rowBy 190 = .ok (.iconst 0, 1) ∧ 190 + 1 = 191 := ⟨by decide +kernel, rfl⟩
theorem eX6_rowBy_191 : decode cX6_rowBy 191 = .ok (.istore 7, 2) ∧ 191 + 2 = 193 := ⟨by decide +kernel, rfl⟩
theorem eX6_rowBy_193 : decode cX6_rowBy 193 = .ok (.iinc 8 1, 3) ∧ 193 + 3 = 196 := ⟨by decide +kernel, rfl⟩
theorem eX6_rowBy_196 : decode cX6_rowBy 196 = .ok (.goto (-156), 3) ∧ ((196 : Nat) : Int) + (-156) = ((40 : Nat) : Int) := ⟨by decide +kernel, by decide⟩
theorem eX6_rowBy_199 : decode cX6_rowBy 199 = .ok (.iload 7, 2) ∧ 199 + 2 = 201 := ⟨by decide +kernel, rfl⟩
theorem eX6_rowBy_201 : decode cX6_rowBy 201 = .ok (.ifCond .eq 8, 3) ∧ ((201 : Nat) : Int) + 8 = ((209 : Nat) : Int) ∧ 201 + 3 = 204 := ⟨by decide +kernel, by decide, rfl⟩
theorem eX6_rowBy_204 : decode cX6_rowBy 204 = .ok (.iload 6, 2) ∧ 204 + 2 = 206 := ⟨by decide +kernel, rfl⟩
theorem eX6_rowBy_206 : decode cX6_rowBy 206 = .ok (.goto 5, 3) ∧ ((206 : Nat) : Int) + 5 = ((211 : Nat) : Int) := ⟨by decide +kernel, by decide⟩
theorem eX6_rowBy_209 : decode cX6_rowBy 209 = .ok (.bipush (-9), 2) ∧ 209 + 2 = 211 := ⟨by decide +kernel, rfl⟩
theorem eX6_rowBy_211 : decode cX6_rowBy 211 = .ok (.ireturn, 1) := by decide +kernel
theorem eX6_rows_0 : decode cX6_rows 0 = .ok (.iload_n 1, 1) ∧ 0 + 1 = 1 := ⟨by decide +kernel, rfl⟩
theorem eX6_rows_1 : decode cX6_rows 1 = .ok (.i2l, 1) ∧ 1 + 1 = 2 := ⟨by decide +kernel, rfl⟩
theorem eX6_rows_2 : decode cX6_rows 2 = .ok (.lconst 0, 1) ∧ 2 + 1 = 3 := ⟨by decide +kernel, rfl⟩
theorem eX6_rows_3 : decode cX6_rows 3 = .ok (.ldc2_w 155, 3) ∧ 3 + 3 = 6 := ⟨by decide +kernel, rfl⟩
theorem eX6_rows_6 : decode cX6_rows 6 = .ok (.invokestatic 59, 3) ∧ 6 + 3 = 9 := ⟨by decide +kernel, rfl⟩
theorem eX6_rows_9 : decode cX6_rows 9 = .ok (.ifCond .eq 15, 3) ∧ ((9 : Nat) : Int) + 15 = ((24 : Nat) : Int) ∧ 9 + 3 = 12 := ⟨by decide +kernel, by decide, rfl⟩
theorem eX6_rows_12 : decode cX6_rows 12 = .ok (.iload_n 2, 1) ∧ 12 + 1 = 13 := ⟨by decide +kernel, rfl⟩
theorem eX6_rows_13 : decode cX6_rows 13 = .ok (.i2l, 1) ∧ 13 + 1 = 14 := ⟨by decide +kernel, rfl⟩
theorem eX6_rows_14 : decode cX6_rows 14 = .ok (.lconst 0, 1) ∧ 14 + 1 = 15 := ⟨by decide +kernel, rfl⟩
theorem eX6_rows_15 : decode cX6_rows 15 = .ok (.ldc2_w 147, 3) ∧ 15 + 3 = 18 := ⟨by decide +kernel, rfl⟩
theorem eX6_rows_18 : decode cX6_rows 18 = .ok (.invokestatic 59, 3) ∧ 18 + 3 = 21 := ⟨by decide +kernel, rfl⟩
theorem eX6_rows_21 : decode cX6_rows 21 = .ok (.ifCond .ne 6, 3) ∧ ((21 : Nat) : Int) + 6 = ((27 : Nat) : Int) ∧ 21 + 3 = 24 := ⟨by decide +kernel, by decide, rfl⟩
theorem eX6_rows_24 : decode cX6_rows 24 = .ok (.bipush (-2), 2) ∧ 24 + 2 = 26 := ⟨by decide +kernel, rfl⟩
theorem eX6_rows_26 : decode cX6_rows 26 = .ok (.ireturn, 1) := by decide +kernel
theorem eX6_rows_27 : decode cX6_rows 27 = .ok (.aload_n 0, 1) ∧ 27 + 1 = 28 := ⟨by decide +kernel, rfl⟩
theorem eX6_rows_28 : decode cX6_rows 28 = .ok (.invokevirtual 141, 3) ∧ 28 + 3 = 31 := ⟨by decide +kernel, rfl⟩
theorem eX6_rows_31 : decode cX6_rows 31 = .ok (.aload_n 0, 1) ∧ 31 + 1 = 32 := ⟨by decide +kernel, rfl⟩
theorem eX6_rows_32 : decode cX6_rows 32 = .ok (.getfield 25, 3) ∧ 32 + 3 = 35 := ⟨by decide +kernel, rfl⟩
theorem eX6_rows_35 : decode cX6_rows 35 = .ok (.iconst 2, 1) ∧ 35 + 1 = 36 := ⟨by decide +kernel, rfl⟩
theorem eX6_rows_36 : decode cX6_rows 36 = .ok (.iaload, 1) ∧ 36 + 1 = 37 := ⟨by decide +kernel, rfl⟩
theorem eX6_rows_37 : decode cX6_rows 37 = .ok (.iconst (-1), 1) ∧ 37 + 1 = 38 := ⟨by decide +kernel, rfl⟩
theorem eX6_rows_38 : decode cX6_rows 38 = .ok (.ixor, 1) ∧ 38 + 1 = 39 := ⟨by decide +kernel, rfl⟩
theorem eX6_rows_39 : decode cX6_rows 39 = .ok (.iand, 1) ∧ 39 + 1 = 40 := ⟨by decide +kernel, rfl⟩
theorem eX6_rows_40 : decode cX6_rows 40 = .ok (.invokestatic 130, 3) ∧ 40 + 3 = 43 := ⟨by decide +kernel, rfl⟩
theorem eX6_rows_43 : decode cX6_rows 43 = .ok (.istore_n 3, 1) ∧ 43 + 1 = 44 := ⟨by decide +kernel, rfl⟩
theorem eX6_rows_44 : decode cX6_rows 44 = .ok (.iconst 0, 1) ∧ 44 + 1 = 45 := ⟨by decide +kernel, rfl⟩
theorem eX6_rows_45 : decode cX6_rows 45 = .ok (.istore 4, 2) ∧ 45 + 2 = 47 := ⟨by decide +kernel, rfl⟩
theorem eX6_rows_47 : decode cX6_rows 47 = .ok (.aload_n 0, 1) ∧ 47 + 1 = 48 := ⟨by decide +kernel, rfl⟩
theorem eX6_rows_48 : decode cX6_rows 48 = .ok (.invokevirtual 141, 3) ∧ 48 + 3 = 51 := ⟨by decide +kernel, rfl⟩
theorem eX6_rows_51 : decode cX6_rows 51 = .ok (.istore 5, 2) ∧ 51 + 2 = 53 := ⟨by decide +kernel, rfl⟩
theorem eX6_rows_53 : decode cX6_rows 53 = .ok (.iconst 0, 1) ∧ 53 + 1 = 54 := ⟨by decide +kernel, rfl⟩
theorem eX6_rows_54 : decode cX6_rows 54 = .ok (.istore 6, 2) ∧ 54 + 2 = 56 := ⟨by decide +kernel, rfl⟩
theorem eX6_rows_56 : decode cX6_rows 56 = .ok (.iconst 0, 1) ∧ 56 + 1 = 57 := ⟨by decide +kernel, rfl⟩
theorem eX6_rows_57 : decode cX6_rows 57 = .ok (.istore 7, 2) ∧ 57 + 2 = 59 := ⟨by decide +kernel, rfl⟩
theorem eX6_rows_59 : decode cX6_rows 59 = .ok (.iload 7, 2) ∧ 59 + 2 = 61 := ⟨by decide +kernel, rfl⟩
theorem eX6_rows_61 : decode cX6_rows 61 = .ok (.iload_n 3, 1) ∧ 61 + 1 = 62 := ⟨by decide +kernel, rfl⟩
theorem eX6_rows_62 : decode cX6_rows 62 = .ok (.iload_n 1, 1) ∧ 62 + 1 = 63 := ⟨by decide +kernel, rfl⟩
theorem eX6_rows_63 : decode cX6_rows 63 = .ok (.invokestatic 166, 3) ∧ 63 + 3 = 66 := ⟨by decide +kernel, rfl⟩
theorem eX6_rows_66 : decode cX6_rows 66 = .ok (.if_icmp .ge 47, 3) ∧ ((66 : Nat) : Int) + 47 = ((113 : Nat) : Int) ∧ 66 + 3 = 69 := ⟨by decide +kernel, by decide, rfl⟩
theorem eX6_rows_69 : decode cX6_rows 69 = .ok (.iload_n 1, 1) ∧ 69 + 1 = 70 := ⟨by decide +kernel, rfl⟩
theorem eX6_rows_70 : decode cX6_rows 70 = .ok (.iload_n 3, 1) ∧ 70 + 1 = 71 := ⟨by decide +kernel, rfl⟩
theorem eX6_rows_71 : decode cX6_rows 71 = .ok (.if_icmp .gt 42, 3) ∧ ((71 : Nat) : Int) + 42 = ((113 : Nat) : Int) ∧ 71 + 3 = 74 := ⟨by decide +kernel, by decide, rfl⟩
theorem eX6_rows_74 : decode cX6_rows 74 = .ok (.aload_n 0, 1) ∧ 74 + 1 = 75 := ⟨by decide +kernel, rfl⟩
theorem eX6_rows_75 : decode cX6_rows 75 = .ok (.iload 7, 2) ∧ 75 + 2 = 77 := ⟨by decide +kernel, rfl⟩
theorem eX6_rows_77 : decode cX6_rows 77 = .ok (.iload_n 1, 1) ∧ 77 + 1 = 78 := ⟨by decide +kernel, rfl⟩
theorem eX6_rows_78 : decode cX6_rows 78 = .ok (.invokevirtual 169, 3) ∧ 78 + 3 = 81 := ⟨by decide +kernel, rfl⟩
theorem eX6_rows_81 : decode cX6_rows 81 = .ok (.istore 8, 2) ∧ 81 + 2 = 83 := ⟨by decide +kernel, rfl⟩
theorem eX6_rows_83 : decode cX6_rows 83 = .ok (.iload 8, 2) ∧ 83 + 2 = 85 := ⟨by decide +kernel, rfl⟩
theorem eX6_rows_85 : decode cX6_rows 85 = .ok (.bipush (-9), 2) ∧ 85 + 2 = 87 := ⟨by decide +kernel, rfl⟩
theorem eX6_rows_87 : decode cX6_rows 87 = .ok (.if_icmp .eq 20, 3) ∧ ((87 : Nat) : Int) + 20 = ((107 : Nat) : Int) ∧ 87 + 3 = 90 := ⟨by decide +kernel, by decide, rfl⟩
theorem eX6_rows_90 : decode cX6_rows 90 = .ok (.iinc 4 1, 3) ∧ 90 + 3 = 93 := ⟨by decide +kernel, rfl⟩
theorem eX6_rows_93 : decode cX6_rows 93 = .ok (.iload 5, 2) ∧ 93 + 2 = 95 := ⟨by decide +kernel, rfl⟩
theorem eX6_rows_95 : decode cX6_rows 95 = .ok (.iload 8, 2) ∧ 95 + 2 = 97 := ⟨by decide +kernel, rfl⟩
theorem eX6_rows_97 : decode cX6_rows 97 = .ok (.iand, 1) ∧ 97 + 1 = 98 := ⟨by decide +kernel, rfl⟩
theorem eX6_rows_98 : decode cX6_rows 98 = .ok (.istore 5, 2) ∧ 98 + 2 = 100 := ⟨by decide +kernel, rfl⟩
theorem eX6_rows_100 : decode cX6_rows 100 = .ok (.iload 6, 2) ∧ 100 + 2 = 102 := ⟨by decide +kernel, rfl⟩
theorem eX6_rows_102 : decode cX6_rows 102 = .ok (.iload 8, 2) ∧ 102 + 2 = 104 := ⟨by decide +kernel, rfl⟩
theorem eX6_rows_104 : decode cX6_rows 104 = .ok (.ior, 1) ∧ 104 + 1 = 105 := ⟨by decide +kernel, rfl⟩
theorem eX6_rows_105 : decode cX6_rows 105 = .ok (.istore 6, 2) ∧ 105 + 2 = 107 := ⟨by decide +kernel, rfl⟩
theorem eX6_rows_107 : decode cX6_rows 107 = .ok (.iinc 7 1, 3) ∧ 107 + 3 = 110 := ⟨by decide +kernel, rfl⟩
theorem eX6_rows_110 : decode cX6_rows 110 = .ok (.goto (-51), 3) ∧ ((110 : Nat) : Int) + (-51) = ((59 : Nat) : Int) := ⟨by decide +kernel, by decide⟩
theorem eX6_rows_113 : decode cX6_rows 113 = .ok (.iload_n 2, 1) ∧ 113 + 1 = 114 := ⟨by decide +kernel, rfl⟩
theorem eX6_rows_114 : decode cX6_rows 114 = .ok (.ifCond .ne 8, 3) ∧ ((114 : Nat) : Int) + 8 = ((122 : Nat) : Int) ∧ 114 + 3 = 117 := ⟨by decide +kernel, by decide, rfl⟩
theorem eX6_rows_117 : decode cX6_rows 117 = .ok (.iload 4, 2) ∧ 117 + 2 = 119 := ⟨by decide +kernel, rfl⟩
theorem eX6_rows_119 : decode cX6_rows 119 = .ok (.goto 32, 3) ∧ ((119 : Nat) : Int) + 32 = ((151 : Nat) : Int) := ⟨by decide +kernel, by decide⟩
theorem eX6_rows_122 : decode cX6_rows 122 = .ok (.iload 4, 2) ∧ 122 + 2 = 124 := ⟨by decide +kernel, rfl⟩
theorem eX6_rows_124 : decode cX6_rows 124 = .ok (.ifCond .ne 8, 3) ∧ ((124 : Nat) : Int) + 8 = ((132 : Nat) : Int) ∧ 124 + 3 = 127 := ⟨by decide +kernel, by decide, rfl⟩
theorem eX6_rows_127 : decode cX6_rows 127 = .ok (.bipush (-9), 2) ∧ 127 + 2 = 129 := ⟨by decide +kernel, rfl⟩
theorem eX6_rows_129 : decode cX6_rows 129 = .ok (.goto 22, 3) ∧ ((129 : Nat) : Int) + 22 = ((151 : Nat) : Int) := ⟨by decide +kernel, by decide⟩
theorem eX6_rows_132 : decode cX6_rows 132 = .ok (.iload_n 2, 1) ∧ 132 + 1 = 133 := ⟨by decide +kernel, rfl⟩
theorem eX6_rows_133 : decode cX6_rows 133 = .ok (.iconst 1, 1) ∧ 133 + 1 = 134 := ⟨by decide +kernel, rfl⟩
theorem eX6_rows_134 : decode cX6_rows 134 = .ok (.if_icmp .ne 8, 3) ∧ ((134 : Nat) : Int) + 8 = ((142 : Nat) : Int) ∧ 134 + 3 = 137 := ⟨by decide +kernel, by decide, rfl⟩
theorem eX6_rows_137 : decode cX6_rows 137 = .ok (.iload 5, 2) ∧ 137 + 2 = 139 := ⟨by decide +kernel, rfl⟩
theorem eX6_rows_139 : decode cX6_rows 139 = .ok (.goto 12, 3) ∧ ((139 : Nat) : Int) + 12 = ((151 : Nat) : Int) := ⟨by decide +kernel, by decide⟩
theorem eX6_rows_142 : decode cX6_rows 142 = .ok (.aload_n 0, 1) ∧ 142 + 1 = 143 := ⟨by decide +kernel, rfl⟩
theorem eX6_rows_143 : decode cX6_rows 143 = .ok (.invokevirtual 141, 3) ∧ 143 + 3 = 146 := ⟨by decide +kernel, rfl⟩
theorem eX6_rows_146 : decode cX6_rows 146 = .ok (.iload 6, 2) ∧ 146 + 2 = 148 := ⟨by decide +kernel, rfl⟩
theorem eX6_rows_148 : decode cX6_rows 148 = .ok (.iconst (-1), 1) ∧ 148 + 1 = 149 := ⟨by decide +kernel, rfl⟩
theorem eX6_rows_149 : decode cX6_rows 149 = .ok (.ixor, 1) ∧ 149 + 1 = 150 := ⟨by decide +kernel, rfl⟩
theorem eX6_rows_150 : decode cX6_rows 150 = .ok (.iand, 1) ∧ 150 + 1 = 151 := ⟨by decide +kernel, rfl⟩
theorem eX6_rows_151 : decode cX6_rows 151 = .ok (.ireturn, 1) := by decide +kernel
theorem eX6_factorial_0 : decode cX6_factorial 0 = .ok (.iconst 1, 1) ∧ 0 + 1 = 1 := ⟨by decide +kernel, rfl⟩
theorem eX6_factorial_1 : decode cX6_factorial 1 = .ok (.istore_n 1, 1) ∧ 1 + 1 = 2 := ⟨by decide +kernel, rfl⟩
theorem eX6_factorial_2 : decode cX6_factorial 2 = .ok (.iconst 2, 1) ∧ 2 + 1 = 3 := ⟨by decide +kernel, rfl⟩
theorem eX6_factorial_3 : decode cX6_factorial 3 = .ok (.istore_n 2, 1) ∧ 3 + 1 = 4 := ⟨by decide +kernel, rfl⟩
theorem eX6_factorial_4 : decode cX6_factorial 4 = .ok (.iload_n 2, 1) ∧ 4 + 1 = 5 := ⟨by decide +kernel, rfl⟩
theorem eX6_factorial_5 : decode cX6_factorial 5 = .ok (.iload_n 0, 1) ∧ 5 + 1 = 6 := ⟨by decide +kernel, rfl⟩
theorem eX6_factorial_6 : decode cX6_factorial 6 = .ok (.if_icmp .gt 13, 3) ∧ ((6 : Nat) : Int) + 13 = ((19 : Nat) : Int) ∧ 6 + 3 = 9 := ⟨by decide +kernel, by decide, rfl⟩
theorem eX6_factorial_9 : decode cX6_factorial 9 = .ok (.iload_n 1, 1) ∧ 9 + 1 = 10 := ⟨by decide +kernel, rfl⟩
theorem eX6_factorial_10 : decode cX6_factorial 10 = .ok (.iload_n 2, 1) ∧ 10 + 1 = 11 := ⟨by decide +kernel, rfl⟩
theorem eX6_factorial_11 : decode cX6_factorial 11 = .ok (.imul, 1) ∧ 11 + 1 = 12 := ⟨by decide +kernel, rfl⟩
theorem eX6_factorial_12 : decode cX6_factorial 12 = .ok (.istore_n 1, 1) ∧ 12 + 1 = 13 := ⟨by decide +kernel, rfl⟩
theorem eX6_factorial_13 : decode cX6_factorial 13 = .ok (.iinc 2 1, 3) ∧ 13 + 3 = 16 := ⟨by decide +kernel, rfl⟩
theorem eX6_factorial_16 : decode cX6_factorial 16 = .ok (.goto (-12), 3) ∧ ((16 : Nat) : Int) + (-12) = ((4 : Nat) : Int) := ⟨by decide +kernel, by decide⟩
theorem eX6_factorial_19 : decode cX6_factorial 19 = .ok (.iload_n 1, 1) ∧ 19 + 1 = 20 := ⟨by decide +kernel, rfl⟩
theorem eX6_factorial_20 : decode cX6_factorial 20 = .ok (.ireturn, 1) := by decide +kernel
theorem eX6_common_0 : decode cX6_common 0 = .ok (.iload_n 0, 1) ∧ 0 + 1 = 1 := ⟨by decide +kernel, rfl⟩
theorem eX6_common_1 : decode cX6_common 1 = .ok (.ifCond .ge 8, 3) ∧ ((1 : Nat) : Int) + 8 = ((9 : Nat) : Int) ∧ 1 + 3 = 4 := ⟨by decide +kernel, by decide, rfl⟩
theorem eX6_common_4 : decode cX6_common 4 = .ok (.iload_n 0, 1) ∧ 4 + 1 = 5 := ⟨by decide +kernel, rfl⟩
theorem eX6_common_5 : decode cX6_common 5 = .ok (.ineg, 1) ∧ 5 + 1 = 6 := ⟨by decide +kernel, rfl⟩
theorem eX6_common_6 : decode cX6_common 6 = .ok (.goto 4, 3) ∧ ((6 : Nat) : Int) + 4 = ((10 : Nat) : Int) := ⟨by decide +kernel, by decide⟩
theorem eX6_common_9 : decode cX6_common 9 = .ok (.iload_n 0, 1) ∧ 9 + 1 = 10 := ⟨by decide +kernel, rfl⟩
theorem eX6_common_10 : decode cX6_common 10 = .ok (.istore_n 2, 1) ∧ 10 + 1 = 11 := ⟨by decide +kernel, rfl⟩
theorem eX6_common_11 : decode cX6_common 11 = .ok (.iload_n 1, 1) ∧ 11 + 1 = 12 := ⟨by decide +kernel, rfl⟩
theorem eX6_common_12 : decode cX6_common 12 = .ok (.istore_n 3, 1) ∧ 12 + 1 = 13 := ⟨by decide +kernel, rfl⟩
theorem eX6_common_13 : decode cX6_common 13 = .ok (.iload_n 3, 1) ∧ 13 + 1 = 14 := ⟨by decide +kernel, rfl⟩
theorem eX6_common_14 : decode cX6_common 14 = .ok (.ifCond .eq 16, 3) ∧ ((14 : Nat) : Int) + 16 = ((30 : Nat) : Int) ∧ 14 + 3 = 17 := ⟨by decide +kernel, by decide, rfl⟩
theorem eX6_common_17 : decode cX6_common 17 = .ok (.iload_n 2, 1) ∧ 17 + 1 = 18 := ⟨by decide +kernel, rfl⟩
theorem eX6_common_18 : decode cX6_common 18 = .ok (.iload_n 3, 1) ∧ 18 + 1 = 19 := ⟨by decide +kernel, rfl⟩
theorem eX6_common_19 : decode cX6_common 19 = .ok (.irem, 1) ∧ 19 + 1 = 20 := ⟨by decide +kernel, rfl⟩
theorem eX6_common_20 : decode cX6_common 20 = .ok (.istore 4, 2) ∧ 20 + 2 = 22 := ⟨by decide +kernel, rfl⟩
theorem eX6_common_22 : decode cX6_common 22 = .ok (.iload_n 3, 1) ∧ 22 + 1 = 23 := ⟨by decide +kernel, rfl⟩
theorem eX6_common_23 : decode cX6_common 23 = .ok (.istore_n 2, 1) ∧ 23 + 1 = 24 := ⟨by decide +kernel, rfl⟩
theorem eX6_common_24 : decode cX6_common 24 = .ok (.iload 4, 2) ∧ 24 + 2 = 26 := ⟨by decide +kernel, rfl⟩
theorem eX6_common_26 : decode cX6_common 26 = .ok (.istore_n 3, 1) ∧ 26 + 1 = 27 := ⟨by decide +kernel, rfl⟩
theorem eX6_common_27 : decode cX6_common 27 = .ok (.goto (-14), 3) ∧ ((27 : Nat) : Int) + (-14) = ((13 : Nat) : Int) := ⟨by decide +kernel, by decide⟩
theorem eX6_common_30 : decode cX6_common 30 = .ok (.iload_n 2, 1) ∧ 30 + 1 = 31 := ⟨by decide +kernel, rfl⟩
theorem eX6_common_31 : decode cX6_common 31 = .ok (.ireturn, 1) := by decide +kernel
theorem eX6_share_0 : decode cX6_share 0 = .ok (.aload_n 0, 1) ∧ 0 + 1 = 1 := ⟨by decide +kernel, rfl⟩
theorem eX6_share_1 : decode cX6_share 1 = .ok (.iload_n 1, 1) ∧ 1 + 1 = 2 := ⟨by decide +kernel, rfl⟩
theorem eX6_share_2 : decode cX6_share 2 = .ok (.invokevirtual 109, 3) ∧ 2 + 3 = 5 := ⟨by decide +kernel, rfl⟩
theorem eX6_share_5 : decode cX6_share 5 = .ok (.ifCond .ne 5, 3) ∧ ((5 : Nat) : Int) + 5 = ((10 : Nat) : Int) ∧ 5 + 3 = 8 := ⟨by decide +kernel, by decide, rfl⟩
theorem eX6_share_8 : decode cX6_share 8 = .ok (.iconst (-1), 1) ∧ 8 + 1 = 9 := ⟨by decide +kernel, rfl⟩
theorem eX6_share_9 : decode cX6_share 9 = .ok (.ireturn, 1) := by decide +kernel
theorem eX6_share_10 : decode cX6_share 10 = .ok (.aload_n 0, 1) ∧ 10 + 1 = 11 := ⟨by decide +kernel, rfl⟩
theorem eX6_share_11 : decode cX6_share 11 = .ok (.invokevirtual 141, 3) ∧ 11 + 3 = 14 := ⟨by decide +kernel, rfl⟩
theorem eX6_share_14 : decode cX6_share 14 = .ok (.aload_n 0, 1) ∧ 14 + 1 = 15 := ⟨by decide +kernel, rfl⟩
theorem eX6_share_15 : decode cX6_share 15 = .ok (.getfield 25, 3) ∧ 15 + 3 = 18 := ⟨by decide +kernel, rfl⟩
theorem eX6_share_18 : decode cX6_share 18 = .ok (.iconst 2, 1) ∧ 18 + 1 = 19 := ⟨by decide +kernel, rfl⟩
theorem eX6_share_19 : decode cX6_share 19 = .ok (.iaload, 1) ∧ 19 + 1 = 20 := ⟨by decide +kernel, rfl⟩
theorem eX6_share_20 : decode cX6_share 20 = .ok (.iconst (-1), 1) ∧ 20 + 1 = 21 := ⟨by decide +kernel, rfl⟩
theorem eX6_share_21 : decode cX6_share 21 = .ok (.ixor, 1) ∧ 21 + 1 = 22 := ⟨by decide +kernel, rfl⟩
theorem eX6_share_22 : decode cX6_share 22 = .ok (.iand, 1) ∧ 22 + 1 = 23 := ⟨by decide +kernel, rfl⟩
theorem eX6_share_23 : decode cX6_share 23 = .ok (.istore_n 3, 1) ∧ 23 + 1 = 24 := ⟨by decide +kernel, rfl⟩
theorem eX6_share_24 : decode cX6_share 24 = .ok (.iload_n 3, 1) ∧ 24 + 1 = 25 := ⟨by decide +kernel, rfl⟩
theorem eX6_share_25 : decode cX6_share 25 = .ok (.iload_n 1, 1) ∧ 25 + 1 = 26 := ⟨by decide +kernel, rfl⟩
theorem eX6_share_26 : decode cX6_share 26 = .ok (.invokestatic 94, 3) ∧ 26 + 3 = 29 := ⟨by decide +kernel, rfl⟩
theorem eX6_share_29 : decode cX6_share 29 = .ok (.ifCond .ne 13, 3) ∧ ((29 : Nat) : Int) + 13 = ((42 : Nat) : Int) ∧ 29 + 3 = 32 := ⟨by decide +kernel, by decide, rfl⟩
theorem eX6_share_32 : decode cX6_share 32 = .ok (.iload_n 2, 1) ∧ 32 + 1 = 33 := ⟨by decide +kernel, rfl⟩
theorem eX6_share_33 : decode cX6_share 33 = .ok (.ifCond .eq 7, 3) ∧ ((33 : Nat) : Int) + 7 = ((40 : Nat) : Int) ∧ 33 + 3 = 36 := ⟨by decide +kernel, by decide, rfl⟩
theorem eX6_share_36 : decode cX6_share 36 = .ok (.iconst 0, 1) ∧ 36 + 1 = 37 := ⟨by decide +kernel, rfl⟩
theorem eX6_share_37 : decode cX6_share 37 = .ok (.goto 4, 3) ∧ ((37 : Nat) : Int) + 4 = ((41 : Nat) : Int) := ⟨by decide +kernel, by decide⟩
theorem eX6_share_40 : decode cX6_share 40 = .ok (.iconst 1, 1) ∧ 40 + 1 = 41 := ⟨by decide +kernel, rfl⟩
theorem eX6_share_41 : decode cX6_share 41 = .ok (.ireturn, 1) := by decide +kernel
theorem eX6_share_42 : decode cX6_share 42 = .ok (.iconst 0, 1) ∧ 42 + 1 = 43 := ⟨by decide +kernel, rfl⟩
theorem eX6_share_43 : decode cX6_share 43 = .ok (.istore 4, 2) ∧ 43 + 2 = 45 := ⟨by decide +kernel, rfl⟩
theorem eX6_share_45 : decode cX6_share 45 = .ok (.iload 4, 2) ∧ 45 + 2 = 47 := ⟨by decide +kernel, rfl⟩
theorem eX6_share_47 : decode cX6_share 47 = .ok (.iload_n 3, 1) ∧ 47 + 1 = 48 := ⟨by decide +kernel, rfl⟩
theorem eX6_share_48 : decode cX6_share 48 = .ok (.if_icmp .gt 36, 3) ∧ ((48 : Nat) : Int) + 36 = ((84 : Nat) : Int) ∧ 48 + 3 = 51 := ⟨by decide +kernel, by decide, rfl⟩
theorem eX6_share_51 : decode cX6_share 51 = .ok (.aload_n 0, 1) ∧ 51 + 1 = 52 := ⟨by decide +kernel, rfl⟩
theorem eX6_share_52 : decode cX6_share 52 = .ok (.getfield 43, 3) ∧ 52 + 3 = 55 := ⟨by decide +kernel, rfl⟩
theorem eX6_share_55 : decode cX6_share 55 = .ok (.iload 4, 2) ∧ 55 + 2 = 57 := ⟨by decide +kernel, rfl⟩
theorem eX6_share_57 : decode cX6_share 57 = .ok (.iload 4, 2) ∧ 57 + 2 = 59 := ⟨by decide +kernel, rfl⟩
theorem eX6_share_59 : decode cX6_share 59 = .ok (.iload_n 3, 1) ∧ 59 + 1 = 60 := ⟨by decide +kernel, rfl⟩
theorem eX6_share_60 : decode cX6_share 60 = .ok (.iconst (-1), 1) ∧ 60 + 1 = 61 := ⟨by decide +kernel, rfl⟩
theorem eX6_share_61 : decode cX6_share 61 = .ok (.ixor, 1) ∧ 61 + 1 = 62 := ⟨by decide +kernel, rfl⟩
theorem eX6_share_62 : decode cX6_share 62 = .ok (.iand, 1) ∧ 62 + 1 = 63 := ⟨by decide +kernel, rfl⟩
theorem eX6_share_63 : decode cX6_share 63 = .ok (.ifCond .ne 13, 3) ∧ ((63 : Nat) : Int) + 13 = ((76 : Nat) : Int) ∧ 63 + 3 = 66 := ⟨by decide +kernel, by decide, rfl⟩
theorem eX6_share_66 : decode cX6_share 66 = .ok (.aload_n 0, 1) ∧ 66 + 1 = 67 := ⟨by decide +kernel, rfl⟩
theorem eX6_share_67 : decode cX6_share 67 = .ok (.iconst 0, 1) ∧ 67 + 1 = 68 := ⟨by decide +kernel, rfl⟩
theorem eX6_share_68 : decode cX6_share 68 = .ok (.iload 4, 2) ∧ 68 + 2 = 70 := ⟨by decide +kernel, rfl⟩
theorem eX6_share_70 : decode cX6_share 70 = .ok (.invokevirtual 144, 3) ∧ 70 + 3 = 73 := ⟨by decide +kernel, rfl⟩
theorem eX6_share_73 : decode cX6_share 73 = .ok (.goto 4, 3) ∧ ((73 : Nat) : Int) + 4 = ((77 : Nat) : Int) := ⟨by decide +kernel, by decide⟩
theorem eX6_share_76 : decode cX6_share 76 = .ok (.iconst 0, 1) ∧ 76 + 1 = 77 := ⟨by decide +kernel, rfl⟩
theorem eX6_share_77 : decode cX6_share 77 = .ok (.iastore, 1) ∧ 77 + 1 = 78 := ⟨by decide +kernel, rfl⟩
theorem eX6_share_78 : decode cX6_share 78 = .ok (.iinc 4 1, 3) ∧ 78 + 3 = 81 := ⟨by decide +kernel, rfl⟩
theorem eX6_share_81 : decode cX6_share 81 = .ok (.goto (-36), 3) ∧ ((81 : Nat) : Int) + (-36) = ((45 : Nat) : Int) := ⟨by decide +kernel, by decide⟩
theorem eX6_share_84 : decode cX6_share 84 = .ok (.iconst 0, 1) ∧ 84 + 1 = 85 := ⟨by decide +kernel, rfl⟩
theorem eX6_share_85 : decode cX6_share 85 = .ok (.istore 4, 2) ∧ 85 + 2 = 87 := ⟨by decide +kernel, rfl⟩
theorem eX6_share_87 : decode cX6_share 87 = .ok (.iconst 0, 1) ∧ 87 + 1 = 88 := ⟨by decide +kernel, rfl⟩
theorem eX6_share_88 : decode cX6_share 88 = .ok (.istore 5, 2) ∧ 88 + 2 = 90 := ⟨by decide +kernel, rfl⟩
theorem eX6_share_90 : decode cX6_share 90 = .ok (.iload 5, 2) ∧ 90 + 2 = 92 := ⟨by decide +kernel, rfl⟩
theorem eX6_share_92 : decode cX6_share 92 = .ok (.iload_n 3, 1) ∧ 92 + 1 = 93 := ⟨by decide +kernel, rfl⟩
theorem eX6_share_93 : decode cX6_share 93 = .ok (.if_icmp .gt 80, 3) ∧ ((93 : Nat) : Int) + 80 = ((173 : Nat) : Int) ∧ 93 + 3 = 96 := ⟨by decide +kernel, by decide, rfl⟩
theorem eX6_share_96 : decode cX6_share 96 = .ok (.iload 5, 2) ∧ 96 + 2 = 98 := ⟨by decide +kernel, rfl⟩
theorem eX6_share_98 : decode cX6_share 98 = .ok (.iload_n 3, 1) ∧ 98 + 1 = 99 := ⟨by decide +kernel, rfl⟩
theorem eX6_share_99 : decode cX6_share 99 = .ok (.iconst (-1), 1) ∧ 99 + 1 = 100 := ⟨by decide +kernel, rfl⟩
theorem eX6_share_100 : decode cX6_share 100 = .ok (.ixor, 1) ∧ 100 + 1 = 101 := ⟨by decide +kernel, rfl⟩
theorem eX6_share_101 : decode cX6_share 101 = .ok (.iand, 1) ∧ 101 + 1 = 102 := ⟨by decide +kernel, rfl⟩
theorem eX6_share_102 : decode cX6_share 102 = .ok (.ifCond .ne 65, 3) ∧ ((102 : Nat) : Int) + 65 = ((167 : Nat) : Int) ∧ 102 + 3 = 105 := ⟨by decide +kernel, by decide, rfl⟩
theorem eX6_share_105 : decode cX6_share 105 = .ok (.iload 5, 2) ∧ 105 + 2 = 107 := ⟨by decide +kernel, rfl⟩
theorem eX6_share_107 : decode cX6_share 107 = .ok (.iload_n 1, 1) ∧ 107 + 1 = 108 := ⟨by decide +kernel, rfl⟩
theorem eX6_share_108 : decode cX6_share 108 = .ok (.invokestatic 94, 3) ∧ 108 + 3 = 111 := ⟨by decide +kernel, rfl⟩
theorem eX6_share_111 : decode cX6_share 111 = .ok (.ifCond .ne 56, 3) ∧ ((111 : Nat) : Int) + 56 = ((167 : Nat) : Int) ∧ 111 + 3 = 114 := ⟨by decide +kernel, by decide, rfl⟩
theorem eX6_share_114 : decode cX6_share 114 = .ok (.iload 5, 2) ∧ 114 + 2 = 116 := ⟨by decide +kernel, rfl⟩
theorem eX6_share_116 : decode cX6_share 116 = .ok (.invokestatic 130, 3) ∧ 116 + 3 = 119 := ⟨by decide +kernel, rfl⟩
theorem eX6_share_119 : decode cX6_share 119 = .ok (.invokestatic 172, 3) ∧ 119 + 3 = 122 := ⟨by decide +kernel, rfl⟩
theorem eX6_share_122 : decode cX6_share 122 = .ok (.iload_n 3, 1) ∧ 122 + 1 = 123 := ⟨by decide +kernel, rfl⟩
theorem eX6_share_123 : decode cX6_share 123 = .ok (.invokestatic 130, 3) ∧ 123 + 3 = 126 := ⟨by decide +kernel, rfl⟩
theorem eX6_share_126 : decode cX6_share 126 = .ok (.iconst 1, 1) ∧ 126 + 1 = 127 := ⟨by decide +kernel, rfl⟩
theorem eX6_share_127 : decode cX6_share 127 = .ok (.isub, 1) ∧ 127 + 1 = 128 := ⟨by decide +kernel, rfl⟩
theorem eX6_share_128 : decode cX6_share 128 = .ok (.iload 5, 2) ∧ 128 + 2 = 130 := ⟨by decide +kernel, rfl⟩
theorem eX6_share_130 : decode cX6_share 130 = .ok (.invokestatic 130, 3) ∧ 130 + 3 = 133 := ⟨by decide +kernel, rfl⟩
theorem eX6_share_133 : decode cX6_share 133 = .ok (.isub, 1) ∧ 133 + 1 = 134 := ⟨by decide +kernel, rfl⟩
theorem eX6_share_134 : decode cX6_share 134 = .ok (.invokestatic 172, 3) ∧ 134 + 3 = 137 := ⟨by decide +kernel, rfl⟩
theorem eX6_share_137 : decode cX6_share 137 = .ok (.imul, 1) ∧ 137 + 1 = 138 := ⟨by decide +kernel, rfl⟩
theorem eX6_share_138 : decode cX6_share 138 = .ok (.istore 6, 2) ∧ 138 + 2 = 140 := ⟨by decide +kernel, rfl⟩
theorem eX6_share_140 : decode cX6_share 140 = .ok (.iload 4, 2) ∧ 140 + 2 = 142 := ⟨by decide +kernel, rfl⟩
theorem eX6_share_142 : decode cX6_share 142 = .ok (.iload 6, 2) ∧ 142 + 2 = 144 := ⟨by decide +kernel, rfl⟩
theorem eX6_share_144 : decode cX6_share 144 = .ok (.aload_n 0, 1) ∧ 144 + 1 = 145 := ⟨by decide +kernel, rfl⟩
theorem eX6_share_145 : decode cX6_share 145 = .ok (.getfield 43, 3) ∧ 145 + 3 = 148 := ⟨by decide +kernel, rfl⟩
theorem eX6_share_148 : decode cX6_share 148 = .ok (.iload 5, 2) ∧ 148 + 2 = 150 := ⟨by decide +kernel, rfl⟩
theorem eX6_share_150 : decode cX6_share 150 = .ok (.iconst 1, 1) ∧ 150 + 1 = 151 := ⟨by decide +kernel, rfl⟩
theorem eX6_share_151 : decode cX6_share 151 = .ok (.iload_n 1, 1) ∧ 151 + 1 = 152 := ⟨by decide +kernel, rfl⟩
theorem eX6_share_152 : decode cX6_share 152 = .ok (.ishl, 1) ∧ 152 + 1 = 153 := ⟨by decide +kernel, rfl⟩
theorem eX6_share_153 : decode cX6_share 153 = .ok (.ior, 1) ∧ 153 + 1 = 154 := ⟨by decide +kernel, rfl⟩
theorem eX6_share_154 : decode cX6_share 154 = .ok (.iaload, 1) ∧ 154 + 1 = 155 := ⟨by decide +kernel, rfl⟩
theorem eX6_share_155 : decode cX6_share 155 = .ok (.aload_n 0, 1) ∧ 155 + 1 = 156 := ⟨by decide +kernel, rfl⟩
theorem eX6_share_156 : decode cX6_share 156 = .ok (.getfield 43, 3) ∧ 156 + 3 = 159 := ⟨by decide +kernel, rfl⟩
theorem eX6_share_159 : decode cX6_share 159 = .ok (.iload 5, 2) ∧ 159 + 2 = 161 := ⟨by decide +kernel, rfl⟩
theorem eX6_share_161 : decode cX6_share 161 = .ok (.iaload, 1) ∧ 161 + 1 = 162 := ⟨by decide +kernel, rfl⟩
theorem eX6_share_162 : decode cX6_share 162 = .ok (.isub, 1) ∧ 162 + 1 = 163 := ⟨by decide +kernel, rfl⟩
theorem eX6_share_163 : decode cX6_share 163 = .ok (.imul, 1) ∧ 163 + 1 = 164 := ⟨by decide +kernel, rfl⟩
theorem eX6_share_164 : decode cX6_share 164 = .ok (.iadd, 1) ∧ 164 + 1 = 165 := ⟨by decide +kernel, rfl⟩
theorem eX6_share_165 : decode cX6_share 165 = .ok (.istore 4, 2) ∧ 165 + 2 = 167 := ⟨by decide +kernel, rfl⟩
theorem eX6_share_167 : decode cX6_share 167 = .ok (.iinc 5 1, 3) ∧ 167 + 3 = 170 := ⟨by decide +kernel, rfl⟩
theorem eX6_share_170 : decode cX6_share 170 = .ok (.goto (-80), 3) ∧ ((170 : Nat) : Int) + (-80) = ((90 : Nat) : Int) := ⟨by decide +kernel, by decide⟩
theorem eX6_share_173 : decode cX6_share 173 = .ok (.iload 4, 2) ∧ 173 + 2 = 175 := ⟨by decide +kernel, rfl⟩
theorem eX6_share_175 : decode cX6_share 175 = .ok (.iload_n 3, 1) ∧ 175 + 1 = 176 := ⟨by decide +kernel, rfl⟩
theorem eX6_share_176 : decode cX6_share 176 = .ok (.invokestatic 130, 3) ∧ 176 + 3 = 179 := ⟨by decide +kernel, rfl⟩
theorem eX6_share_179 : decode cX6_share 179 = .ok (.invokestatic 172, 3) ∧ 179 + 3 = 182 := ⟨by decide +kernel, rfl⟩
theorem eX6_share_182 : decode cX6_share 182 = .ok (.invokestatic 175, 3) ∧ 182 + 3 = 185 := ⟨by decide +kernel, rfl⟩
theorem eX6_share_185 : decode cX6_share 185 = .ok (.istore 5, 2) ∧ 185 + 2 = 187 := ⟨by decide +kernel, rfl⟩
theorem eX6_share_187 : decode cX6_share 187 = .ok (.iload_n 2, 1) ∧ 187 + 1 = 188 := ⟨by decide +kernel, rfl⟩
theorem eX6_share_188 : decode cX6_share 188 = .ok (.ifCond .eq 11, 3) ∧ ((188 : Nat) : Int) + 11 = ((199 : Nat) : Int) ∧ 188 + 3 = 191 := ⟨by decide +kernel, by decide, rfl⟩
theorem eX6_share_191 : decode cX6_share 191 = .ok (.iload 4, 2) ∧ 191 + 2 = 193 := ⟨by decide +kernel, rfl⟩
theorem eX6_share_193 : decode cX6_share 193 = .ok (.iload 5, 2) ∧ 193 + 2 = 195 := ⟨by decide +kernel, rfl⟩
theorem eX6_share_195 : decode cX6_share 195 = .ok (.idiv, 1) ∧ 195 + 1 = 196 := ⟨by decide +kernel, rfl⟩
theorem eX6_share_196 : decode cX6_share 196 = .ok (.goto 13, 3) ∧ ((196 : Nat) : Int) + 13 = ((209 : Nat) : Int) := ⟨by decide +kernel, by decide⟩
theorem eX6_share_199 : decode cX6_share 199 = .ok (.iload_n 3, 1) ∧ 199 + 1 = 200 := ⟨by decide +kernel, rfl⟩
theorem eX6_share_200 : decode cX6_share 200 = .ok (.invokestatic 130, 3) ∧ 200 + 3 = 203 := ⟨by decide +kernel, rfl⟩
theorem eX6_share_203 : decode cX6_share 203 = .ok (.invokestatic 172, 3) ∧ 203 + 3 = 206 := ⟨by decide +kernel, rfl⟩
theorem eX6_share_206 : decode cX6_share 206 = .ok (.iload 5, 2) ∧ 206 + 2 = 208 := ⟨by decide +kernel, rfl⟩
theorem eX6_share_208 : decode cX6_share 208 = .ok (.idiv, 1) ∧ 208 + 1 = 209 := ⟨by decide +kernel, rfl⟩
theorem eX6_share_209 : decode cX6_share 209 = .ok (.ireturn, 1) := by decide +kernel
theorem eX6_bringsOf_0 : decode cX6_bringsOf 0 = .ok (.iload_n 1, 1) ∧ 0 + 1 = 1 := ⟨by decide +kernel, rfl⟩
theorem eX6_bringsOf_1 : decode cX6_bringsOf 1 = .ok (.aload_n 0, 1) ∧ 1 + 1 = 2 := ⟨by decide +kernel, rfl⟩
theorem eX6_bringsOf_2 : decode cX6_bringsOf 2 = .ok (.getfield 25, 3) ∧ 2 + 3 = 5 := ⟨by decide +kernel, rfl⟩
theorem eX6_bringsOf_5 : decode cX6_bringsOf 5 = .ok (.iconst 0, 1) ∧ 5 + 1 = 6 := ⟨by decide +kernel, rfl⟩
theorem eX6_bringsOf_6 : decode cX6_bringsOf 6 = .ok (.iaload, 1) ∧ 6 + 1 = 7 := ⟨by decide +kernel, rfl⟩
theorem eX6_bringsOf_7 : decode cX6_bringsOf 7 = .ok (.isub, 1) ∧ 7 + 1 = 8 := ⟨by decide +kernel, rfl⟩
theorem eX6_bringsOf_8 : decode cX6_bringsOf 8 = .ok (.istore_n 2, 1) ∧ 8 + 1 = 9 := ⟨by decide +kernel, rfl⟩
theorem eX6_bringsOf_9 : decode cX6_bringsOf 9 = .ok (.iload_n 1, 1) ∧ 9 + 1 = 10 := ⟨by decide +kernel, rfl⟩
theorem eX6_bringsOf_10 : decode cX6_bringsOf 10 = .ok (.bipush (-9), 2) ∧ 10 + 2 = 12 := ⟨by decide +kernel, rfl⟩
theorem eX6_bringsOf_12 : decode cX6_bringsOf 12 = .ok (.if_icmp .eq 8, 3) ∧ ((12 : Nat) : Int) + 8 = ((20 : Nat) : Int) ∧ 12 + 3 = 15 := ⟨by decide +kernel, by decide, rfl⟩
theorem eX6_bringsOf_15 : decode cX6_bringsOf 15 = .ok (.iload_n 2, 1) ∧ 15 + 1 = 16 := ⟨by decide +kernel, rfl⟩
theorem eX6_bringsOf_16 : decode cX6_bringsOf 16 = .ok (.iconst 4, 1) ∧ 16 + 1 = 17 := ⟨by decide +kernel, rfl⟩
theorem eX6_bringsOf_17 : decode cX6_bringsOf 17 = .ok (.if_icmp .le 7, 3) ∧ ((17 : Nat) : Int) + 7 = ((24 : Nat) : Int) ∧ 17 + 3 = 20 := ⟨by decide +kernel, by decide, rfl⟩
theorem eX6_bringsOf_20 : decode cX6_bringsOf 20 = .ok (.iconst 0, 1) ∧ 20 + 1 = 21 := ⟨by decide +kernel, rfl⟩
theorem eX6_bringsOf_21 : decode cX6_bringsOf 21 = .ok (.goto 6, 3) ∧ ((21 : Nat) : Int) + 6 = ((27 : Nat) : Int) := ⟨by decide +kernel, by decide⟩
theorem eX6_bringsOf_24 : decode cX6_bringsOf 24 = .ok (.iconst 4, 1) ∧ 24 + 1 = 25 := ⟨by decide +kernel, rfl⟩
theorem eX6_bringsOf_25 : decode cX6_bringsOf 25 = .ok (.iload_n 2, 1) ∧ 25 + 1 = 26 := ⟨by decide +kernel, rfl⟩
theorem eX6_bringsOf_26 : decode cX6_bringsOf 26 = .ok (.isub, 1) ∧ 26 + 1 = 27 := ⟨by decide +kernel, rfl⟩
theorem eX6_bringsOf_27 : decode cX6_bringsOf 27 = .ok (.ireturn, 1) := by decide +kernel
theorem eX6_gain_0 : decode cX6_gain 0 = .ok (.iload_n 3, 1) ∧ 0 + 1 = 1 := ⟨by decide +kernel, rfl⟩
theorem eX6_gain_1 : decode cX6_gain 1 = .ok (.iload 4, 2) ∧ 1 + 2 = 3 := ⟨by decide +kernel, rfl⟩
theorem eX6_gain_3 : decode cX6_gain 3 = .ok (.if_icmp .ne 16, 3) ∧ ((3 : Nat) : Int) + 16 = ((19 : Nat) : Int) ∧ 3 + 3 = 6 := ⟨by decide +kernel, by decide, rfl⟩
theorem eX6_gain_6 : decode cX6_gain 6 = .ok (.iload_n 1, 1) ∧ 6 + 1 = 7 := ⟨by decide +kernel, rfl⟩
theorem eX6_gain_7 : decode cX6_gain 7 = .ok (.iload_n 2, 1) ∧ 7 + 1 = 8 := ⟨by decide +kernel, rfl⟩
theorem eX6_gain_8 : decode cX6_gain 8 = .ok (.if_icmp .ge 7, 3) ∧ ((8 : Nat) : Int) + 7 = ((15 : Nat) : Int) ∧ 8 + 3 = 11 := ⟨by decide +kernel, by decide, rfl⟩
theorem eX6_gain_11 : decode cX6_gain 11 = .ok (.iconst 1, 1) ∧ 11 + 1 = 12 := ⟨by decide +kernel, rfl⟩
theorem eX6_gain_12 : decode cX6_gain 12 = .ok (.goto 18, 3) ∧ ((12 : Nat) : Int) + 18 = ((30 : Nat) : Int) := ⟨by decide +kernel, by decide⟩
theorem eX6_gain_15 : decode cX6_gain 15 = .ok (.iconst 0, 1) ∧ 15 + 1 = 16 := ⟨by decide +kernel, rfl⟩
theorem eX6_gain_16 : decode cX6_gain 16 = .ok (.goto 14, 3) ∧ ((16 : Nat) : Int) + 14 = ((30 : Nat) : Int) := ⟨by decide +kernel, by decide⟩
theorem eX6_gain_19 : decode cX6_gain 19 = .ok (.iload_n 3, 1) ∧ 19 + 1 = 20 := ⟨by decide +kernel, rfl⟩
theorem eX6_gain_20 : decode cX6_gain 20 = .ok (.iload 4, 2) ∧ 20 + 2 = 22 := ⟨by decide +kernel, rfl⟩
theorem eX6_gain_22 : decode cX6_gain 22 = .ok (.if_icmp .le 7, 3) ∧ ((22 : Nat) : Int) + 7 = ((29 : Nat) : Int) ∧ 22 + 3 = 25 := ⟨by decide +kernel, by decide, rfl⟩
theorem eX6_gain_25 : decode cX6_gain 25 = .ok (.iconst 1, 1) ∧ 25 + 1 = 26 := ⟨by decide +kernel, rfl⟩
theorem eX6_gain_26 : decode cX6_gain 26 = .ok (.goto 4, 3) ∧ ((26 : Nat) : Int) + 4 = ((30 : Nat) : Int) := ⟨by decide +kernel, by decide⟩
theorem eX6_gain_29 : decode cX6_gain 29 = .ok (.iconst 0, 1) ∧ 29 + 1 = 30 := ⟨by decide +kernel, rfl⟩
theorem eX6_gain_30 : decode cX6_gain 30 = .ok (.istore 5, 2) ∧ 30 + 2 = 32 := ⟨by decide +kernel, rfl⟩
theorem eX6_gain_32 : decode cX6_gain 32 = .ok (.aload_n 0, 1) ∧ 32 + 1 = 33 := ⟨by decide +kernel, rfl⟩
theorem eX6_gain_33 : decode cX6_gain 33 = .ok (.invokevirtual 137, 3) ∧ 33 + 3 = 36 := ⟨by decide +kernel, rfl⟩
theorem eX6_gain_36 : decode cX6_gain 36 = .ok (.iload 5, 2) ∧ 36 + 2 = 38 := ⟨by decide +kernel, rfl⟩
theorem eX6_gain_38 : decode cX6_gain 38 = .ok (.ifCond .ne 10, 3) ∧ ((38 : Nat) : Int) + 10 = ((48 : Nat) : Int) ∧ 38 + 3 = 41 := ⟨by decide +kernel, by decide, rfl⟩
theorem eX6_gain_41 : decode cX6_gain 41 = .ok (.aload_n 0, 1) ∧ 41 + 1 = 42 := ⟨by decide +kernel, rfl⟩
theorem eX6_gain_42 : decode cX6_gain 42 = .ok (.iconst 1, 1) ∧ 42 + 1 = 43 := ⟨by decide +kernel, rfl⟩
theorem eX6_gain_43 : decode cX6_gain 43 = .ok (.iload_n 2, 1) ∧ 43 + 1 = 44 := ⟨by decide +kernel, rfl⟩
theorem eX6_gain_44 : decode cX6_gain 44 = .ok (.invokevirtual 123, 3) ∧ 44 + 3 = 47 := ⟨by decide +kernel, rfl⟩
theorem eX6_gain_47 : decode cX6_gain 47 = .ok (.pop, 1) ∧ 47 + 1 = 48 := ⟨by decide +kernel, rfl⟩
theorem eX6_gain_48 : decode cX6_gain 48 = .ok (.aload_n 0, 1) ∧ 48 + 1 = 49 := ⟨by decide +kernel, rfl⟩
theorem eX6_gain_49 : decode cX6_gain 49 = .ok (.aload_n 0, 1) ∧ 49 + 1 = 50 := ⟨by decide +kernel, rfl⟩
theorem eX6_gain_50 : decode cX6_gain 50 = .ok (.iconst 1, 1) ∧ 50 + 1 = 51 := ⟨by decide +kernel, rfl⟩
theorem eX6_gain_51 : decode cX6_gain 51 = .ok (.iload_n 1, 1) ∧ 51 + 1 = 52 := ⟨by decide +kernel, rfl⟩
theorem eX6_gain_52 : decode cX6_gain 52 = .ok (.invokevirtual 102, 3) ∧ 52 + 3 = 55 := ⟨by decide +kernel, rfl⟩
theorem eX6_gain_55 : decode cX6_gain 55 = .ok (.invokevirtual 178, 3) ∧ 55 + 3 = 58 := ⟨by decide +kernel, rfl⟩
theorem eX6_gain_58 : decode cX6_gain 58 = .ok (.iload_n 3, 1) ∧ 58 + 1 = 59 := ⟨by decide +kernel, rfl⟩
theorem eX6_gain_59 : decode cX6_gain 59 = .ok (.isub, 1) ∧ 59 + 1 = 60 := ⟨by decide +kernel, rfl⟩
theorem eX6_gain_60 : decode cX6_gain 60 = .ok (.ireturn, 1) := by decide +kernel
theorem eX6_isRest_0 : decode cX6_isRest 0 = .ok (.aload_n 0, 1) ∧ 0 + 1 = 1 := ⟨by decide +kernel, rfl⟩
theorem eX6_isRest_1 : decode cX6_isRest 1 = .ok (.iload_n 1, 1) ∧ 1 + 1 = 2 := ⟨by decide +kernel, rfl⟩
theorem eX6_isRest_2 : decode cX6_isRest 2 = .ok (.iload_n 2, 1) ∧ 2 + 1 = 3 := ⟨by decide +kernel, rfl⟩
theorem eX6_isRest_3 : decode cX6_isRest 3 = .ok (.iconst 1, 1) ∧ 3 + 1 = 4 := ⟨by decide +kernel, rfl⟩
theorem eX6_isRest_4 : decode cX6_isRest 4 = .ok (.iload_n 3, 1) ∧ 4 + 1 = 5 := ⟨by decide +kernel, rfl⟩
theorem eX6_isRest_5 : decode cX6_isRest 5 = .ok (.isub, 1) ∧ 5 + 1 = 6 := ⟨by decide +kernel, rfl⟩
theorem eX6_isRest_6 : decode cX6_isRest 6 = .ok (.iload 4, 2) ∧ 6 + 2 = 8 := ⟨by decide +kernel, rfl⟩
theorem eX6_isRest_8 : decode cX6_isRest 8 = .ok (.invokevirtual 181, 3) ∧ 8 + 3 = 11 := ⟨by decide +kernel, rfl⟩
theorem eX6_isRest_11 : decode cX6_isRest 11 = .ok (.aload_n 0, 1) ∧ 11 + 1 = 12 := ⟨by decide +kernel, rfl⟩
theorem eX6_isRest_12 : decode cX6_isRest 12 = .ok (.iload_n 1, 1) ∧ 12 + 1 = 13 := ⟨by decide +kernel, rfl⟩
theorem eX6_isRest_13 : decode cX6_isRest 13 = .ok (.iload_n 2, 1) ∧ 13 + 1 = 14 := ⟨by decide +kernel, rfl⟩
theorem eX6_isRest_14 : decode cX6_isRest 14 = .ok (.iload_n 3, 1) ∧ 14 + 1 = 15 := ⟨by decide +kernel, rfl⟩
theorem eX6_isRest_15 : decode cX6_isRest 15 = .ok (.iload 4, 2) ∧ 15 + 2 = 17 := ⟨by decide +kernel, rfl⟩
theorem eX6_isRest_17 : decode cX6_isRest 17 = .ok (.invokevirtual 181, 3) ∧ 17 + 3 = 20 := ⟨by decide +kernel, rfl⟩
theorem eX6_isRest_20 : decode cX6_isRest 20 = .ok (.if_icmp .gt 30, 3) ∧ ((20 : Nat) : Int) + 30 = ((50 : Nat) : Int) ∧ 20 + 3 = 23 := ⟨by decide +kernel, by decide, rfl⟩
theorem eX6_isRest_23 : decode cX6_isRest 23 = .ok (.aload_n 0, 1) ∧ 23 + 1 = 24 := ⟨by decide +kernel, rfl⟩
theorem eX6_isRest_24 : decode cX6_isRest 24 = .ok (.iload_n 2, 1) ∧ 24 + 1 = 25 := ⟨by decide +kernel, rfl⟩
theorem eX6_isRest_25 : decode cX6_isRest 25 = .ok (.iload_n 1, 1) ∧ 25 + 1 = 26 := ⟨by decide +kernel, rfl⟩
theorem eX6_isRest_26 : decode cX6_isRest 26 = .ok (.iconst 1, 1) ∧ 26 + 1 = 27 := ⟨by decide +kernel, rfl⟩
theorem eX6_isRest_27 : decode cX6_isRest 27 = .ok (.iload 4, 2) ∧ 27 + 2 = 29 := ⟨by decide +kernel, rfl⟩
theorem eX6_isRest_29 : decode cX6_isRest 29 = .ok (.isub, 1) ∧ 29 + 1 = 30 := ⟨by decide +kernel, rfl⟩
theorem eX6_isRest_30 : decode cX6_isRest 30 = .ok (.iload_n 3, 1) ∧ 30 + 1 = 31 := ⟨by decide +kernel, rfl⟩
theorem eX6_isRest_31 : decode cX6_isRest 31 = .ok (.invokevirtual 181, 3) ∧ 31 + 3 = 34 := ⟨by decide +kernel, rfl⟩
theorem eX6_isRest_34 : decode cX6_isRest 34 = .ok (.aload_n 0, 1) ∧ 34 + 1 = 35 := ⟨by decide +kernel, rfl⟩
theorem eX6_isRest_35 : decode cX6_isRest 35 = .ok (.iload_n 2, 1) ∧ 35 + 1 = 36 := ⟨by decide +kernel, rfl⟩
theorem eX6_isRest_36 : decode cX6_isRest 36 = .ok (.iload_n 1, 1) ∧ 36 + 1 = 37 := ⟨by decide +kernel, rfl⟩
theorem eX6_isRest_37 : decode cX6_isRest 37 = .ok (.iload 4, 2) ∧ 37 + 2 = 39 := ⟨by decide +kernel, rfl⟩
theorem eX6_isRest_39 : decode cX6_isRest 39 = .ok (.iload_n 3, 1) ∧ 39 + 1 = 40 := ⟨by decide +kernel, rfl⟩
theorem eX6_isRest_40 : decode cX6_isRest 40 = .ok (.invokevirtual 181, 3) ∧ 40 + 3 = 43 := ⟨by decide +kernel, rfl⟩
theorem eX6_isRest_43 : decode cX6_isRest 43 = .ok (.if_icmp .gt 7, 3) ∧ ((43 : Nat) : Int) + 7 = ((50 : Nat) : Int) ∧ 43 + 3 = 46 := ⟨by decide +kernel, by decide, rfl⟩
theorem eX6_isRest_46 : decode cX6_isRest 46 = .ok (.iconst 1, 1) ∧ 46 + 1 = 47 := ⟨by decide +kernel, rfl⟩
theorem eX6_isRest_47 : decode cX6_isRest 47 = .ok (.goto 4, 3) ∧ ((47 : Nat) : Int) + 4 = ((51 : Nat) : Int) := ⟨by decide +kernel, by decide⟩
theorem eX6_isRest_50 : decode cX6_isRest 50 = .ok (.iconst 0, 1) ∧ 50 + 1 = 51 := ⟨by decide +kernel, rfl⟩
theorem eX6_isRest_51 : decode cX6_isRest 51 = .ok (.ireturn, 1) := by decide +kernel
theorem eX6_rests_0 : decode cX6_rests 0 = .ok (.aload_n 0, 1) ∧ 0 + 1 = 1 := ⟨by decide +kernel, rfl⟩
theorem eX6_rests_1 : decode cX6_rests 1 = .ok (.iload_n 1, 1) ∧ 1 + 1 = 2 := ⟨by decide +kernel, rfl⟩
theorem eX6_rests_2 : decode cX6_rests 2 = .ok (.invokevirtual 109, 3) ∧ 2 + 3 = 5 := ⟨by decide +kernel, rfl⟩
theorem eX6_rests_5 : decode cX6_rests 5 = .ok (.ifCond .eq 11, 3) ∧ ((5 : Nat) : Int) + 11 = ((16 : Nat) : Int) ∧ 5 + 3 = 8 := ⟨by decide +kernel, by decide, rfl⟩
theorem eX6_rests_8 : decode cX6_rests 8 = .ok (.aload_n 0, 1) ∧ 8 + 1 = 9 := ⟨by decide +kernel, rfl⟩
theorem eX6_rests_9 : decode cX6_rests 9 = .ok (.iload_n 2, 1) ∧ 9 + 1 = 10 := ⟨by decide +kernel, rfl⟩
theorem eX6_rests_10 : decode cX6_rests 10 = .ok (.invokevirtual 109, 3) ∧ 10 + 3 = 13 := ⟨by decide +kernel, rfl⟩
theorem eX6_rests_13 : decode cX6_rests 13 = .ok (.ifCond .ne 5, 3) ∧ ((13 : Nat) : Int) + 5 = ((18 : Nat) : Int) ∧ 13 + 3 = 16 := ⟨by decide +kernel, by decide, rfl⟩
theorem eX6_rests_16 : decode cX6_rests 16 = .ok (.iconst (-1), 1) ∧ 16 + 1 = 17 := ⟨by decide +kernel, rfl⟩
theorem eX6_rests_17 : decode cX6_rests 17 = .ok (.ireturn, 1) := by decide +kernel
theorem eX6_rests_18 : decode cX6_rests 18 = .ok (.iload_n 1, 1) ∧ 18 + 1 = 19 := ⟨by decide +kernel, rfl⟩
theorem eX6_rests_19 : decode cX6_rests 19 = .ok (.iload_n 2, 1) ∧ 19 + 1 = 20 := ⟨by decide +kernel, rfl⟩
theorem eX6_rests_20 : decode cX6_rests 20 = .ok (.if_icmp .eq 13, 3) ∧ ((20 : Nat) : Int) + 13 = ((33 : Nat) : Int) ∧ 20 + 3 = 23 := ⟨by decide +kernel, by decide, rfl⟩
theorem eX6_rests_23 : decode cX6_rests 23 = .ok (.iload_n 3, 1) ∧ 23 + 1 = 24 := ⟨by decide +kernel, rfl⟩
theorem eX6_rests_24 : decode cX6_rests 24 = .ok (.i2l, 1) ∧ 24 + 1 = 25 := ⟨by decide +kernel, rfl⟩
theorem eX6_rests_25 : decode cX6_rests 25 = .ok (.lconst 0, 1) ∧ 25 + 1 = 26 := ⟨by decide +kernel, rfl⟩
theorem eX6_rests_26 : decode cX6_rests 26 = .ok (.lconst 1, 1) ∧ 26 + 1 = 27 := ⟨by decide +kernel, rfl⟩
theorem eX6_rests_27 : decode cX6_rests 27 = .ok (.invokestatic 59, 3) ∧ 27 + 3 = 30 := ⟨by decide +kernel, rfl⟩
theorem eX6_rests_30 : decode cX6_rests 30 = .ok (.ifCond .ne 6, 3) ∧ ((30 : Nat) : Int) + 6 = ((36 : Nat) : Int) ∧ 30 + 3 = 33 := ⟨by decide +kernel, by decide, rfl⟩
theorem eX6_rests_33 : decode cX6_rests 33 = .ok (.bipush (-2), 2) ∧ 33 + 2 = 35 := ⟨by decide +kernel, rfl⟩
theorem eX6_rests_35 : decode cX6_rests 35 = .ok (.ireturn, 1) := by decide +kernel
theorem eX6_rests_36 : decode cX6_rests 36 = .ok (.aload_n 0, 1) ∧ 36 + 1 = 37 := ⟨by decide +kernel, rfl⟩
theorem eX6_rests_37 : decode cX6_rests 37 = .ok (.getfield 25, 3) ∧ 37 + 3 = 40 := ⟨by decide +kernel, rfl⟩
theorem eX6_rests_40 : decode cX6_rests 40 = .ok (.iconst 2, 1) ∧ 40 + 1 = 41 := ⟨by decide +kernel, rfl⟩
theorem eX6_rests_41 : decode cX6_rests 41 = .ok (.iaload, 1) ∧ 41 + 1 = 42 := ⟨by decide +kernel, rfl⟩
theorem eX6_rests_42 : decode cX6_rests 42 = .ok (.iload_n 1, 1) ∧ 42 + 1 = 43 := ⟨by decide +kernel, rfl⟩
theorem eX6_rests_43 : decode cX6_rests 43 = .ok (.invokestatic 94, 3) ∧ 43 + 3 = 46 := ⟨by decide +kernel, rfl⟩
theorem eX6_rests_46 : decode cX6_rests 46 = .ok (.ifCond .ne 16, 3) ∧ ((46 : Nat) : Int) + 16 = ((62 : Nat) : Int) ∧ 46 + 3 = 49 := ⟨by decide +kernel, by decide, rfl⟩
theorem eX6_rests_49 : decode cX6_rests 49 = .ok (.aload_n 0, 1) ∧ 49 + 1 = 50 := ⟨by decide +kernel, rfl⟩
theorem eX6_rests_50 : decode cX6_rests 50 = .ok (.getfield 25, 3) ∧ 50 + 3 = 53 := ⟨by decide +kernel, rfl⟩
theorem eX6_rests_53 : decode cX6_rests 53 = .ok (.iconst 2, 1) ∧ 53 + 1 = 54 := ⟨by decide +kernel, rfl⟩
theorem eX6_rests_54 : decode cX6_rests 54 = .ok (.iaload, 1) ∧ 54 + 1 = 55 := ⟨by decide +kernel, rfl⟩
theorem eX6_rests_55 : decode cX6_rests 55 = .ok (.iload_n 2, 1) ∧ 55 + 1 = 56 := ⟨by decide +kernel, rfl⟩
theorem eX6_rests_56 : decode cX6_rests 56 = .ok (.invokestatic 94, 3) ∧ 56 + 3 = 59 := ⟨by decide +kernel, rfl⟩
theorem eX6_rests_59 : decode cX6_rests 59 = .ok (.ifCond .eq 6, 3) ∧ ((59 : Nat) : Int) + 6 = ((65 : Nat) : Int) ∧ 59 + 3 = 62 := ⟨by decide +kernel, by decide, rfl⟩
theorem eX6_rests_62 : decode cX6_rests 62 = .ok (.bipush (-3), 2) ∧ 62 + 2 = 64 := ⟨by decide +kernel, rfl⟩
theorem eX6_rests_64 : decode cX6_rests 64 = .ok (.ireturn, 1) := by decide +kernel
theorem eX6_rests_65 : decode cX6_rests 65 = .ok (.iconst 0, 1) ∧ 65 + 1 = 66 := ⟨by decide +kernel, rfl⟩
theorem eX6_rests_66 : decode cX6_rests 66 = .ok (.istore 4, 2) ∧ 66 + 2 = 68 := ⟨by decide +kernel, rfl⟩
theorem eX6_rests_68 : decode cX6_rests 68 = .ok (.bipush (-9), 2) ∧ 68 + 2 = 70 := ⟨by decide +kernel, rfl⟩
theorem eX6_rests_70 : decode cX6_rests 70 = .ok (.istore 5, 2) ∧ 70 + 2 = 72 := ⟨by decide +kernel, rfl⟩
theorem eX6_rests_72 : decode cX6_rests 72 = .ok (.iconst 0, 1) ∧ 72 + 1 = 73 := ⟨by decide +kernel, rfl⟩
theorem eX6_rests_73 : decode cX6_rests 73 = .ok (.istore 6, 2) ∧ 73 + 2 = 75 := ⟨by decide +kernel, rfl⟩
theorem eX6_rests_75 : decode cX6_rests 75 = .ok (.iload 6, 2) ∧ 75 + 2 = 77 := ⟨by decide +kernel, rfl⟩
theorem eX6_rests_77 : decode cX6_rests 77 = .ok (.iconst 4, 1) ∧ 77 + 1 = 78 := ⟨by decide +kernel, rfl⟩
theorem eX6_rests_78 : decode cX6_rests 78 = .ok (.if_icmp .ge 53, 3) ∧ ((78 : Nat) : Int) + 53 = ((131 : Nat) : Int) ∧ 78 + 3 = 81 := ⟨by decide +kernel, by decide, rfl⟩
theorem eX6_rests_81 : decode cX6_rests 81 = .ok (.aload_n 0, 1) ∧ 81 + 1 = 82 := ⟨by decide +kernel, rfl⟩
theorem eX6_rests_82 : decode cX6_rests 82 = .ok (.iload_n 1, 1) ∧ 82 + 1 = 83 := ⟨by decide +kernel, rfl⟩
theorem eX6_rests_83 : decode cX6_rests 83 = .ok (.iload_n 2, 1) ∧ 83 + 1 = 84 := ⟨by decide +kernel, rfl⟩
theorem eX6_rests_84 : decode cX6_rests 84 = .ok (.iload 6, 2) ∧ 84 + 2 = 86 := ⟨by decide +kernel, rfl⟩
theorem eX6_rests_86 : decode cX6_rests 86 = .ok (.iconst 2, 1) ∧ 86 + 1 = 87 := ⟨by decide +kernel, rfl⟩
theorem eX6_rests_87 : decode cX6_rests 87 = .ok (.idiv, 1) ∧ 87 + 1 = 88 := ⟨by decide +kernel, rfl⟩
theorem eX6_rests_88 : decode cX6_rests 88 = .ok (.iload 6, 2) ∧ 88 + 2 = 90 := ⟨by decide +kernel, rfl⟩
theorem eX6_rests_90 : decode cX6_rests 90 = .ok (.iconst 2, 1) ∧ 90 + 1 = 91 := ⟨by decide +kernel, rfl⟩
theorem eX6_rests_91 : decode cX6_rests 91 = .ok (.irem, 1) ∧ 91 + 1 = 92 := ⟨by decide +kernel, rfl⟩
theorem eX6_rests_92 : decode cX6_rests 92 = .ok (.invokevirtual 185, 3) ∧ 92 + 3 = 95 := ⟨by decide +kernel, rfl⟩
theorem eX6_rests_95 : decode cX6_rests 95 = .ok (.ifCond .eq 30, 3) ∧ ((95 : Nat) : Int) + 30 = ((125 : Nat) : Int) ∧ 95 + 3 = 98 := ⟨by decide +kernel, by decide, rfl⟩
theorem eX6_rests_98 : decode cX6_rests 98 = .ok (.iload 4, 2) ∧ 98 + 2 = 100 := ⟨by decide +kernel, rfl⟩
theorem eX6_rests_100 : decode cX6_rests 100 = .ok (.ifCond .ne 18, 3) ∧ ((100 : Nat) : Int) + 18 = ((118 : Nat) : Int) ∧ 100 + 3 = 103 := ⟨by decide +kernel, by decide, rfl⟩
theorem eX6_rests_103 : decode cX6_rests 103 = .ok (.bipush 10, 2) ∧ 103 + 2 = 105 := ⟨by decide +kernel, rfl⟩
theorem eX6_rests_105 : decode cX6_rests 105 = .ok (.iload 6, 2) ∧ 105 + 2 = 107 := ⟨by decide +kernel, rfl⟩
theorem eX6_rests_107 : decode cX6_rests 107 = .ok (.iconst 2, 1) ∧ 107 + 1 = 108 := ⟨by decide +kernel, rfl⟩
theorem eX6_rests_108 : decode cX6_rests 108 = .ok (.idiv, 1) ∧ 108 + 1 = 109 := ⟨by decide +kernel, rfl⟩
theorem eX6_rests_109 : decode cX6_rests 109 = .ok (.imul, 1) ∧ 109 + 1 = 110 := ⟨by decide +kernel, rfl⟩
theorem eX6_rests_110 : decode cX6_rests 110 = .ok (.iload 6, 2) ∧ 110 + 2 = 112 := ⟨by decide +kernel, rfl⟩
theorem eX6_rests_112 : decode cX6_rests 112 = .ok (.iconst 2, 1) ∧ 112 + 1 = 113 := ⟨by decide +kernel, rfl⟩
theorem eX6_rests_113 : decode cX6_rests 113 = .ok (.irem, 1) ∧ 113 + 1 = 114 := ⟨by decide +kernel, rfl⟩
theorem eX6_rests_114 : decode cX6_rests 114 = .ok (.iadd, 1) ∧ 114 + 1 = 115 := ⟨by decide +kernel, rfl⟩
theorem eX6_rests_115 : decode cX6_rests 115 = .ok (.goto 5, 3) ∧ ((115 : Nat) : Int) + 5 = ((120 : Nat) : Int) := ⟨by decide +kernel, by decide⟩
theorem eX6_rests_118 : decode cX6_rests 118 = .ok (.iload 5, 2) ∧ 118 + 2 = 120 := ⟨by decide +kernel, rfl⟩
theorem eX6_rests_120 : decode cX6_rests 120 = .ok (.istore 5, 2) ∧ 120 + 2 = 122 := ⟨by decide +kernel, rfl⟩
theorem eX6_rests_122 : decode cX6_rests 122 = .ok (.iinc 4 1, 3) ∧ 122 + 3 = 125 := ⟨by decide +kernel, rfl⟩
theorem eX6_rests_125 : decode cX6_rests 125 = .ok (.iinc 6 1, 3) ∧ 125 + 3 = 128 := ⟨by decide +kernel, rfl⟩
theorem eX6_rests_128 : decode cX6_rests 128 = .ok (.goto (-53), 3) ∧ ((128 : Nat) : Int) + (-53) = ((75 : Nat) : Int) := ⟨by decide +kernel, by decide⟩
theorem eX6_rests_131 : decode cX6_rests 131 = .ok (.iload_n 3, 1) ∧ 131 + 1 = 132 := ⟨by decide +kernel, rfl⟩
theorem eX6_rests_132 : decode cX6_rests 132 = .ok (.ifCond .ne 8, 3) ∧ ((132 : Nat) : Int) + 8 = ((140 : Nat) : Int) ∧ 132 + 3 = 135 := ⟨by decide +kernel, by decide, rfl⟩
theorem eX6_rests_135 : decode cX6_rests 135 = .ok (.iload 4, 2) ∧ 135 + 2 = 137 := ⟨by decide +kernel, rfl⟩
theorem eX6_rests_137 : decode cX6_rests 137 = .ok (.goto 5, 3) ∧ ((137 : Nat) : Int) + 5 = ((142 : Nat) : Int) := ⟨by decide +kernel, by decide⟩
theorem eX6_rests_140 : decode cX6_rests 140 = .ok (.iload 5, 2) ∧ 140 + 2 = 142 := ⟨by decide +kernel, rfl⟩
theorem eX6_rests_142 : decode cX6_rests 142 = .ok (.ireturn, 1) := by decide +kernel
theorem eX6_areOpen_0 : decode cX6_areOpen 0 = .ok (.aload_n 0, 1) ∧ 0 + 1 = 1 := ⟨by decide +kernel, rfl⟩
theorem eX6_areOpen_1 : decode cX6_areOpen 1 = .ok (.invokevirtual 141, 3) ∧ 1 + 3 = 4 := ⟨by decide +kernel, rfl⟩
theorem eX6_areOpen_4 : decode cX6_areOpen 4 = .ok (.aload_n 0, 1) ∧ 4 + 1 = 5 := ⟨by decide +kernel, rfl⟩
theorem eX6_areOpen_5 : decode cX6_areOpen 5 = .ok (.getfield 25, 3) ∧ 5 + 3 = 8 := ⟨by decide +kernel, rfl⟩
theorem eX6_areOpen_8 : decode cX6_areOpen 8 = .ok (.iconst 2, 1) ∧ 8 + 1 = 9 := ⟨by decide +kernel, rfl⟩
theorem eX6_areOpen_9 : decode cX6_areOpen 9 = .ok (.iaload, 1) ∧ 9 + 1 = 10 := ⟨by decide +kernel, rfl⟩
theorem eX6_areOpen_10 : decode cX6_areOpen 10 = .ok (.iconst (-1), 1) ∧ 10 + 1 = 11 := ⟨by decide +kernel, rfl⟩
theorem eX6_areOpen_11 : decode cX6_areOpen 11 = .ok (.ixor, 1) ∧ 11 + 1 = 12 := ⟨by decide +kernel, rfl⟩
theorem eX6_areOpen_12 : decode cX6_areOpen 12 = .ok (.iand, 1) ∧ 12 + 1 = 13 := ⟨by decide +kernel, rfl⟩
theorem eX6_areOpen_13 : decode cX6_areOpen 13 = .ok (.istore_n 3, 1) ∧ 13 + 1 = 14 := ⟨by decide +kernel, rfl⟩
theorem eX6_areOpen_14 : decode cX6_areOpen 14 = .ok (.iconst 1, 1) ∧ 14 + 1 = 15 := ⟨by decide +kernel, rfl⟩
theorem eX6_areOpen_15 : decode cX6_areOpen 15 = .ok (.istore 4, 2) ∧ 15 + 2 = 17 := ⟨by decide +kernel, rfl⟩
theorem eX6_areOpen_17 : decode cX6_areOpen 17 = .ok (.iconst 0, 1) ∧ 17 + 1 = 18 := ⟨by decide +kernel, rfl⟩
theorem eX6_areOpen_18 : decode cX6_areOpen 18 = .ok (.istore 5, 2) ∧ 18 + 2 = 20 := ⟨by decide +kernel, rfl⟩
theorem eX6_areOpen_20 : decode cX6_areOpen 20 = .ok (.iload 5, 2) ∧ 20 + 2 = 22 := ⟨by decide +kernel, rfl⟩
theorem eX6_areOpen_22 : decode cX6_areOpen 22 = .ok (.iload_n 1, 1) ∧ 22 + 1 = 23 := ⟨by decide +kernel, rfl⟩
theorem eX6_areOpen_23 : decode cX6_areOpen 23 = .ok (.if_icmp .ge 71, 3) ∧ ((23 : Nat) : Int) + 71 = ((94 : Nat) : Int) ∧ 23 + 3 = 26 := ⟨by decide +kernel, by decide, rfl⟩
theorem eX6_areOpen_26 : decode cX6_areOpen 26 = .ok (.iload_n 2, 1) ∧ 26 + 1 = 27 := ⟨by decide +kernel, rfl⟩
theorem eX6_areOpen_27 : decode cX6_areOpen 27 = .ok (.iload 5, 2) ∧ 27 + 2 = 29 := ⟨by decide +kernel, rfl⟩
theorem eX6_areOpen_29 : decode cX6_areOpen 29 = .ok (.invokestatic 157, 3) ∧ 29 + 3 = 32 := ⟨by decide +kernel, rfl⟩
theorem eX6_areOpen_32 : decode cX6_areOpen 32 = .ok (.idiv, 1) ∧ 32 + 1 = 33 := ⟨by decide +kernel, rfl⟩
theorem eX6_areOpen_33 : decode cX6_areOpen 33 = .ok (.bipush 10, 2) ∧ 33 + 2 = 35 := ⟨by decide +kernel, rfl⟩
theorem eX6_areOpen_35 : decode cX6_areOpen 35 = .ok (.irem, 1) ∧ 35 + 1 = 36 := ⟨by decide +kernel, rfl⟩
theorem eX6_areOpen_36 : decode cX6_areOpen 36 = .ok (.iconst 1, 1) ∧ 36 + 1 = 37 := ⟨by decide +kernel, rfl⟩
theorem eX6_areOpen_37 : decode cX6_areOpen 37 = .ok (.isub, 1) ∧ 37 + 1 = 38 := ⟨by decide +kernel, rfl⟩
theorem eX6_areOpen_38 : decode cX6_areOpen 38 = .ok (.istore 6, 2) ∧ 38 + 2 = 40 := ⟨by decide +kernel, rfl⟩
theorem eX6_areOpen_40 : decode cX6_areOpen 40 = .ok (.iload 4, 2) ∧ 40 + 2 = 42 := ⟨by decide +kernel, rfl⟩
theorem eX6_areOpen_42 : decode cX6_areOpen 42 = .ok (.ifCond .eq 25, 3) ∧ ((42 : Nat) : Int) + 25 = ((67 : Nat) : Int) ∧ 42 + 3 = 45 := ⟨by decide +kernel, by decide, rfl⟩
theorem eX6_areOpen_45 : decode cX6_areOpen 45 = .ok (.aload_n 0, 1) ∧ 45 + 1 = 46 := ⟨by decide +kernel, rfl⟩
theorem eX6_areOpen_46 : decode cX6_areOpen 46 = .ok (.iload 6, 2) ∧ 46 + 2 = 48 := ⟨by decide +kernel, rfl⟩
theorem eX6_areOpen_48 : decode cX6_areOpen 48 = .ok (.invokevirtual 109, 3) ∧ 48 + 3 = 51 := ⟨by decide +kernel, rfl⟩
theorem eX6_areOpen_51 : decode cX6_areOpen 51 = .ok (.ifCond .eq 16, 3) ∧ ((51 : Nat) : Int) + 16 = ((67 : Nat) : Int) ∧ 51 + 3 = 54 := ⟨by decide +kernel, by decide, rfl⟩
theorem eX6_areOpen_54 : decode cX6_areOpen 54 = .ok (.iload_n 3, 1) ∧ 54 + 1 = 55 := ⟨by decide +kernel, rfl⟩
theorem eX6_areOpen_55 : decode cX6_areOpen 55 = .ok (.iload 6, 2) ∧ 55 + 2 = 57 := ⟨by decide +kernel, rfl⟩
theorem eX6_areOpen_57 : decode cX6_areOpen 57 = .ok (.invokestatic 94, 3) ∧ 57 + 3 = 60 := ⟨by decide +kernel, rfl⟩
theorem eX6_areOpen_60 : decode cX6_areOpen 60 = .ok (.ifCond .eq 7, 3) ∧ ((60 : Nat) : Int) + 7 = ((67 : Nat) : Int) ∧ 60 + 3 = 63 := ⟨by decide +kernel, by decide, rfl⟩
theorem eX6_areOpen_63 : decode cX6_areOpen 63 = .ok (.iconst 1, 1) ∧ 63 + 1 = 64 := ⟨by decide +kernel, rfl⟩
theorem eX6_areOpen_64 : decode cX6_areOpen 64 = .ok (.goto 4, 3) ∧ ((64 : Nat) : Int) + 4 = ((68 : Nat) : Int) := ⟨by decide +kernel, by decide⟩
theorem eX6_areOpen_67 : decode cX6_areOpen 67 = .ok (.iconst 0, 1) ∧ 67 + 1 = 68 := ⟨by decide +kernel, rfl⟩
theorem eX6_areOpen_68 : decode cX6_areOpen 68 = .ok (.istore 4, 2) ∧ 68 + 2 = 70 := ⟨by decide +kernel, rfl⟩
theorem eX6_areOpen_70 : decode cX6_areOpen 70 = .ok (.iload_n 3, 1) ∧ 70 + 1 = 71 := ⟨by decide +kernel, rfl⟩
theorem eX6_areOpen_71 : decode cX6_areOpen 71 = .ok (.iload 4, 2) ∧ 71 + 2 = 73 := ⟨by decide +kernel, rfl⟩
theorem eX6_areOpen_73 : decode cX6_areOpen 73 = .ok (.ifCond .eq 12, 3) ∧ ((73 : Nat) : Int) + 12 = ((85 : Nat) : Int) ∧ 73 + 3 = 76 := ⟨by decide +kernel, by decide, rfl⟩
theorem eX6_areOpen_76 : decode cX6_areOpen 76 = .ok (.iconst 1, 1) ∧ 76 + 1 = 77 := ⟨by decide +kernel, rfl⟩
theorem eX6_areOpen_77 : decode cX6_areOpen 77 = .ok (.iload 6, 2) ∧ 77 + 2 = 79 := ⟨by decide +kernel, rfl⟩
theorem eX6_areOpen_79 : decode cX6_areOpen 79 = .ok (.ishl, 1) ∧ 79 + 1 = 80 := ⟨by decide +kernel, rfl⟩
theorem eX6_areOpen_80 : decode cX6_areOpen 80 = .ok (.iconst (-1), 1) ∧ 80 + 1 = 81 := ⟨by decide +kernel, rfl⟩
theorem eX6_areOpen_81 : decode cX6_areOpen 81 = .ok (.ixor, 1) ∧ 81 + 1 = 82 := ⟨by decide +kernel, rfl⟩
theorem eX6_areOpen_82 : decode cX6_areOpen 82 = .ok (.goto 4, 3) ∧ ((82 : Nat) : Int) + 4 = ((86 : Nat) : Int) := ⟨by decide +kernel, by decide⟩
theorem eX6_areOpen_85 : decode cX6_areOpen 85 = .ok (.iconst (-1), 1) ∧ 85 + 1 = 86 := ⟨by decide +kernel, rfl⟩
theorem eX6_areOpen_86 : decode cX6_areOpen 86 = .ok (.iand, 1) ∧ 86 + 1 = 87 := ⟨by decide +kernel, rfl⟩
theorem eX6_areOpen_87 : decode cX6_areOpen 87 = .ok (.istore_n 3, 1) ∧ 87 + 1 = 88 := ⟨by decide +kernel, rfl⟩
theorem eX6_areOpen_88 : decode cX6_areOpen 88 = .ok (.iinc 5 1, 3) ∧ 88 + 3 = 91 := ⟨by decide +kernel, rfl⟩
theorem eX6_areOpen_91 : decode cX6_areOpen 91 = .ok (.goto (-71), 3) ∧ ((91 : Nat) : Int) + (-71) = ((20 : Nat) : Int) := ⟨by decide +kernel, by decide⟩
theorem eX6_areOpen_94 : decode cX6_areOpen 94 = .ok (.iload 4, 2) ∧ 94 + 2 = 96 := ⟨by decide +kernel, rfl⟩
theorem eX6_areOpen_96 : decode cX6_areOpen 96 = .ok (.ireturn, 1) := by decide +kernel
theorem eX6_holds_0 : decode cX6_holds 0 = .ok (.aload_n 0, 1) ∧ 0 + 1 = 1 := ⟨by decide +kernel, rfl⟩
theorem eX6_holds_1 : decode cX6_holds 1 = .ok (.getfield 25, 3) ∧ 1 + 3 = 4 := ⟨by decide +kernel, rfl⟩
theorem eX6_holds_4 : decode cX6_holds 4 = .ok (.iconst 1, 1) ∧ 4 + 1 = 5 := ⟨by decide +kernel, rfl⟩
theorem eX6_holds_5 : decode cX6_holds 5 = .ok (.iaload, 1) ∧ 5 + 1 = 6 := ⟨by decide +kernel, rfl⟩
theorem eX6_holds_6 : decode cX6_holds 6 = .ok (.istore 4, 2) ∧ 6 + 2 = 8 := ⟨by decide +kernel, rfl⟩
theorem eX6_holds_8 : decode cX6_holds 8 = .ok (.aload_n 0, 1) ∧ 8 + 1 = 9 := ⟨by decide +kernel, rfl⟩
theorem eX6_holds_9 : decode cX6_holds 9 = .ok (.getfield 25, 3) ∧ 9 + 3 = 12 := ⟨by decide +kernel, rfl⟩
theorem eX6_holds_12 : decode cX6_holds 12 = .ok (.iconst 0, 1) ∧ 12 + 1 = 13 := ⟨by decide +kernel, rfl⟩
theorem eX6_holds_13 : decode cX6_holds 13 = .ok (.iaload, 1) ∧ 13 + 1 = 14 := ⟨by decide +kernel, rfl⟩
theorem eX6_holds_14 : decode cX6_holds 14 = .ok (.istore 5, 2) ∧ 14 + 2 = 16 := ⟨by decide +kernel, rfl⟩
theorem eX6_holds_16 : decode cX6_holds 16 = .ok (.iconst 0, 1) ∧ 16 + 1 = 17 := ⟨by decide +kernel, rfl⟩
theorem eX6_holds_17 : decode cX6_holds 17 = .ok (.istore 6, 2) ∧ 17 + 2 = 19 := ⟨by decide +kernel, rfl⟩
theorem eX6_holds_19 : decode cX6_holds 19 = .ok (.iload 6, 2) ∧ 19 + 2 = 21 := ⟨by decide +kernel, rfl⟩
theorem eX6_holds_21 : decode cX6_holds 21 = .ok (.iload_n 1, 1) ∧ 21 + 1 = 22 := ⟨by decide +kernel, rfl⟩
theorem eX6_holds_22 : decode cX6_holds 22 = .ok (.if_icmp .ge 74, 3) ∧ ((22 : Nat) : Int) + 74 = ((96 : Nat) : Int) ∧ 22 + 3 = 25 := ⟨by decide +kernel, by decide, rfl⟩
theorem eX6_holds_25 : decode cX6_holds 25 = .ok (.iload_n 2, 1) ∧ 25 + 1 = 26 := ⟨by decide +kernel, rfl⟩
theorem eX6_holds_26 : decode cX6_holds 26 = .ok (.iload_n 1, 1) ∧ 26 + 1 = 27 := ⟨by decide +kernel, rfl⟩
theorem eX6_holds_27 : decode cX6_holds 27 = .ok (.iconst 1, 1) ∧ 27 + 1 = 28 := ⟨by decide +kernel, rfl⟩
theorem eX6_holds_28 : decode cX6_holds 28 = .ok (.isub, 1) ∧ 28 + 1 = 29 := ⟨by decide +kernel, rfl⟩
theorem eX6_holds_29 : decode cX6_holds 29 = .ok (.iload 6, 2) ∧ 29 + 2 = 31 := ⟨by decide +kernel, rfl⟩
theorem eX6_holds_31 : decode cX6_holds 31 = .ok (.isub, 1) ∧ 31 + 1 = 32 := ⟨by decide +kernel, rfl⟩
theorem eX6_holds_32 : decode cX6_holds 32 = .ok (.invokestatic 157, 3) ∧ 32 + 3 = 35 := ⟨by decide +kernel, rfl⟩
theorem eX6_holds_35 : decode cX6_holds 35 = .ok (.idiv, 1) ∧ 35 + 1 = 36 := ⟨by decide +kernel, rfl⟩
theorem eX6_holds_36 : decode cX6_holds 36 = .ok (.bipush 10, 2) ∧ 36 + 2 = 38 := ⟨by decide +kernel, rfl⟩
theorem eX6_holds_38 : decode cX6_holds 38 = .ok (.irem, 1) ∧ 38 + 1 = 39 := ⟨by decide +kernel, rfl⟩
theorem eX6_holds_39 : decode cX6_holds 39 = .ok (.iconst 1, 1) ∧ 39 + 1 = 40 := ⟨by decide +kernel, rfl⟩
theorem eX6_holds_40 : decode cX6_holds 40 = .ok (.isub, 1) ∧ 40 + 1 = 41 := ⟨by decide +kernel, rfl⟩
theorem eX6_holds_41 : decode cX6_holds 41 = .ok (.istore 7, 2) ∧ 41 + 2 = 43 := ⟨by decide +kernel, rfl⟩
theorem eX6_holds_43 : decode cX6_holds 43 = .ok (.aload_n 0, 1) ∧ 43 + 1 = 44 := ⟨by decide +kernel, rfl⟩
theorem eX6_holds_44 : decode cX6_holds 44 = .ok (.iconst 0, 1) ∧ 44 + 1 = 45 := ⟨by decide +kernel, rfl⟩
theorem eX6_holds_45 : decode cX6_holds 45 = .ok (.iload 7, 2) ∧ 45 + 2 = 47 := ⟨by decide +kernel, rfl⟩
theorem eX6_holds_47 : decode cX6_holds 47 = .ok (.iload 4, 2) ∧ 47 + 2 = 49 := ⟨by decide +kernel, rfl⟩
theorem eX6_holds_49 : decode cX6_holds 49 = .ok (.iload 5, 2) ∧ 49 + 2 = 51 := ⟨by decide +kernel, rfl⟩
theorem eX6_holds_51 : decode cX6_holds 51 = .ok (.iload_n 3, 1) ∧ 51 + 1 = 52 := ⟨by decide +kernel, rfl⟩
theorem eX6_holds_52 : decode cX6_holds 52 = .ok (.iload 6, 2) ∧ 52 + 2 = 54 := ⟨by decide +kernel, rfl⟩
theorem eX6_holds_54 : decode cX6_holds 54 = .ok (.ishr, 1) ∧ 54 + 1 = 55 := ⟨by decide +kernel, rfl⟩
theorem eX6_holds_55 : decode cX6_holds 55 = .ok (.iconst 1, 1) ∧ 55 + 1 = 56 := ⟨by decide +kernel, rfl⟩
theorem eX6_holds_56 : decode cX6_holds 56 = .ok (.iand, 1) ∧ 56 + 1 = 57 := ⟨by decide +kernel, rfl⟩
theorem eX6_holds_57 : decode cX6_holds 57 = .ok (.invokevirtual 98, 3) ∧ 57 + 3 = 60 := ⟨by decide +kernel, rfl⟩
theorem eX6_holds_60 : decode cX6_holds 60 = .ok (.istore 8, 2) ∧ 60 + 2 = 62 := ⟨by decide +kernel, rfl⟩
theorem eX6_holds_62 : decode cX6_holds 62 = .ok (.iload 8, 2) ∧ 62 + 2 = 64 := ⟨by decide +kernel, rfl⟩
theorem eX6_holds_64 : decode cX6_holds 64 = .ok (.bipush (-9), 2) ∧ 64 + 2 = 66 := ⟨by decide +kernel, rfl⟩
theorem eX6_holds_66 : decode cX6_holds 66 = .ok (.if_icmp .ne 5, 3) ∧ ((66 : Nat) : Int) + 5 = ((71 : Nat) : Int) ∧ 66 + 3 = 69 := ⟨by decide +kernel, by decide, rfl⟩
theorem eX6_holds_69 : decode cX6_holds 69 = .ok (.iconst 0, 1) ∧ 69 + 1 = 70 := ⟨by decide +kernel, rfl⟩
theorem eX6_holds_70 : decode cX6_holds 70 = .ok (.ireturn, 1) := by decide +kernel
theorem eX6_holds_71 : decode cX6_holds 71 = .ok (.aload_n 0, 1) ∧ 71 + 1 = 72 := ⟨by decide +kernel, rfl⟩
theorem eX6_holds_72 : decode cX6_holds 72 = .ok (.iload 7, 2) ∧ 72 + 2 = 74 := ⟨by decide +kernel, rfl⟩
theorem eX6_holds_74 : decode cX6_holds 74 = .ok (.iload 8, 2) ∧ 74 + 2 = 76 := ⟨by decide +kernel, rfl⟩
theorem eX6_holds_76 : decode cX6_holds 76 = .ok (.invokevirtual 106, 3) ∧ 76 + 3 = 79 := ⟨by decide +kernel, rfl⟩
theorem eX6_holds_79 : decode cX6_holds 79 = .ok (.istore 5, 2) ∧ 79 + 2 = 81 := ⟨by decide +kernel, rfl⟩
theorem eX6_holds_81 : decode cX6_holds 81 = .ok (.aload_n 0, 1) ∧ 81 + 1 = 82 := ⟨by decide +kernel, rfl⟩
theorem eX6_holds_82 : decode cX6_holds 82 = .ok (.getfield 7, 3) ∧ 82 + 3 = 85 := ⟨by decide +kernel, rfl⟩
theorem eX6_holds_85 : decode cX6_holds 85 = .ok (.iload 7, 2) ∧ 85 + 2 = 87 := ⟨by decide +kernel, rfl⟩
theorem eX6_holds_87 : decode cX6_holds 87 = .ok (.iaload, 1) ∧ 87 + 1 = 88 := ⟨by decide +kernel, rfl⟩
theorem eX6_holds_88 : decode cX6_holds 88 = .ok (.istore 4, 2) ∧ 88 + 2 = 90 := ⟨by decide +kernel, rfl⟩
theorem eX6_holds_90 : decode cX6_holds 90 = .ok (.iinc 6 1, 3) ∧ 90 + 3 = 93 := ⟨by decide +kernel, rfl⟩
theorem eX6_holds_93 : decode cX6_holds 93 = .ok (.goto (-74), 3) ∧ ((93 : Nat) : Int) + (-74) = ((19 : Nat) : Int) := ⟨by decide +kernel, by decide⟩
theorem eX6_holds_96 : decode cX6_holds 96 = .ok (.iconst 1, 1) ∧ 96 + 1 = 97 := ⟨by decide +kernel, rfl⟩
theorem eX6_holds_97 : decode cX6_holds 97 = .ok (.ireturn, 1) := by decide +kernel
theorem eX6_waysIn_0 : decode cX6_waysIn 0 = .ok (.aload_n 0, 1) ∧ 0 + 1 = 1 := ⟨by decide +kernel, rfl⟩
theorem eX6_waysIn_1 : decode cX6_waysIn 1 = .ok (.getfield 25, 3) ∧ 1 + 3 = 4 := ⟨by decide +kernel, rfl⟩
theorem eX6_waysIn_4 : decode cX6_waysIn 4 = .ok (.iconst 1, 1) ∧ 4 + 1 = 5 := ⟨by decide +kernel, rfl⟩
theorem eX6_waysIn_5 : decode cX6_waysIn 5 = .ok (.iaload, 1) ∧ 5 + 1 = 6 := ⟨by decide +kernel, rfl⟩
theorem eX6_waysIn_6 : decode cX6_waysIn 6 = .ok (.istore_n 3, 1) ∧ 6 + 1 = 7 := ⟨by decide +kernel, rfl⟩
theorem eX6_waysIn_7 : decode cX6_waysIn 7 = .ok (.iconst 0, 1) ∧ 7 + 1 = 8 := ⟨by decide +kernel, rfl⟩
theorem eX6_waysIn_8 : decode cX6_waysIn 8 = .ok (.istore 4, 2) ∧ 8 + 2 = 10 := ⟨by decide +kernel, rfl⟩
theorem eX6_waysIn_10 : decode cX6_waysIn 10 = .ok (.iconst 0, 1) ∧ 10 + 1 = 11 := ⟨by decide +kernel, rfl⟩
theorem eX6_waysIn_11 : decode cX6_waysIn 11 = .ok (.istore 5, 2) ∧ 11 + 2 = 13 := ⟨by decide +kernel, rfl⟩
theorem eX6_waysIn_13 : decode cX6_waysIn 13 = .ok (.iload 5, 2) ∧ 13 + 2 = 15 := ⟨by decide +kernel, rfl⟩
theorem eX6_waysIn_15 : decode cX6_waysIn 15 = .ok (.iload_n 1, 1) ∧ 15 + 1 = 16 := ⟨by decide +kernel, rfl⟩
theorem eX6_waysIn_16 : decode cX6_waysIn 16 = .ok (.if_icmp .ge 64, 3) ∧ ((16 : Nat) : Int) + 64 = ((80 : Nat) : Int) ∧ 16 + 3 = 19 := ⟨by decide +kernel, by decide, rfl⟩
theorem eX6_waysIn_19 : decode cX6_waysIn 19 = .ok (.iload_n 2, 1) ∧ 19 + 1 = 20 := ⟨by decide +kernel, rfl⟩
theorem eX6_waysIn_20 : decode cX6_waysIn 20 = .ok (.iload_n 1, 1) ∧ 20 + 1 = 21 := ⟨by decide +kernel, rfl⟩
theorem eX6_waysIn_21 : decode cX6_waysIn 21 = .ok (.iconst 1, 1) ∧ 21 + 1 = 22 := ⟨by decide +kernel, rfl⟩
theorem eX6_waysIn_22 : decode cX6_waysIn 22 = .ok (.isub, 1) ∧ 22 + 1 = 23 := ⟨by decide +kernel, rfl⟩
theorem eX6_waysIn_23 : decode cX6_waysIn 23 = .ok (.iload 5, 2) ∧ 23 + 2 = 25 := ⟨by decide +kernel, rfl⟩
theorem eX6_waysIn_25 : decode cX6_waysIn 25 = .ok (.isub, 1) ∧ 25 + 1 = 26 := ⟨by decide +kernel, rfl⟩
theorem eX6_waysIn_26 : decode cX6_waysIn 26 = .ok (.invokestatic 157, 3) ∧ 26 + 3 = 29 := ⟨by decide +kernel, rfl⟩
theorem eX6_waysIn_29 : decode cX6_waysIn 29 = .ok (.idiv, 1) ∧ 29 + 1 = 30 := ⟨by decide +kernel, rfl⟩
theorem eX6_waysIn_30 : decode cX6_waysIn 30 = .ok (.bipush 10, 2) ∧ 30 + 2 = 32 := ⟨by decide +kernel, rfl⟩
theorem eX6_waysIn_32 : decode cX6_waysIn 32 = .ok (.irem, 1) ∧ 32 + 1 = 33 := ⟨by decide +kernel, rfl⟩
theorem eX6_waysIn_33 : decode cX6_waysIn 33 = .ok (.iconst 1, 1) ∧ 33 + 1 = 34 := ⟨by decide +kernel, rfl⟩
theorem eX6_waysIn_34 : decode cX6_waysIn 34 = .ok (.isub, 1) ∧ 34 + 1 = 35 := ⟨by decide +kernel, rfl⟩
theorem eX6_waysIn_35 : decode cX6_waysIn 35 = .ok (.istore 6, 2) ∧ 35 + 2 = 37 := ⟨by decide +kernel, rfl⟩
theorem eX6_waysIn_37 : decode cX6_waysIn 37 = .ok (.iload 4, 2) ∧ 37 + 2 = 39 := ⟨by decide +kernel, rfl⟩
theorem eX6_waysIn_39 : decode cX6_waysIn 39 = .ok (.aload_n 0, 1) ∧ 39 + 1 = 40 := ⟨by decide +kernel, rfl⟩
theorem eX6_waysIn_40 : decode cX6_waysIn 40 = .ok (.iconst 0, 1) ∧ 40 + 1 = 41 := ⟨by decide +kernel, rfl⟩
theorem eX6_waysIn_41 : decode cX6_waysIn 41 = .ok (.iload_n 3, 1) ∧ 41 + 1 = 42 := ⟨by decide +kernel, rfl⟩
theorem eX6_waysIn_42 : decode cX6_waysIn 42 = .ok (.aload_n 0, 1) ∧ 42 + 1 = 43 := ⟨by decide +kernel, rfl⟩
theorem eX6_waysIn_43 : decode cX6_waysIn 43 = .ok (.getfield 7, 3) ∧ 43 + 3 = 46 := ⟨by decide +kernel, rfl⟩
theorem eX6_waysIn_46 : decode cX6_waysIn 46 = .ok (.iload 6, 2) ∧ 46 + 2 = 48 := ⟨by decide +kernel, rfl⟩
theorem eX6_waysIn_48 : decode cX6_waysIn 48 = .ok (.iaload, 1) ∧ 48 + 1 = 49 := ⟨by decide +kernel, rfl⟩
theorem eX6_waysIn_49 : decode cX6_waysIn 49 = .ok (.invokevirtual 86, 3) ∧ 49 + 3 = 52 := ⟨by decide +kernel, rfl⟩
theorem eX6_waysIn_52 : decode cX6_waysIn 52 = .ok (.ifCond .le 10, 3) ∧ ((52 : Nat) : Int) + 10 = ((62 : Nat) : Int) ∧ 52 + 3 = 55 := ⟨by decide +kernel, by decide, rfl⟩
theorem eX6_waysIn_55 : decode cX6_waysIn 55 = .ok (.iconst 1, 1) ∧ 55 + 1 = 56 := ⟨by decide +kernel, rfl⟩
theorem eX6_waysIn_56 : decode cX6_waysIn 56 = .ok (.iload 5, 2) ∧ 56 + 2 = 58 := ⟨by decide +kernel, rfl⟩
theorem eX6_waysIn_58 : decode cX6_waysIn 58 = .ok (.ishl, 1) ∧ 58 + 1 = 59 := ⟨by decide +kernel, rfl⟩
theorem eX6_waysIn_59 : decode cX6_waysIn 59 = .ok (.goto 4, 3) ∧ ((59 : Nat) : Int) + 4 = ((63 : Nat) : Int) := ⟨by decide +kernel, by decide⟩
theorem eX6_waysIn_62 : decode cX6_waysIn 62 = .ok (.iconst 0, 1) ∧ 62 + 1 = 63 := ⟨by decide +kernel, rfl⟩
theorem eX6_waysIn_63 : decode cX6_waysIn 63 = .ok (.ior, 1) ∧ 63 + 1 = 64 := ⟨by decide +kernel, rfl⟩
theorem eX6_waysIn_64 : decode cX6_waysIn 64 = .ok (.istore 4, 2) ∧ 64 + 2 = 66 := ⟨by decide +kernel, rfl⟩
theorem eX6_waysIn_66 : decode cX6_waysIn 66 = .ok (.aload_n 0, 1) ∧ 66 + 1 = 67 := ⟨by decide +kernel, rfl⟩
theorem eX6_waysIn_67 : decode cX6_waysIn 67 = .ok (.getfield 7, 3) ∧ 67 + 3 = 70 := ⟨by decide +kernel, rfl⟩
theorem eX6_waysIn_70 : decode cX6_waysIn 70 = .ok (.iload 6, 2) ∧ 70 + 2 = 72 := ⟨by decide +kernel, rfl⟩
theorem eX6_waysIn_72 : decode cX6_waysIn 72 = .ok (.iaload, 1) ∧ 72 + 1 = 73 := ⟨by decide +kernel, rfl⟩
theorem eX6_waysIn_73 : decode cX6_waysIn 73 = .ok (.istore_n 3, 1) ∧ 73 + 1 = 74 := ⟨by decide +kernel, rfl⟩
theorem eX6_waysIn_74 : decode cX6_waysIn 74 = .ok (.iinc 5 1, 3) ∧ 74 + 3 = 77 := ⟨by decide +kernel, rfl⟩
theorem eX6_waysIn_77 : decode cX6_waysIn 77 = .ok (.goto (-64), 3) ∧ ((77 : Nat) : Int) + (-64) = ((13 : Nat) : Int) := ⟨by decide +kernel, by decide⟩
theorem eX6_waysIn_80 : decode cX6_waysIn 80 = .ok (.iload 4, 2) ∧ 80 + 2 = 82 := ⟨by decide +kernel, rfl⟩
theorem eX6_waysIn_82 : decode cX6_waysIn 82 = .ok (.ireturn, 1) := by decide +kernel
theorem eX6_power_0 : decode cX6_power 0 = .ok (.iconst 1, 1) ∧ 0 + 1 = 1 := ⟨by decide +kernel, rfl⟩
theorem eX6_power_1 : decode cX6_power 1 = .ok (.istore_n 2, 1) ∧ 1 + 1 = 2 := ⟨by decide +kernel, rfl⟩
theorem eX6_power_2 : decode cX6_power 2 = .ok (.iconst 0, 1) ∧ 2 + 1 = 3 := ⟨by decide +kernel, rfl⟩
theorem eX6_power_3 : decode cX6_power 3 = .ok (.istore_n 3, 1) ∧ 3 + 1 = 4 := ⟨by decide +kernel, rfl⟩
theorem eX6_power_4 : decode cX6_power 4 = .ok (.iload_n 3, 1) ∧ 4 + 1 = 5 := ⟨by decide +kernel, rfl⟩
theorem eX6_power_5 : decode cX6_power 5 = .ok (.iload_n 1, 1) ∧ 5 + 1 = 6 := ⟨by decide +kernel, rfl⟩
theorem eX6_power_6 : decode cX6_power 6 = .ok (.if_icmp .ge 13, 3) ∧ ((6 : Nat) : Int) + 13 = ((19 : Nat) : Int) ∧ 6 + 3 = 9 := ⟨by decide +kernel, by decide, rfl⟩
theorem eX6_power_9 : decode cX6_power 9 = .ok (.iload_n 2, 1) ∧ 9 + 1 = 10 := ⟨by decide +kernel, rfl⟩
theorem eX6_power_10 : decode cX6_power 10 = .ok (.iload_n 0, 1) ∧ 10 + 1 = 11 := ⟨by decide +kernel, rfl⟩
theorem eX6_power_11 : decode cX6_power 11 = .ok (.imul, 1) ∧ 11 + 1 = 12 := ⟨by decide +kernel, rfl⟩
theorem eX6_power_12 : decode cX6_power 12 = .ok (.istore_n 2, 1) ∧ 12 + 1 = 13 := ⟨by decide +kernel, rfl⟩
theorem eX6_power_13 : decode cX6_power 13 = .ok (.iinc 3 1, 3) ∧ 13 + 3 = 16 := ⟨by decide +kernel, rfl⟩
theorem eX6_power_16 : decode cX6_power 16 = .ok (.goto (-12), 3) ∧ ((16 : Nat) : Int) + (-12) = ((4 : Nat) : Int) := ⟨by decide +kernel, by decide⟩
theorem eX6_power_19 : decode cX6_power 19 = .ok (.iload_n 2, 1) ∧ 19 + 1 = 20 := ⟨by decide +kernel, rfl⟩
theorem eX6_power_20 : decode cX6_power 20 = .ok (.ireturn, 1) := by decide +kernel
theorem eX6_falls_0 : decode cX6_falls 0 = .ok (.iload_n 1, 1) ∧ 0 + 1 = 1 := ⟨by decide +kernel, rfl⟩
theorem eX6_falls_1 : decode cX6_falls 1 = .ok (.i2l, 1) ∧ 1 + 1 = 2 := ⟨by decide +kernel, rfl⟩
theorem eX6_falls_2 : decode cX6_falls 2 = .ok (.lconst 1, 1) ∧ 2 + 1 = 3 := ⟨by decide +kernel, rfl⟩
theorem eX6_falls_3 : decode cX6_falls 3 = .ok (.ldc2_w 155, 3) ∧ 3 + 3 = 6 := ⟨by decide +kernel, rfl⟩
theorem eX6_falls_6 : decode cX6_falls 6 = .ok (.invokestatic 59, 3) ∧ 6 + 3 = 9 := ⟨by decide +kernel, rfl⟩
theorem eX6_falls_9 : decode cX6_falls 9 = .ok (.ifCond .eq 31, 3) ∧ ((9 : Nat) : Int) + 31 = ((40 : Nat) : Int) ∧ 9 + 3 = 12 := ⟨by decide +kernel, by decide, rfl⟩
theorem eX6_falls_12 : decode cX6_falls 12 = .ok (.iload_n 2, 1) ∧ 12 + 1 = 13 := ⟨by decide +kernel, rfl⟩
theorem eX6_falls_13 : decode cX6_falls 13 = .ok (.i2l, 1) ∧ 13 + 1 = 14 := ⟨by decide +kernel, rfl⟩
theorem eX6_falls_14 : decode cX6_falls 14 = .ok (.lconst 0, 1) ∧ 14 + 1 = 15 := ⟨by decide +kernel, rfl⟩
theorem eX6_falls_15 : decode cX6_falls 15 = .ok (.iload_n 1, 1) ∧ 15 + 1 = 16 := ⟨by decide +kernel, rfl⟩
theorem eX6_falls_16 : decode cX6_falls 16 = .ok (.invokestatic 157, 3) ∧ 16 + 3 = 19 := ⟨by decide +kernel, rfl⟩
theorem eX6_falls_19 : decode cX6_falls 19 = .ok (.iconst 1, 1) ∧ 19 + 1 = 20 := ⟨by decide +kernel, rfl⟩
theorem eX6_falls_20 : decode cX6_falls 20 = .ok (.isub, 1) ∧ 20 + 1 = 21 := ⟨by decide +kernel, rfl⟩
theorem eX6_falls_21 : decode cX6_falls 21 = .ok (.i2l, 1) ∧ 21 + 1 = 22 := ⟨by decide +kernel, rfl⟩
theorem eX6_falls_22 : decode cX6_falls 22 = .ok (.invokestatic 59, 3) ∧ 22 + 3 = 25 := ⟨by decide +kernel, rfl⟩
theorem eX6_falls_25 : decode cX6_falls 25 = .ok (.ifCond .eq 15, 3) ∧ ((25 : Nat) : Int) + 15 = ((40 : Nat) : Int) ∧ 25 + 3 = 28 := ⟨by decide +kernel, by decide, rfl⟩
theorem eX6_falls_28 : decode cX6_falls 28 = .ok (.iload_n 3, 1) ∧ 28 + 1 = 29 := ⟨by decide +kernel, rfl⟩
theorem eX6_falls_29 : decode cX6_falls 29 = .ok (.i2l, 1) ∧ 29 + 1 = 30 := ⟨by decide +kernel, rfl⟩
theorem eX6_falls_30 : decode cX6_falls 30 = .ok (.lconst 0, 1) ∧ 30 + 1 = 31 := ⟨by decide +kernel, rfl⟩
theorem eX6_falls_31 : decode cX6_falls 31 = .ok (.ldc2_w 189, 3) ∧ 31 + 3 = 34 := ⟨by decide +kernel, rfl⟩
theorem eX6_falls_34 : decode cX6_falls 34 = .ok (.invokestatic 59, 3) ∧ 34 + 3 = 37 := ⟨by decide +kernel, rfl⟩
theorem eX6_falls_37 : decode cX6_falls 37 = .ok (.ifCond .ne 6, 3) ∧ ((37 : Nat) : Int) + 6 = ((43 : Nat) : Int) ∧ 37 + 3 = 40 := ⟨by decide +kernel, by decide, rfl⟩
theorem eX6_falls_40 : decode cX6_falls 40 = .ok (.bipush (-2), 2) ∧ 40 + 2 = 42 := ⟨by decide +kernel, rfl⟩
theorem eX6_falls_42 : decode cX6_falls 42 = .ok (.ireturn, 1) := by decide +kernel
theorem eX6_falls_43 : decode cX6_falls 43 = .ok (.aload_n 0, 1) ∧ 43 + 1 = 44 := ⟨by decide +kernel, rfl⟩
theorem eX6_falls_44 : decode cX6_falls 44 = .ok (.iload_n 1, 1) ∧ 44 + 1 = 45 := ⟨by decide +kernel, rfl⟩
theorem eX6_falls_45 : decode cX6_falls 45 = .ok (.iload_n 2, 1) ∧ 45 + 1 = 46 := ⟨by decide +kernel, rfl⟩
theorem eX6_falls_46 : decode cX6_falls 46 = .ok (.invokevirtual 191, 3) ∧ 46 + 3 = 49 := ⟨by decide +kernel, rfl⟩
theorem eX6_falls_49 : decode cX6_falls 49 = .ok (.ifCond .ne 6, 3) ∧ ((49 : Nat) : Int) + 6 = ((55 : Nat) : Int) ∧ 49 + 3 = 52 := ⟨by decide +kernel, by decide, rfl⟩
theorem eX6_falls_52 : decode cX6_falls 52 = .ok (.bipush (-3), 2) ∧ 52 + 2 = 54 := ⟨by decide +kernel, rfl⟩
theorem eX6_falls_54 : decode cX6_falls 54 = .ok (.ireturn, 1) := by decide +kernel
theorem eX6_falls_55 : decode cX6_falls 55 = .ok (.aload_n 0, 1) ∧ 55 + 1 = 56 := ⟨by decide +kernel, rfl⟩
theorem eX6_falls_56 : decode cX6_falls 56 = .ok (.iload_n 1, 1) ∧ 56 + 1 = 57 := ⟨by decide +kernel, rfl⟩
theorem eX6_falls_57 : decode cX6_falls 57 = .ok (.iload_n 2, 1) ∧ 57 + 1 = 58 := ⟨by decide +kernel, rfl⟩
theorem eX6_falls_58 : decode cX6_falls 58 = .ok (.invokevirtual 194, 3) ∧ 58 + 3 = 61 := ⟨by decide +kernel, rfl⟩
theorem eX6_falls_61 : decode cX6_falls 61 = .ok (.istore 5, 2) ∧ 61 + 2 = 63 := ⟨by decide +kernel, rfl⟩
theorem eX6_falls_63 : decode cX6_falls 63 = .ok (.iconst 0, 1) ∧ 63 + 1 = 64 := ⟨by decide +kernel, rfl⟩
theorem eX6_falls_64 : decode cX6_falls 64 = .ok (.istore 6, 2) ∧ 64 + 2 = 66 := ⟨by decide +kernel, rfl⟩
theorem eX6_falls_66 : decode cX6_falls 66 = .ok (.iconst 0, 1) ∧ 66 + 1 = 67 := ⟨by decide +kernel, rfl⟩
theorem eX6_falls_67 : decode cX6_falls 67 = .ok (.istore 7, 2) ∧ 67 + 2 = 69 := ⟨by decide +kernel, rfl⟩
theorem eX6_falls_69 : decode cX6_falls 69 = .ok (.iconst 0, 1) ∧ 69 + 1 = 70 := ⟨by decide +kernel, rfl⟩
theorem eX6_falls_70 : decode cX6_falls 70 = .ok (.istore 8, 2) ∧ 70 + 2 = 72 := ⟨by decide +kernel, rfl⟩
theorem eX6_falls_72 : decode cX6_falls 72 = .ok (.iload 8, 2) ∧ 72 + 2 = 74 := ⟨by decide +kernel, rfl⟩
theorem eX6_falls_74 : decode cX6_falls 74 = .ok (.iload 5, 2) ∧ 74 + 2 = 76 := ⟨by decide +kernel, rfl⟩
theorem eX6_falls_76 : decode cX6_falls 76 = .ok (.if_icmp .gt 78, 3) ∧ ((76 : Nat) : Int) + 78 = ((154 : Nat) : Int) ∧ 76 + 3 = 79 := ⟨by decide +kernel, by decide, rfl⟩
theorem eX6_falls_79 : decode cX6_falls 79 = .ok (.iload 8, 2) ∧ 79 + 2 = 81 := ⟨by decide +kernel, rfl⟩
theorem eX6_falls_81 : decode cX6_falls 81 = .ok (.iload 5, 2) ∧ 81 + 2 = 83 := ⟨by decide +kernel, rfl⟩
theorem eX6_falls_83 : decode cX6_falls 83 = .ok (.iconst (-1), 1) ∧ 83 + 1 = 84 := ⟨by decide +kernel, rfl⟩
theorem eX6_falls_84 : decode cX6_falls 84 = .ok (.ixor, 1) ∧ 84 + 1 = 85 := ⟨by decide +kernel, rfl⟩
theorem eX6_falls_85 : decode cX6_falls 85 = .ok (.iand, 1) ∧ 85 + 1 = 86 := ⟨by decide +kernel, rfl⟩
theorem eX6_falls_86 : decode cX6_falls 86 = .ok (.ifCond .ne 62, 3) ∧ ((86 : Nat) : Int) + 62 = ((148 : Nat) : Int) ∧ 86 + 3 = 89 := ⟨by decide +kernel, by decide, rfl⟩
theorem eX6_falls_89 : decode cX6_falls 89 = .ok (.iload_n 3, 1) ∧ 89 + 1 = 90 := ⟨by decide +kernel, rfl⟩
theorem eX6_falls_90 : decode cX6_falls 90 = .ok (.iload 8, 2) ∧ 90 + 2 = 92 := ⟨by decide +kernel, rfl⟩
theorem eX6_falls_92 : decode cX6_falls 92 = .ok (.invokestatic 130, 3) ∧ 92 + 3 = 95 := ⟨by decide +kernel, rfl⟩
theorem eX6_falls_95 : decode cX6_falls 95 = .ok (.invokestatic 197, 3) ∧ 95 + 3 = 98 := ⟨by decide +kernel, rfl⟩
theorem eX6_falls_98 : decode cX6_falls 98 = .ok (.bipush 10, 2) ∧ 98 + 2 = 100 := ⟨by decide +kernel, rfl⟩
theorem eX6_falls_100 : decode cX6_falls 100 = .ok (.iload_n 3, 1) ∧ 100 + 1 = 101 := ⟨by decide +kernel, rfl⟩
theorem eX6_falls_101 : decode cX6_falls 101 = .ok (.isub, 1) ∧ 101 + 1 = 102 := ⟨by decide +kernel, rfl⟩
theorem eX6_falls_102 : decode cX6_falls 102 = .ok (.iload 5, 2) ∧ 102 + 2 = 104 := ⟨by decide +kernel, rfl⟩
theorem eX6_falls_104 : decode cX6_falls 104 = .ok (.invokestatic 130, 3) ∧ 104 + 3 = 107 := ⟨by decide +kernel, rfl⟩
theorem eX6_falls_107 : decode cX6_falls 107 = .ok (.iload 8, 2) ∧ 107 + 2 = 109 := ⟨by decide +kernel, rfl⟩
theorem eX6_falls_109 : decode cX6_falls 109 = .ok (.invokestatic 130, 3) ∧ 109 + 3 = 112 := ⟨by decide +kernel, rfl⟩
theorem eX6_falls_112 : decode cX6_falls 112 = .ok (.isub, 1) ∧ 112 + 1 = 113 := ⟨by decide +kernel, rfl⟩
theorem eX6_falls_113 : decode cX6_falls 113 = .ok (.invokestatic 197, 3) ∧ 113 + 3 = 116 := ⟨by decide +kernel, rfl⟩
theorem eX6_falls_116 : decode cX6_falls 116 = .ok (.imul, 1) ∧ 116 + 1 = 117 := ⟨by decide +kernel, rfl⟩
theorem eX6_falls_117 : decode cX6_falls 117 = .ok (.istore 9, 2) ∧ 117 + 2 = 119 := ⟨by decide +kernel, rfl⟩
theorem eX6_falls_119 : decode cX6_falls 119 = .ok (.iload 7, 2) ∧ 119 + 2 = 121 := ⟨by decide +kernel, rfl⟩
theorem eX6_falls_121 : decode cX6_falls 121 = .ok (.iload 9, 2) ∧ 121 + 2 = 123 := ⟨by decide +kernel, rfl⟩
theorem eX6_falls_123 : decode cX6_falls 123 = .ok (.iadd, 1) ∧ 123 + 1 = 124 := ⟨by decide +kernel, rfl⟩
theorem eX6_falls_124 : decode cX6_falls 124 = .ok (.istore 7, 2) ∧ 124 + 2 = 126 := ⟨by decide +kernel, rfl⟩
theorem eX6_falls_126 : decode cX6_falls 126 = .ok (.iload 6, 2) ∧ 126 + 2 = 128 := ⟨by decide +kernel, rfl⟩
theorem eX6_falls_128 : decode cX6_falls 128 = .ok (.aload_n 0, 1) ∧ 128 + 1 = 129 := ⟨by decide +kernel, rfl⟩
theorem eX6_falls_129 : decode cX6_falls 129 = .ok (.iload_n 1, 1) ∧ 129 + 1 = 130 := ⟨by decide +kernel, rfl⟩
theorem eX6_falls_130 : decode cX6_falls 130 = .ok (.iload_n 2, 1) ∧ 130 + 1 = 131 := ⟨by decide +kernel, rfl⟩
theorem eX6_falls_131 : decode cX6_falls 131 = .ok (.iload 8, 2) ∧ 131 + 2 = 133 := ⟨by decide +kernel, rfl⟩
theorem eX6_falls_133 : decode cX6_falls 133 = .ok (.invokevirtual 200, 3) ∧ 133 + 3 = 136 := ⟨by decide +kernel, rfl⟩
theorem eX6_falls_136 : decode cX6_falls 136 = .ok (.ifCond .eq 8, 3) ∧ ((136 : Nat) : Int) + 8 = ((144 : Nat) : Int) ∧ 136 + 3 = 139 := ⟨by decide +kernel, by decide, rfl⟩
theorem eX6_falls_139 : decode cX6_falls 139 = .ok (.iload 9, 2) ∧ 139 + 2 = 141 := ⟨by decide +kernel, rfl⟩
theorem eX6_falls_141 : decode cX6_falls 141 = .ok (.goto 4, 3) ∧ ((141 : Nat) : Int) + 4 = ((145 : Nat) : Int) := ⟨by decide +kernel, by decide⟩
theorem eX6_falls_144 : decode cX6_falls 144 = .ok (.iconst 0, 1) ∧ 144 + 1 = 145 := ⟨by decide +kernel, rfl⟩
theorem eX6_falls_145 : decode cX6_falls 145 = .ok (.iadd, 1) ∧ 145 + 1 = 146 := ⟨by decide +kernel, rfl⟩
theorem eX6_falls_146 : decode cX6_falls 146 = .ok (.istore 6, 2) ∧ 146 + 2 = 148 := ⟨by decide +kernel, rfl⟩
theorem eX6_falls_148 : decode cX6_falls 148 = .ok (.iinc 8 1, 3) ∧ 148 + 3 = 151 := ⟨by decide +kernel, rfl⟩
theorem eX6_falls_151 : decode cX6_falls 151 = .ok (.goto (-79), 3) ∧ ((151 : Nat) : Int) + (-79) = ((72 : Nat) : Int) := ⟨by decide +kernel, by decide⟩
theorem eX6_falls_154 : decode cX6_falls 154 = .ok (.iload 6, 2) ∧ 154 + 2 = 156 := ⟨by decide +kernel, rfl⟩
theorem eX6_falls_156 : decode cX6_falls 156 = .ok (.iload 7, 2) ∧ 156 + 2 = 158 := ⟨by decide +kernel, rfl⟩
theorem eX6_falls_158 : decode cX6_falls 158 = .ok (.invokestatic 175, 3) ∧ 158 + 3 = 161 := ⟨by decide +kernel, rfl⟩
theorem eX6_falls_161 : decode cX6_falls 161 = .ok (.istore 8, 2) ∧ 161 + 2 = 163 := ⟨by decide +kernel, rfl⟩
theorem eX6_falls_163 : decode cX6_falls 163 = .ok (.iload 4, 2) ∧ 163 + 2 = 165 := ⟨by decide +kernel, rfl⟩
theorem eX6_falls_165 : decode cX6_falls 165 = .ok (.ifCond .eq 11, 3) ∧ ((165 : Nat) : Int) + 11 = ((176 : Nat) : Int) ∧ 165 + 3 = 168 := ⟨by decide +kernel, by decide, rfl⟩
theorem eX6_falls_168 : decode cX6_falls 168 = .ok (.iload 6, 2) ∧ 168 + 2 = 170 := ⟨by decide +kernel, rfl⟩
theorem eX6_falls_170 : decode cX6_falls 170 = .ok (.iload 8, 2) ∧ 170 + 2 = 172 := ⟨by decide +kernel, rfl⟩
theorem eX6_falls_172 : decode cX6_falls 172 = .ok (.idiv, 1) ∧ 172 + 1 = 173 := ⟨by decide +kernel, rfl⟩
theorem eX6_falls_173 : decode cX6_falls 173 = .ok (.goto 8, 3) ∧ ((173 : Nat) : Int) + 8 = ((181 : Nat) : Int) := ⟨by decide +kernel, by decide⟩
theorem eX6_falls_176 : decode cX6_falls 176 = .ok (.iload 7, 2) ∧ 176 + 2 = 178 := ⟨by decide +kernel, rfl⟩
theorem eX6_falls_178 : decode cX6_falls 178 = .ok (.iload 8, 2) ∧ 178 + 2 = 180 := ⟨by decide +kernel, rfl⟩
theorem eX6_falls_180 : decode cX6_falls 180 = .ok (.idiv, 1) ∧ 180 + 1 = 181 := ⟨by decide +kernel, rfl⟩
theorem eX6_falls_181 : decode cX6_falls 181 = .ok (.ireturn, 1) := by decide +kernel
theorem eX6_seed_0 : decode cX6_seed 0 = .ok (.aload_n 0, 1) ∧ 0 + 1 = 1 := ⟨by decide +kernel, rfl⟩
theorem eX6_seed_1 : decode cX6_seed 1 = .ok (.getfield 203, 3) ∧ 1 + 3 = 4 := ⟨by decide +kernel, rfl⟩
theorem eX6_seed_4 : decode cX6_seed 4 = .ok (.lstore_n 3, 1) ∧ 4 + 1 = 5 := ⟨by decide +kernel, rfl⟩
theorem eX6_seed_5 : decode cX6_seed 5 = .ok (.aload_n 0, 1) ∧ 5 + 1 = 6 := ⟨by decide +kernel, rfl⟩
theorem eX6_seed_6 : decode cX6_seed 6 = .ok (.lload_n 1, 1) ∧ 6 + 1 = 7 := ⟨by decide +kernel, rfl⟩
theorem eX6_seed_7 : decode cX6_seed 7 = .ok (.putfield 203, 3) ∧ 7 + 3 = 10 := ⟨by decide +kernel, rfl⟩
theorem eX6_seed_10 : decode cX6_seed 10 = .ok (.lload_n 3, 1) ∧ 10 + 1 = 11 := ⟨by decide +kernel, rfl⟩
theorem eX6_seed_11 : decode cX6_seed 11 = .ok (.lreturn, 1) := by decide +kernel
theorem eX6_summers_0 : decode cX6_summers 0 = .ok (.iload_n 1, 1) ∧ 0 + 1 = 1 := ⟨by decide +kernel, rfl⟩
theorem eX6_summers_1 : decode cX6_summers 1 = .ok (.i2l, 1) ∧ 1 + 1 = 2 := ⟨by decide +kernel, rfl⟩
theorem eX6_summers_2 : decode cX6_summers 2 = .ok (.lconst 1, 1) ∧ 2 + 1 = 3 := ⟨by decide +kernel, rfl⟩
theorem eX6_summers_3 : decode cX6_summers 3 = .ok (.ldc2_w 207, 3) ∧ 3 + 3 = 6 := ⟨by decide +kernel, rfl⟩
theorem eX6_summers_6 : decode cX6_summers 6 = .ok (.invokestatic 59, 3) ∧ 6 + 3 = 9 := ⟨by decide +kernel, rfl⟩
theorem eX6_summers_9 : decode cX6_summers 9 = .ok (.ifCond .ne 6, 3) ∧ ((9 : Nat) : Int) + 6 = ((15 : Nat) : Int) ∧ 9 + 3 = 12 := ⟨by decide +kernel, by decide, rfl⟩
theorem eX6_summers_12 : decode cX6_summers 12 = .ok (.bipush (-2), 2) ∧ 12 + 2 = 14 := ⟨by decide +kernel, rfl⟩
theorem eX6_summers_14 : decode cX6_summers 14 = .ok (.ireturn, 1) := by decide +kernel
theorem eX6_summers_15 : decode cX6_summers 15 = .ok (.aload_n 0, 1) ∧ 15 + 1 = 16 := ⟨by decide +kernel, rfl⟩
theorem eX6_summers_16 : decode cX6_summers 16 = .ok (.invokevirtual 137, 3) ∧ 16 + 3 = 19 := ⟨by decide +kernel, rfl⟩
theorem eX6_summers_19 : decode cX6_summers 19 = .ok (.iconst 0, 1) ∧ 19 + 1 = 20 := ⟨by decide +kernel, rfl⟩
theorem eX6_summers_20 : decode cX6_summers 20 = .ok (.istore_n 2, 1) ∧ 20 + 1 = 21 := ⟨by decide +kernel, rfl⟩
theorem eX6_summers_21 : decode cX6_summers 21 = .ok (.iconst 0, 1) ∧ 21 + 1 = 22 := ⟨by decide +kernel, rfl⟩
theorem eX6_summers_22 : decode cX6_summers 22 = .ok (.istore_n 3, 1) ∧ 22 + 1 = 23 := ⟨by decide +kernel, rfl⟩
theorem eX6_summers_23 : decode cX6_summers 23 = .ok (.iload_n 3, 1) ∧ 23 + 1 = 24 := ⟨by decide +kernel, rfl⟩
theorem eX6_summers_24 : decode cX6_summers 24 = .ok (.iload_n 1, 1) ∧ 24 + 1 = 25 := ⟨by decide +kernel, rfl⟩
theorem eX6_summers_25 : decode cX6_summers 25 = .ok (.if_icmp .ge 113, 3) ∧ ((25 : Nat) : Int) + 113 = ((138 : Nat) : Int) ∧ 25 + 3 = 28 := ⟨by decide +kernel, by decide, rfl⟩
theorem eX6_summers_28 : decode cX6_summers 28 = .ok (.aload_n 0, 1) ∧ 28 + 1 = 29 := ⟨by decide +kernel, rfl⟩
theorem eX6_summers_29 : decode cX6_summers 29 = .ok (.aload_n 0, 1) ∧ 29 + 1 = 30 := ⟨by decide +kernel, rfl⟩
theorem eX6_summers_30 : decode cX6_summers 30 = .ok (.getfield 203, 3) ∧ 30 + 3 = 33 := ⟨by decide +kernel, rfl⟩
theorem eX6_summers_33 : decode cX6_summers 33 = .ok (.ldc2_w 209, 3) ∧ 33 + 3 = 36 := ⟨by decide +kernel, rfl⟩
theorem eX6_summers_36 : decode cX6_summers 36 = .ok (.lmul, 1) ∧ 36 + 1 = 37 := ⟨by decide +kernel, rfl⟩
theorem eX6_summers_37 : decode cX6_summers 37 = .ok (.ldc2_w 211, 3) ∧ 37 + 3 = 40 := ⟨by decide +kernel, rfl⟩
theorem eX6_summers_40 : decode cX6_summers 40 = .ok (.ladd, 1) ∧ 40 + 1 = 41 := ⟨by decide +kernel, rfl⟩
theorem eX6_summers_41 : decode cX6_summers 41 = .ok (.putfield 203, 3) ∧ 41 + 3 = 44 := ⟨by decide +kernel, rfl⟩
theorem eX6_summers_44 : decode cX6_summers 44 = .ok (.aload_n 0, 1) ∧ 44 + 1 = 45 := ⟨by decide +kernel, rfl⟩
theorem eX6_summers_45 : decode cX6_summers 45 = .ok (.getfield 203, 3) ∧ 45 + 3 = 48 := ⟨by decide +kernel, rfl⟩
theorem eX6_summers_48 : decode cX6_summers 48 = .ok (.bipush 33, 2) ∧ 48 + 2 = 50 := ⟨by decide +kernel, rfl⟩
theorem eX6_summers_50 : decode cX6_summers 50 = .ok (.lushr, 1) ∧ 50 + 1 = 51 := ⟨by decide +kernel, rfl⟩
theorem eX6_summers_51 : decode cX6_summers 51 = .ok (.ldc2_w 213, 3) ∧ 51 + 3 = 54 := ⟨by decide +kernel, rfl⟩
theorem eX6_summers_54 : decode cX6_summers 54 = .ok (.lrem, 1) ∧ 54 + 1 = 55 := ⟨by decide +kernel, rfl⟩
theorem eX6_summers_55 : decode cX6_summers 55 = .ok (.l2i, 1) ∧ 55 + 1 = 56 := ⟨by decide +kernel, rfl⟩
theorem eX6_summers_56 : decode cX6_summers 56 = .ok (.istore 4, 2) ∧ 56 + 2 = 58 := ⟨by decide +kernel, rfl⟩
theorem eX6_summers_58 : decode cX6_summers 58 = .ok (.iload 4, 2) ∧ 58 + 2 = 60 := ⟨by decide +kernel, rfl⟩
theorem eX6_summers_60 : decode cX6_summers 60 = .ok (.bipush 6, 2) ∧ 60 + 2 = 62 := ⟨by decide +kernel, rfl⟩
theorem eX6_summers_62 : decode cX6_summers 62 = .ok (.if_icmp .ne 17, 3) ∧ ((62 : Nat) : Int) + 17 = ((79 : Nat) : Int) ∧ 62 + 3 = 65 := ⟨by decide +kernel, by decide, rfl⟩
theorem eX6_summers_65 : decode cX6_summers 65 = .ok (.aload_n 0, 1) ∧ 65 + 1 = 66 := ⟨by decide +kernel, rfl⟩
theorem eX6_summers_66 : decode cX6_summers 66 = .ok (.getfield 25, 3) ∧ 66 + 3 = 69 := ⟨by decide +kernel, rfl⟩
theorem eX6_summers_69 : decode cX6_summers 69 = .ok (.bipush 8, 2) ∧ 69 + 2 = 71 := ⟨by decide +kernel, rfl⟩
theorem eX6_summers_71 : decode cX6_summers 71 = .ok (.dup2, 1) ∧ 71 + 1 = 72 := ⟨by decide +kernel, rfl⟩
theorem eX6_summers_72 : decode cX6_summers 72 = .ok (.iaload, 1) ∧ 72 + 1 = 73 := ⟨by decide +kernel, rfl⟩
theorem eX6_summers_73 : decode cX6_summers 73 = .ok (.iconst 1, 1) ∧ 73 + 1 = 74 := ⟨by decide +kernel, rfl⟩
theorem eX6_summers_74 : decode cX6_summers 74 = .ok (.iadd, 1) ∧ 74 + 1 = 75 := ⟨by decide +kernel, rfl⟩
theorem eX6_summers_75 : decode cX6_summers 75 = .ok (.iastore, 1) ∧ 75 + 1 = 76 := ⟨by decide +kernel, rfl⟩
theorem eX6_summers_76 : decode cX6_summers 76 = .ok (.goto 56, 3) ∧ ((76 : Nat) : Int) + 56 = ((132 : Nat) : Int) := ⟨by decide +kernel, by decide⟩
theorem eX6_summers_79 : decode cX6_summers 79 = .ok (.iload 4, 2) ∧ 79 + 2 = 81 := ⟨by decide +kernel, rfl⟩
theorem eX6_summers_81 : decode cX6_summers 81 = .ok (.bipush 7, 2) ∧ 81 + 2 = 83 := ⟨by decide +kernel, rfl⟩
theorem eX6_summers_83 : decode cX6_summers 83 = .ok (.if_icmp .ne 22, 3) ∧ ((83 : Nat) : Int) + 22 = ((105 : Nat) : Int) ∧ 83 + 3 = 86 := ⟨by decide +kernel, by decide, rfl⟩
theorem eX6_summers_86 : decode cX6_summers 86 = .ok (.aload_n 0, 1) ∧ 86 + 1 = 87 := ⟨by decide +kernel, rfl⟩
theorem eX6_summers_87 : decode cX6_summers 87 = .ok (.getfield 25, 3) ∧ 87 + 3 = 90 := ⟨by decide +kernel, rfl⟩
theorem eX6_summers_90 : decode cX6_summers 90 = .ok (.bipush 8, 2) ∧ 90 + 2 = 92 := ⟨by decide +kernel, rfl⟩
theorem eX6_summers_92 : decode cX6_summers 92 = .ok (.iconst 0, 1) ∧ 92 + 1 = 93 := ⟨by decide +kernel, rfl⟩
theorem eX6_summers_93 : decode cX6_summers 93 = .ok (.iastore, 1) ∧ 93 + 1 = 94 := ⟨by decide +kernel, rfl⟩
theorem eX6_summers_94 : decode cX6_summers 94 = .ok (.aload_n 0, 1) ∧ 94 + 1 = 95 := ⟨by decide +kernel, rfl⟩
theorem eX6_summers_95 : decode cX6_summers 95 = .ok (.getfield 25, 3) ∧ 95 + 3 = 98 := ⟨by decide +kernel, rfl⟩
theorem eX6_summers_98 : decode cX6_summers 98 = .ok (.bipush 10, 2) ∧ 98 + 2 = 100 := ⟨by decide +kernel, rfl⟩
theorem eX6_summers_100 : decode cX6_summers 100 = .ok (.iconst 0, 1) ∧ 100 + 1 = 101 := ⟨by decide +kernel, rfl⟩
theorem eX6_summers_101 : decode cX6_summers 101 = .ok (.iastore, 1) ∧ 101 + 1 = 102 := ⟨by decide +kernel, rfl⟩
theorem eX6_summers_102 : decode cX6_summers 102 = .ok (.goto 30, 3) ∧ ((102 : Nat) : Int) + 30 = ((132 : Nat) : Int) := ⟨by decide +kernel, by decide⟩
theorem eX6_summers_105 : decode cX6_summers 105 = .ok (.aload_n 0, 1) ∧ 105 + 1 = 106 := ⟨by decide +kernel, rfl⟩
theorem eX6_summers_106 : decode cX6_summers 106 = .ok (.iload 4, 2) ∧ 106 + 2 = 108 := ⟨by decide +kernel, rfl⟩
theorem eX6_summers_108 : decode cX6_summers 108 = .ok (.invokevirtual 109, 3) ∧ 108 + 3 = 111 := ⟨by decide +kernel, rfl⟩
theorem eX6_summers_111 : decode cX6_summers 111 = .ok (.ifCond .eq 21, 3) ∧ ((111 : Nat) : Int) + 21 = ((132 : Nat) : Int) ∧ 111 + 3 = 114 := ⟨by decide +kernel, by decide, rfl⟩
theorem eX6_summers_114 : decode cX6_summers 114 = .ok (.iload_n 2, 1) ∧ 114 + 1 = 115 := ⟨by decide +kernel, rfl⟩
theorem eX6_summers_115 : decode cX6_summers 115 = .ok (.aload_n 0, 1) ∧ 115 + 1 = 116 := ⟨by decide +kernel, rfl⟩
theorem eX6_summers_116 : decode cX6_summers 116 = .ok (.iconst 1, 1) ∧ 116 + 1 = 117 := ⟨by decide +kernel, rfl⟩
theorem eX6_summers_117 : decode cX6_summers 117 = .ok (.iload 4, 2) ∧ 117 + 2 = 119 := ⟨by decide +kernel, rfl⟩
theorem eX6_summers_119 : decode cX6_summers 119 = .ok (.invokevirtual 123, 3) ∧ 119 + 3 = 122 := ⟨by decide +kernel, rfl⟩
theorem eX6_summers_122 : decode cX6_summers 122 = .ok (.ifCond .eq 7, 3) ∧ ((122 : Nat) : Int) + 7 = ((129 : Nat) : Int) ∧ 122 + 3 = 125 := ⟨by decide +kernel, by decide, rfl⟩
theorem eX6_summers_125 : decode cX6_summers 125 = .ok (.iconst 1, 1) ∧ 125 + 1 = 126 := ⟨by decide +kernel, rfl⟩
theorem eX6_summers_126 : decode cX6_summers 126 = .ok (.goto 4, 3) ∧ ((126 : Nat) : Int) + 4 = ((130 : Nat) : Int) := ⟨by decide +kernel, by decide⟩
theorem eX6_summers_129 : decode cX6_summers 129 = .ok (.iconst 0, 1) ∧ 129 + 1 = 130 := ⟨by decide +kernel, rfl⟩
theorem eX6_summers_130 : decode cX6_summers 130 = .ok (.iadd, 1) ∧ 130 + 1 = 131 := ⟨by decide +kernel, rfl⟩
theorem eX6_summers_131 : decode cX6_summers 131 = .ok (.istore_n 2, 1) ∧ 131 + 1 = 132 := ⟨by decide +kernel, rfl⟩
theorem eX6_summers_132 : decode cX6_summers 132 = .ok (.iinc 3 1, 3) ∧ 132 + 3 = 135 := ⟨by decide +kernel, rfl⟩
theorem eX6_summers_135 : decode cX6_summers 135 = .ok (.goto (-112), 3) ∧ ((135 : Nat) : Int) + (-112) = ((23 : Nat) : Int) := ⟨by decide +kernel, by decide⟩
theorem eX6_summers_138 : decode cX6_summers 138 = .ok (.iload_n 2, 1) ∧ 138 + 1 = 139 := ⟨by decide +kernel, rfl⟩
theorem eX6_summers_139 : decode cX6_summers 139 = .ok (.ireturn, 1) := by decide +kernel
theorem eX6_keep_0 : decode cX6_keep 0 = .ok (.iload_n 1, 1) ∧ 0 + 1 = 1 := ⟨by decide +kernel, rfl⟩
theorem eX6_keep_1 : decode cX6_keep 1 = .ok (.i2l, 1) ∧ 1 + 1 = 2 := ⟨by decide +kernel, rfl⟩
theorem eX6_keep_2 : decode cX6_keep 2 = .ok (.lconst 0, 1) ∧ 2 + 1 = 3 := ⟨by decide +kernel, rfl⟩
theorem eX6_keep_3 : decode cX6_keep 3 = .ok (.lconst 1, 1) ∧ 3 + 1 = 4 := ⟨by decide +kernel, rfl⟩
theorem eX6_keep_4 : decode cX6_keep 4 = .ok (.invokestatic 59, 3) ∧ 4 + 3 = 7 := ⟨by decide +kernel, rfl⟩
theorem eX6_keep_7 : decode cX6_keep 7 = .ok (.ifCond .ne 5, 3) ∧ ((7 : Nat) : Int) + 5 = ((12 : Nat) : Int) ∧ 7 + 3 = 10 := ⟨by decide +kernel, by decide, rfl⟩
theorem eX6_keep_10 : decode cX6_keep 10 = .ok (.iconst (-1), 1) ∧ 10 + 1 = 11 := ⟨by decide +kernel, rfl⟩
theorem eX6_keep_11 : decode cX6_keep 11 = .ok (.ireturn, 1) := by decide +kernel
theorem eX6_keep_12 : decode cX6_keep 12 = .ok (.aload_n 0, 1) ∧ 12 + 1 = 13 := ⟨by decide +kernel, rfl⟩
theorem eX6_keep_13 : decode cX6_keep 13 = .ok (.getfield 46, 3) ∧ 13 + 3 = 16 := ⟨by decide +kernel, rfl⟩
theorem eX6_keep_16 : decode cX6_keep 16 = .ok (.iload_n 1, 1) ∧ 16 + 1 = 17 := ⟨by decide +kernel, rfl⟩
theorem eX6_keep_17 : decode cX6_keep 17 = .ok (.iconst 1, 1) ∧ 17 + 1 = 18 := ⟨by decide +kernel, rfl⟩
theorem eX6_keep_18 : decode cX6_keep 18 = .ok (.bastore, 1) ∧ 18 + 1 = 19 := ⟨by decide +kernel, rfl⟩
theorem eX6_keep_19 : decode cX6_keep 19 = .ok (.iconst 0, 1) ∧ 19 + 1 = 20 := ⟨by decide +kernel, rfl⟩
theorem eX6_keep_20 : decode cX6_keep 20 = .ok (.istore_n 2, 1) ∧ 20 + 1 = 21 := ⟨by decide +kernel, rfl⟩
theorem eX6_keep_21 : decode cX6_keep 21 = .ok (.iload_n 2, 1) ∧ 21 + 1 = 22 := ⟨by decide +kernel, rfl⟩
theorem eX6_keep_22 : decode cX6_keep 22 = .ok (.bipush 8, 2) ∧ 22 + 2 = 24 := ⟨by decide +kernel, rfl⟩
theorem eX6_keep_24 : decode cX6_keep 24 = .ok (.if_icmp .ge 26, 3) ∧ ((24 : Nat) : Int) + 26 = ((50 : Nat) : Int) ∧ 24 + 3 = 27 := ⟨by decide +kernel, by decide, rfl⟩
theorem eX6_keep_27 : decode cX6_keep 27 = .ok (.aload_n 0, 1) ∧ 27 + 1 = 28 := ⟨by decide +kernel, rfl⟩
theorem eX6_keep_28 : decode cX6_keep 28 = .ok (.getfield 50, 3) ∧ 28 + 3 = 31 := ⟨by decide +kernel, rfl⟩
theorem eX6_keep_31 : decode cX6_keep 31 = .ok (.bipush 8, 2) ∧ 31 + 2 = 33 := ⟨by decide +kernel, rfl⟩
theorem eX6_keep_33 : decode cX6_keep 33 = .ok (.iload_n 1, 1) ∧ 33 + 1 = 34 := ⟨by decide +kernel, rfl⟩
theorem eX6_keep_34 : decode cX6_keep 34 = .ok (.imul, 1) ∧ 34 + 1 = 35 := ⟨by decide +kernel, rfl⟩
theorem eX6_keep_35 : decode cX6_keep 35 = .ok (.iload_n 2, 1) ∧ 35 + 1 = 36 := ⟨by decide +kernel, rfl⟩
theorem eX6_keep_36 : decode cX6_keep 36 = .ok (.iadd, 1) ∧ 36 + 1 = 37 := ⟨by decide +kernel, rfl⟩
theorem eX6_keep_37 : decode cX6_keep 37 = .ok (.aload_n 0, 1) ∧ 37 + 1 = 38 := ⟨by decide +kernel, rfl⟩
theorem eX6_keep_38 : decode cX6_keep 38 = .ok (.getfield 25, 3) ∧ 38 + 3 = 41 := ⟨by decide +kernel, rfl⟩
theorem eX6_keep_41 : decode cX6_keep 41 = .ok (.iload_n 2, 1) ∧ 41 + 1 = 42 := ⟨by decide +kernel, rfl⟩
theorem eX6_keep_42 : decode cX6_keep 42 = .ok (.iaload, 1) ∧ 42 + 1 = 43 := ⟨by decide +kernel, rfl⟩
theorem eX6_keep_43 : decode cX6_keep 43 = .ok (.iastore, 1) ∧ 43 + 1 = 44 := ⟨by decide +kernel, rfl⟩
theorem eX6_keep_44 : decode cX6_keep 44 = .ok (.iinc 2 1, 3) ∧ 44 + 3 = 47 := ⟨by decide +kernel, rfl⟩
theorem eX6_keep_47 : decode cX6_keep 47 = .ok (.goto (-26), 3) ∧ ((47 : Nat) : Int) + (-26) = ((21 : Nat) : Int) := ⟨by decide +kernel, by decide⟩
theorem eX6_keep_50 : decode cX6_keep 50 = .ok (.aload_n 0, 1) ∧ 50 + 1 = 51 := ⟨by decide +kernel, rfl⟩
theorem eX6_keep_51 : decode cX6_keep 51 = .ok (.getfield 25, 3) ∧ 51 + 3 = 54 := ⟨by decide +kernel, rfl⟩
theorem eX6_keep_54 : decode cX6_keep 54 = .ok (.iconst 0, 1) ∧ 54 + 1 = 55 := ⟨by decide +kernel, rfl⟩
theorem eX6_keep_55 : decode cX6_keep 55 = .ok (.iaload, 1) ∧ 55 + 1 = 56 := ⟨by decide +kernel, rfl⟩
theorem eX6_keep_56 : decode cX6_keep 56 = .ok (.ireturn, 1) := by decide +kernel
theorem eX6_again_0 : decode cX6_again 0 = .ok (.iload_n 1, 1) ∧ 0 + 1 = 1 := ⟨by decide +kernel, rfl⟩
theorem eX6_again_1 : decode cX6_again 1 = .ok (.i2l, 1) ∧ 1 + 1 = 2 := ⟨by decide +kernel, rfl⟩
theorem eX6_again_2 : decode cX6_again 2 = .ok (.lconst 0, 1) ∧ 2 + 1 = 3 := ⟨by decide +kernel, rfl⟩
theorem eX6_again_3 : decode cX6_again 3 = .ok (.lconst 1, 1) ∧ 3 + 1 = 4 := ⟨by decide +kernel, rfl⟩
theorem eX6_again_4 : decode cX6_again 4 = .ok (.invokestatic 59, 3) ∧ 4 + 3 = 7 := ⟨by decide +kernel, rfl⟩
theorem eX6_again_7 : decode cX6_again 7 = .ok (.ifCond .ne 5, 3) ∧ ((7 : Nat) : Int) + 5 = ((12 : Nat) : Int) ∧ 7 + 3 = 10 := ⟨by decide +kernel, by decide, rfl⟩
theorem eX6_again_10 : decode cX6_again 10 = .ok (.iconst (-1), 1) ∧ 10 + 1 = 11 := ⟨by decide +kernel, rfl⟩
theorem eX6_again_11 : decode cX6_again 11 = .ok (.ireturn, 1) := by decide +kernel
theorem eX6_again_12 : decode cX6_again 12 = .ok (.aload_n 0, 1) ∧ 12 + 1 = 13 := ⟨by decide +kernel, rfl⟩
theorem eX6_again_13 : decode cX6_again 13 = .ok (.getfield 46, 3) ∧ 13 + 3 = 16 := ⟨by decide +kernel, rfl⟩
theorem eX6_again_16 : decode cX6_again 16 = .ok (.iload_n 1, 1) ∧ 16 + 1 = 17 := ⟨by decide +kernel, rfl⟩
theorem eX6_again_17 : decode cX6_again 17 = .ok (.baload, 1) ∧ 17 + 1 = 18 := ⟨by decide +kernel, rfl⟩
theorem eX6_again_18 : decode cX6_again 18 = .ok (.ifCond .ne 6, 3) ∧ ((18 : Nat) : Int) + 6 = ((24 : Nat) : Int) ∧ 18 + 3 = 21 := ⟨by decide +kernel, by decide, rfl⟩
theorem eX6_again_21 : decode cX6_again 21 = .ok (.bipush (-3), 2) ∧ 21 + 2 = 23 := ⟨by decide +kernel, rfl⟩
theorem eX6_again_23 : decode cX6_again 23 = .ok (.ireturn, 1) := by decide +kernel
theorem eX6_again_24 : decode cX6_again 24 = .ok (.iconst 0, 1) ∧ 24 + 1 = 25 := ⟨by decide +kernel, rfl⟩
theorem eX6_again_25 : decode cX6_again 25 = .ok (.istore_n 2, 1) ∧ 25 + 1 = 26 := ⟨by decide +kernel, rfl⟩
theorem eX6_again_26 : decode cX6_again 26 = .ok (.iload_n 2, 1) ∧ 26 + 1 = 27 := ⟨by decide +kernel, rfl⟩
theorem eX6_again_27 : decode cX6_again 27 = .ok (.bipush 8, 2) ∧ 27 + 2 = 29 := ⟨by decide +kernel, rfl⟩
theorem eX6_again_29 : decode cX6_again 29 = .ok (.if_icmp .ge 26, 3) ∧ ((29 : Nat) : Int) + 26 = ((55 : Nat) : Int) ∧ 29 + 3 = 32 := ⟨by decide +kernel, by decide, rfl⟩
theorem eX6_again_32 : decode cX6_again 32 = .ok (.aload_n 0, 1) ∧ 32 + 1 = 33 := ⟨by decide +kernel, rfl⟩
theorem eX6_again_33 : decode cX6_again 33 = .ok (.getfield 25, 3) ∧ 33 + 3 = 36 := ⟨by decide +kernel, rfl⟩
theorem eX6_again_36 : decode cX6_again 36 = .ok (.iload_n 2, 1) ∧ 36 + 1 = 37 := ⟨by decide +kernel, rfl⟩
theorem eX6_again_37 : decode cX6_again 37 = .ok (.aload_n 0, 1) ∧ 37 + 1 = 38 := ⟨by decide +kernel, rfl⟩
theorem eX6_again_38 : decode cX6_again 38 = .ok (.getfield 50, 3) ∧ 38 + 3 = 41 := ⟨by decide +kernel, rfl⟩
theorem eX6_again_41 : decode cX6_again 41 = .ok (.bipush 8, 2) ∧ 41 + 2 = 43 := ⟨by decide +kernel, rfl⟩
theorem eX6_again_43 : decode cX6_again 43 = .ok (.iload_n 1, 1) ∧ 43 + 1 = 44 := ⟨by decide +kernel, rfl⟩
theorem eX6_again_44 : decode cX6_again 44 = .ok (.imul, 1) ∧ 44 + 1 = 45 := ⟨by decide +kernel, rfl⟩
theorem eX6_again_45 : decode cX6_again 45 = .ok (.iload_n 2, 1) ∧ 45 + 1 = 46 := ⟨by decide +kernel, rfl⟩
theorem eX6_again_46 : decode cX6_again 46 = .ok (.iadd, 1) ∧ 46 + 1 = 47 := ⟨by decide +kernel, rfl⟩
theorem eX6_again_47 : decode cX6_again 47 = .ok (.iaload, 1) ∧ 47 + 1 = 48 := ⟨by decide +kernel, rfl⟩
theorem eX6_again_48 : decode cX6_again 48 = .ok (.iastore, 1) ∧ 48 + 1 = 49 := ⟨by decide +kernel, rfl⟩
theorem eX6_again_49 : decode cX6_again 49 = .ok (.iinc 2 1, 3) ∧ 49 + 3 = 52 := ⟨by decide +kernel, rfl⟩
theorem eX6_again_52 : decode cX6_again 52 = .ok (.goto (-26), 3) ∧ ((52 : Nat) : Int) + (-26) = ((26 : Nat) : Int) := ⟨by decide +kernel, by decide⟩
theorem eX6_again_55 : decode cX6_again 55 = .ok (.aload_n 0, 1) ∧ 55 + 1 = 56 := ⟨by decide +kernel, rfl⟩
theorem eX6_again_56 : decode cX6_again 56 = .ok (.iconst 0, 1) ∧ 56 + 1 = 57 := ⟨by decide +kernel, rfl⟩
theorem eX6_again_57 : decode cX6_again 57 = .ok (.putfield 83, 3) ∧ 57 + 3 = 60 := ⟨by decide +kernel, rfl⟩
theorem eX6_again_60 : decode cX6_again 60 = .ok (.aload_n 0, 1) ∧ 60 + 1 = 61 := ⟨by decide +kernel, rfl⟩
theorem eX6_again_61 : decode cX6_again 61 = .ok (.getfield 25, 3) ∧ 61 + 3 = 64 := ⟨by decide +kernel, rfl⟩
theorem eX6_again_64 : decode cX6_again 64 = .ok (.iconst 0, 1) ∧ 64 + 1 = 65 := ⟨by decide +kernel, rfl⟩
theorem eX6_again_65 : decode cX6_again 65 = .ok (.iaload, 1) ∧ 65 + 1 = 66 := ⟨by decide +kernel, rfl⟩
theorem eX6_again_66 : decode cX6_again 66 = .ok (.ireturn, 1) := by decide +kernel
theorem eX6_count_0 : decode cX6_count 0 = .ok (.iconst 0, 1) ∧ 0 + 1 = 1 := ⟨by decide +kernel, rfl⟩
theorem eX6_count_1 : decode cX6_count 1 = .ok (.istore_n 2, 1) ∧ 1 + 1 = 2 := ⟨by decide +kernel, rfl⟩
theorem eX6_count_2 : decode cX6_count 2 = .ok (.iconst 0, 1) ∧ 2 + 1 = 3 := ⟨by decide +kernel, rfl⟩
theorem eX6_count_3 : decode cX6_count 3 = .ok (.istore_n 3, 1) ∧ 3 + 1 = 4 := ⟨by decide +kernel, rfl⟩
theorem eX6_count_4 : decode cX6_count 4 = .ok (.iload_n 3, 1) ∧ 4 + 1 = 5 := ⟨by decide +kernel, rfl⟩
theorem eX6_count_5 : decode cX6_count 5 = .ok (.aload_n 0, 1) ∧ 5 + 1 = 6 := ⟨by decide +kernel, rfl⟩
theorem eX6_count_6 : decode cX6_count 6 = .ok (.getfield 80, 3) ∧ 6 + 3 = 9 := ⟨by decide +kernel, rfl⟩
theorem eX6_count_9 : decode cX6_count 9 = .ok (.if_icmp .ge 30, 3) ∧ ((9 : Nat) : Int) + 30 = ((39 : Nat) : Int) ∧ 9 + 3 = 12 := ⟨by decide +kernel, by decide, rfl⟩
theorem eX6_count_12 : decode cX6_count 12 = .ok (.iload_n 2, 1) ∧ 12 + 1 = 13 := ⟨by decide +kernel, rfl⟩
theorem eX6_count_13 : decode cX6_count 13 = .ok (.aload_n 0, 1) ∧ 13 + 1 = 14 := ⟨by decide +kernel, rfl⟩
theorem eX6_count_14 : decode cX6_count 14 = .ok (.iconst 0, 1) ∧ 14 + 1 = 15 := ⟨by decide +kernel, rfl⟩
theorem eX6_count_15 : decode cX6_count 15 = .ok (.iload_n 3, 1) ∧ 15 + 1 = 16 := ⟨by decide +kernel, rfl⟩
theorem eX6_count_16 : decode cX6_count 16 = .ok (.invokevirtual 102, 3) ∧ 16 + 3 = 19 := ⟨by decide +kernel, rfl⟩
theorem eX6_count_19 : decode cX6_count 19 = .ok (.bipush (-9), 2) ∧ 19 + 2 = 21 := ⟨by decide +kernel, rfl⟩
theorem eX6_count_21 : decode cX6_count 21 = .ok (.if_icmp .eq 9, 3) ∧ ((21 : Nat) : Int) + 9 = ((30 : Nat) : Int) ∧ 21 + 3 = 24 := ⟨by decide +kernel, by decide, rfl⟩
theorem eX6_count_24 : decode cX6_count 24 = .ok (.iconst 1, 1) ∧ 24 + 1 = 25 := ⟨by decide +kernel, rfl⟩
theorem eX6_count_25 : decode cX6_count 25 = .ok (.iload_n 3, 1) ∧ 25 + 1 = 26 := ⟨by decide +kernel, rfl⟩
theorem eX6_count_26 : decode cX6_count 26 = .ok (.ishl, 1) ∧ 26 + 1 = 27 := ⟨by decide +kernel, rfl⟩
theorem eX6_count_27 : decode cX6_count 27 = .ok (.goto 4, 3) ∧ ((27 : Nat) : Int) + 4 = ((31 : Nat) : Int) := ⟨by decide +kernel, by decide⟩
theorem eX6_count_30 : decode cX6_count 30 = .ok (.iconst 0, 1) ∧ 30 + 1 = 31 := ⟨by decide +kernel, rfl⟩
theorem eX6_count_31 : decode cX6_count 31 = .ok (.ior, 1) ∧ 31 + 1 = 32 := ⟨by decide +kernel, rfl⟩
theorem eX6_count_32 : decode cX6_count 32 = .ok (.istore_n 2, 1) ∧ 32 + 1 = 33 := ⟨by decide +kernel, rfl⟩
theorem eX6_count_33 : decode cX6_count 33 = .ok (.iinc 3 1, 3) ∧ 33 + 3 = 36 := ⟨by decide +kernel, rfl⟩
theorem eX6_count_36 : decode cX6_count 36 = .ok (.goto (-32), 3) ∧ ((36 : Nat) : Int) + (-32) = ((4 : Nat) : Int) := ⟨by decide +kernel, by decide⟩
theorem eX6_count_39 : decode cX6_count 39 = .ok (.iload_n 1, 1) ∧ 39 + 1 = 40 := ⟨by decide +kernel, rfl⟩
theorem eX6_count_40 : decode cX6_count 40 = .ok (.tableswitch 100 0 8 #[52, 57, 62, 67, 74, 81, 88, 90, 95], 52) := by decide +kernel
theorem eX6_count_92 : decode cX6_count 92 = .ok (.aload_n 0, 1) ∧ 92 + 1 = 93 := ⟨by decide +kernel, rfl⟩
theorem eX6_count_93 : decode cX6_count 93 = .ok (.getfield 63, 3) ∧ 93 + 3 = 96 := ⟨by decide +kernel, rfl⟩
theorem eX6_count_96 : decode cX6_count 96 = .ok (.ireturn, 1) := by decide +kernel
theorem eX6_count_97 : decode cX6_count 97 = .ok (.aload_n 0, 1) ∧ 97 + 1 = 98 := ⟨by decide +kernel, rfl⟩
theorem eX6_count_98 : decode cX6_count 98 = .ok (.getfield 80, 3) ∧ 98 + 3 = 101 := ⟨by decide +kernel, rfl⟩
theorem eX6_count_101 : decode cX6_count 101 = .ok (.ireturn, 1) := by decide +kernel
theorem eX6_count_102 : decode cX6_count 102 = .ok (.aload_n 0, 1) ∧ 102 + 1 = 103 := ⟨by decide +kernel, rfl⟩
theorem eX6_count_103 : decode cX6_count 103 = .ok (.getfield 53, 3) ∧ 103 + 3 = 106 := ⟨by decide +kernel, rfl⟩
theorem eX6_count_106 : decode cX6_count 106 = .ok (.ireturn, 1) := by decide +kernel
theorem eX6_count_107 : decode cX6_count 107 = .ok (.aload_n 0, 1) ∧ 107 + 1 = 108 := ⟨by decide +kernel, rfl⟩
theorem eX6_count_108 : decode cX6_count 108 = .ok (.getfield 25, 3) ∧ 108 + 3 = 111 := ⟨by decide +kernel, rfl⟩
theorem eX6_count_111 : decode cX6_count 111 = .ok (.iconst 0, 1) ∧ 111 + 1 = 112 := ⟨by decide +kernel, rfl⟩
theorem eX6_count_112 : decode cX6_count 112 = .ok (.iaload, 1) ∧ 112 + 1 = 113 := ⟨by decide +kernel, rfl⟩
theorem eX6_count_113 : decode cX6_count 113 = .ok (.ireturn, 1) := by decide +kernel
theorem eX6_count_114 : decode cX6_count 114 = .ok (.aload_n 0, 1) ∧ 114 + 1 = 115 := ⟨by decide +kernel, rfl⟩
theorem eX6_count_115 : decode cX6_count 115 = .ok (.getfield 25, 3) ∧ 115 + 3 = 118 := ⟨by decide +kernel, rfl⟩
theorem eX6_count_118 : decode cX6_count 118 = .ok (.iconst 1, 1) ∧ 118 + 1 = 119 := ⟨by decide +kernel, rfl⟩
theorem eX6_count_119 : decode cX6_count 119 = .ok (.iaload, 1) ∧ 119 + 1 = 120 := ⟨by decide +kernel, rfl⟩
theorem eX6_count_120 : decode cX6_count 120 = .ok (.ireturn, 1) := by decide +kernel
theorem eX6_count_121 : decode cX6_count 121 = .ok (.aload_n 0, 1) ∧ 121 + 1 = 122 := ⟨by decide +kernel, rfl⟩
theorem eX6_count_122 : decode cX6_count 122 = .ok (.getfield 25, 3) ∧ 122 + 3 = 125 := ⟨by decide +kernel, rfl⟩
theorem eX6_count_125 : decode cX6_count 125 = .ok (.iconst 2, 1) ∧ 125 + 1 = 126 := ⟨by decide +kernel, rfl⟩
theorem eX6_count_126 : decode cX6_count 126 = .ok (.iaload, 1) ∧ 126 + 1 = 127 := ⟨by decide +kernel, rfl⟩
theorem eX6_count_127 : decode cX6_count 127 = .ok (.ireturn, 1) := by decide +kernel
theorem eX6_count_128 : decode cX6_count 128 = .ok (.iload_n 2, 1) ∧ 128 + 1 = 129 := ⟨by decide +kernel, rfl⟩
theorem eX6_count_129 : decode cX6_count 129 = .ok (.ireturn, 1) := by decide +kernel
theorem eX6_count_130 : decode cX6_count 130 = .ok (.aload_n 0, 1) ∧ 130 + 1 = 131 := ⟨by decide +kernel, rfl⟩
theorem eX6_count_131 : decode cX6_count 131 = .ok (.getfield 83, 3) ∧ 131 + 3 = 134 := ⟨by decide +kernel, rfl⟩
theorem eX6_count_134 : decode cX6_count 134 = .ok (.ireturn, 1) := by decide +kernel
theorem eX6_count_135 : decode cX6_count 135 = .ok (.aload_n 0, 1) ∧ 135 + 1 = 136 := ⟨by decide +kernel, rfl⟩
theorem eX6_count_136 : decode cX6_count 136 = .ok (.getfield 160, 3) ∧ 136 + 3 = 139 := ⟨by decide +kernel, rfl⟩
theorem eX6_count_139 : decode cX6_count 139 = .ok (.ireturn, 1) := by decide +kernel
theorem eX6_count_140 : decode cX6_count 140 = .ok (.bipush (-2), 2) ∧ 140 + 2 = 142 := ⟨by decide +kernel, rfl⟩
theorem eX6_count_142 : decode cX6_count 142 = .ok (.ireturn, 1) := by decide +kernel
