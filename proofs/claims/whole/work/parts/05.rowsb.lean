theorem eX5_init_0 : decode cX5_init 0 = .ok (.aload_n 0, 1) ∧ 0 + 1 = 1 := ⟨by decide +kernel, rfl⟩
theorem eX5_init_1 : decode cX5_init 1 = .ok (.invokespecial 1, 3) ∧ 1 + 3 = 4 := ⟨by decide +kernel, rfl⟩
theorem eX5_init_4 : decode cX5_init 4 = .ok (.aload_n 0, 1) ∧ 4 + 1 = 5 := ⟨by decide +kernel, rfl⟩
theorem eX5_init_5 : decode cX5_init 5 = .ok (.new 7, 3) ∧ 5 + 3 = 8 := ⟨by decide +kernel, rfl⟩
theorem eX5_init_8 : decode cX5_init 8 = .ok (.dup, 1) ∧ 8 + 1 = 9 := ⟨by decide +kernel, rfl⟩
theorem eX5_init_9 : decode cX5_init 9 = .ok (.invokespecial 9, 3) ∧ 9 + 3 = 12 := ⟨by decide +kernel, rfl⟩
theorem eX5_init_12 : decode cX5_init 12 = .ok (.putfield 10, 3) ∧ 12 + 3 = 15 := ⟨by decide +kernel, rfl⟩
theorem eX5_init_15 : decode cX5_init 15 = .ok (.aload_n 0, 1) ∧ 15 + 1 = 16 := ⟨by decide +kernel, rfl⟩
theorem eX5_init_16 : decode cX5_init 16 = .ok (.new 16, 3) ∧ 16 + 3 = 19 := ⟨by decide +kernel, rfl⟩
theorem eX5_init_19 : decode cX5_init 19 = .ok (.dup, 1) ∧ 19 + 1 = 20 := ⟨by decide +kernel, rfl⟩
theorem eX5_init_20 : decode cX5_init 20 = .ok (.invokespecial 18, 3) ∧ 20 + 3 = 23 := ⟨by decide +kernel, rfl⟩
theorem eX5_init_23 : decode cX5_init 23 = .ok (.putfield 19, 3) ∧ 23 + 3 = 26 := ⟨by decide +kernel, rfl⟩
theorem eX5_init_26 : decode cX5_init 26 = .ok (.aload_n 0, 1) ∧ 26 + 1 = 27 := ⟨by decide +kernel, rfl⟩
theorem eX5_init_27 : decode cX5_init 27 = .ok (.new 23, 3) ∧ 27 + 3 = 30 := ⟨by decide +kernel, rfl⟩
theorem eX5_init_30 : decode cX5_init 30 = .ok (.dup, 1) ∧ 30 + 1 = 31 := ⟨by decide +kernel, rfl⟩
theorem eX5_init_31 : decode cX5_init 31 = .ok (.invokespecial 25, 3) ∧ 31 + 3 = 34 := ⟨by decide +kernel, rfl⟩
theorem eX5_init_34 : decode cX5_init 34 = .ok (.putfield 26, 3) ∧ 34 + 3 = 37 := ⟨by decide +kernel, rfl⟩
theorem eX5_init_37 : decode cX5_init 37 = .ok (.aload_n 0, 1) ∧ 37 + 1 = 38 := ⟨by decide +kernel, rfl⟩
theorem eX5_init_38 : decode cX5_init 38 = .ok (.new 23, 3) ∧ 38 + 3 = 41 := ⟨by decide +kernel, rfl⟩
theorem eX5_init_41 : decode cX5_init 41 = .ok (.dup, 1) ∧ 41 + 1 = 42 := ⟨by decide +kernel, rfl⟩
theorem eX5_init_42 : decode cX5_init 42 = .ok (.invokespecial 25, 3) ∧ 42 + 3 = 45 := ⟨by decide +kernel, rfl⟩
theorem eX5_init_45 : decode cX5_init 45 = .ok (.putfield 30, 3) ∧ 45 + 3 = 48 := ⟨by decide +kernel, rfl⟩
theorem eX5_init_48 : decode cX5_init 48 = .ok (.aload_n 0, 1) ∧ 48 + 1 = 49 := ⟨by decide +kernel, rfl⟩
theorem eX5_init_49 : decode cX5_init 49 = .ok (.new 33, 3) ∧ 49 + 3 = 52 := ⟨by decide +kernel, rfl⟩
theorem eX5_init_52 : decode cX5_init 52 = .ok (.dup, 1) ∧ 52 + 1 = 53 := ⟨by decide +kernel, rfl⟩
theorem eX5_init_53 : decode cX5_init 53 = .ok (.invokespecial 35, 3) ∧ 53 + 3 = 56 := ⟨by decide +kernel, rfl⟩
theorem eX5_init_56 : decode cX5_init 56 = .ok (.putfield 36, 3) ∧ 56 + 3 = 59 := ⟨by decide +kernel, rfl⟩
theorem eX5_init_59 : decode cX5_init 59 = .ok (.aload_n 0, 1) ∧ 59 + 1 = 60 := ⟨by decide +kernel, rfl⟩
theorem eX5_init_60 : decode cX5_init 60 = .ok (.new 40, 3) ∧ 60 + 3 = 63 := ⟨by decide +kernel, rfl⟩
theorem eX5_init_63 : decode cX5_init 63 = .ok (.dup, 1) ∧ 63 + 1 = 64 := ⟨by decide +kernel, rfl⟩
theorem eX5_init_64 : decode cX5_init 64 = .ok (.invokespecial 42, 3) ∧ 64 + 3 = 67 := ⟨by decide +kernel, rfl⟩
theorem eX5_init_67 : decode cX5_init 67 = .ok (.putfield 43, 3) ∧ 67 + 3 = 70 := ⟨by decide +kernel, rfl⟩
theorem eX5_init_70 : decode cX5_init 70 = .ok (.aload_n 0, 1) ∧ 70 + 1 = 71 := ⟨by decide +kernel, rfl⟩
theorem eX5_init_71 : decode cX5_init 71 = .ok (.iconst 2, 1) ∧ 71 + 1 = 72 := ⟨by decide +kernel, rfl⟩
theorem eX5_init_72 : decode cX5_init 72 = .ok (.anewarray 23, 3) ∧ 72 + 3 = 75 := ⟨by decide +kernel, rfl⟩
theorem eX5_init_75 : decode cX5_init 75 = .ok (.putfield 47, 3) ∧ 75 + 3 = 78 := ⟨by decide +kernel, rfl⟩
theorem eX5_init_78 : decode cX5_init 78 = .ok (.aload_n 0, 1) ∧ 78 + 1 = 79 := ⟨by decide +kernel, rfl⟩
theorem eX5_init_79 : decode cX5_init 79 = .ok (.iconst 2, 1) ∧ 79 + 1 = 80 := ⟨by decide +kernel, rfl⟩
theorem eX5_init_80 : decode cX5_init 80 = .ok (.newarray .boolean, 2) ∧ 80 + 2 = 82 := ⟨by decide +kernel, rfl⟩
theorem eX5_init_82 : decode cX5_init 82 = .ok (.putfield 51, 3) ∧ 82 + 3 = 85 := ⟨by decide +kernel, rfl⟩
theorem eX5_init_85 : decode cX5_init 85 = .ok (.aload_n 0, 1) ∧ 85 + 1 = 86 := ⟨by decide +kernel, rfl⟩
theorem eX5_init_86 : decode cX5_init 86 = .ok (.bipush 6, 2) ∧ 86 + 2 = 88 := ⟨by decide +kernel, rfl⟩
theorem eX5_init_88 : decode cX5_init 88 = .ok (.newarray .int, 2) ∧ 88 + 2 = 90 := ⟨by decide +kernel, rfl⟩
theorem eX5_init_90 : decode cX5_init 90 = .ok (.putfield 55, 3) ∧ 90 + 3 = 93 := ⟨by decide +kernel, rfl⟩
theorem eX5_init_93 : decode cX5_init 93 = .ok (.aload_n 0, 1) ∧ 93 + 1 = 94 := ⟨by decide +kernel, rfl⟩
theorem eX5_init_94 : decode cX5_init 94 = .ok (.bipush 6, 2) ∧ 94 + 2 = 96 := ⟨by decide +kernel, rfl⟩
theorem eX5_init_96 : decode cX5_init 96 = .ok (.newarray .int, 2) ∧ 96 + 2 = 98 := ⟨by decide +kernel, rfl⟩
theorem eX5_init_98 : decode cX5_init 98 = .ok (.putfield 59, 3) ∧ 98 + 3 = 101 := ⟨by decide +kernel, rfl⟩
theorem eX5_init_101 : decode cX5_init 101 = .ok (.aload_n 0, 1) ∧ 101 + 1 = 102 := ⟨by decide +kernel, rfl⟩
theorem eX5_init_102 : decode cX5_init 102 = .ok (.bipush 64, 2) ∧ 102 + 2 = 104 := ⟨by decide +kernel, rfl⟩
theorem eX5_init_104 : decode cX5_init 104 = .ok (.newarray .int, 2) ∧ 104 + 2 = 106 := ⟨by decide +kernel, rfl⟩
theorem eX5_init_106 : decode cX5_init 106 = .ok (.putfield 62, 3) ∧ 106 + 3 = 109 := ⟨by decide +kernel, rfl⟩
theorem eX5_init_109 : decode cX5_init 109 = .ok (.aload_n 0, 1) ∧ 109 + 1 = 110 := ⟨by decide +kernel, rfl⟩
theorem eX5_init_110 : decode cX5_init 110 = .ok (.iconst 0, 1) ∧ 110 + 1 = 111 := ⟨by decide +kernel, rfl⟩
theorem eX5_init_111 : decode cX5_init 111 = .ok (.putfield 65, 3) ∧ 111 + 3 = 114 := ⟨by decide +kernel, rfl⟩
theorem eX5_init_114 : decode cX5_init 114 = .ok (.aload_n 0, 1) ∧ 114 + 1 = 115 := ⟨by decide +kernel, rfl⟩
theorem eX5_init_115 : decode cX5_init 115 = .ok (.lconst 0, 1) ∧ 115 + 1 = 116 := ⟨by decide +kernel, rfl⟩
theorem eX5_init_116 : decode cX5_init 116 = .ok (.putfield 69, 3) ∧ 116 + 3 = 119 := ⟨by decide +kernel, rfl⟩
theorem eX5_init_119 : decode cX5_init 119 = .ok (.iconst 0, 1) ∧ 119 + 1 = 120 := ⟨by decide +kernel, rfl⟩
theorem eX5_init_120 : decode cX5_init 120 = .ok (.istore_n 1, 1) ∧ 120 + 1 = 121 := ⟨by decide +kernel, rfl⟩
theorem eX5_init_121 : decode cX5_init 121 = .ok (.iload_n 1, 1) ∧ 121 + 1 = 122 := ⟨by decide +kernel, rfl⟩
theorem eX5_init_122 : decode cX5_init 122 = .ok (.aload_n 0, 1) ∧ 122 + 1 = 123 := ⟨by decide +kernel, rfl⟩
theorem eX5_init_123 : decode cX5_init 123 = .ok (.getfield 47, 3) ∧ 123 + 3 = 126 := ⟨by decide +kernel, rfl⟩
theorem eX5_init_126 : decode cX5_init 126 = .ok (.arraylength, 1) ∧ 126 + 1 = 127 := ⟨by decide +kernel, rfl⟩
theorem eX5_init_127 : decode cX5_init 127 = .ok (.if_icmp .ge 22, 3) ∧ ((127 : Nat) : Int) + 22 = ((149 : Nat) : Int) ∧ 127 + 3 = 130 := ⟨by decide +kernel, by decide, rfl⟩
theorem eX5_init_130 : decode cX5_init 130 = .ok (.aload_n 0, 1) ∧ 130 + 1 = 131 := ⟨by decide +kernel, rfl⟩
theorem eX5_init_131 : decode cX5_init 131 = .ok (.getfield 47, 3) ∧ 131 + 3 = 134 := ⟨by decide +kernel, rfl⟩
theorem eX5_init_134 : decode cX5_init 134 = .ok (.iload_n 1, 1) ∧ 134 + 1 = 135 := ⟨by decide +kernel, rfl⟩
theorem eX5_init_135 : decode cX5_init 135 = .ok (.new 23, 3) ∧ 135 + 3 = 138 := ⟨by decide +kernel, rfl⟩
theorem eX5_init_138 : decode cX5_init 138 = .ok (.dup, 1) ∧ 138 + 1 = 139 := ⟨by decide +kernel, rfl⟩
theorem eX5_init_139 : decode cX5_init 139 = .ok (.invokespecial 25, 3) ∧ 139 + 3 = 142 := ⟨by decide +kernel, rfl⟩
theorem eX5_init_142 : decode cX5_init 142 = .ok (.aastore, 1) ∧ 142 + 1 = 143 := ⟨by decide +kernel, rfl⟩
theorem eX5_init_143 : decode cX5_init 143 = .ok (.iinc 1 1, 3) ∧ 143 + 3 = 146 := ⟨by decide +kernel, rfl⟩
theorem eX5_init_146 : decode cX5_init 146 = .ok (.goto (-25), 3) ∧ ((146 : Nat) : Int) + (-25) = ((121 : Nat) : Int) := ⟨by decide +kernel, by decide⟩
theorem eX5_init_149 : decode cX5_init 149 = .ok (.return_, 1) := by decide +kernel
theorem eX5_write_0 : decode cX5_write 0 = .ok (.iload_n 1, 1) ∧ 0 + 1 = 1 := ⟨by decide +kernel, rfl⟩
theorem eX5_write_1 : decode cX5_write 1 = .ok (.ifCond .lt 10, 3) ∧ ((1 : Nat) : Int) + 10 = ((11 : Nat) : Int) ∧ 1 + 3 = 4 := ⟨by decide +kernel, by decide, rfl⟩
theorem eX5_write_4 : decode cX5_write 4 = .ok (.iload_n 1, 1) ∧ 4 + 1 = 5 := ⟨by decide +kernel, rfl⟩
theorem eX5_write_5 : decode cX5_write 5 = .ok (.sipush 255, 3) ∧ 5 + 3 = 8 := ⟨by decide +kernel, rfl⟩
theorem eX5_write_8 : decode cX5_write 8 = .ok (.if_icmp .le 6, 3) ∧ ((8 : Nat) : Int) + 6 = ((14 : Nat) : Int) ∧ 8 + 3 = 11 := ⟨by decide +kernel, by decide, rfl⟩
theorem eX5_write_11 : decode cX5_write 11 = .ok (.bipush (-2), 2) ∧ 11 + 2 = 13 := ⟨by decide +kernel, rfl⟩
theorem eX5_write_13 : decode cX5_write 13 = .ok (.ireturn, 1) := by decide +kernel
theorem eX5_write_14 : decode cX5_write 14 = .ok (.aload_n 0, 1) ∧ 14 + 1 = 15 := ⟨by decide +kernel, rfl⟩
theorem eX5_write_15 : decode cX5_write 15 = .ok (.getfield 10, 3) ∧ 15 + 3 = 18 := ⟨by decide +kernel, rfl⟩
theorem eX5_write_18 : decode cX5_write 18 = .ok (.iload_n 1, 1) ∧ 18 + 1 = 19 := ⟨by decide +kernel, rfl⟩
theorem eX5_write_19 : decode cX5_write 19 = .ok (.invokevirtual 73, 3) ∧ 19 + 3 = 22 := ⟨by decide +kernel, rfl⟩
theorem eX5_write_22 : decode cX5_write 22 = .ok (.ifCond .eq 13, 3) ∧ ((22 : Nat) : Int) + 13 = ((35 : Nat) : Int) ∧ 22 + 3 = 25 := ⟨by decide +kernel, by decide, rfl⟩
theorem eX5_write_25 : decode cX5_write 25 = .ok (.aload_n 0, 1) ∧ 25 + 1 = 26 := ⟨by decide +kernel, rfl⟩
theorem eX5_write_26 : decode cX5_write 26 = .ok (.getfield 10, 3) ∧ 26 + 3 = 29 := ⟨by decide +kernel, rfl⟩
theorem eX5_write_29 : decode cX5_write 29 = .ok (.getfield 77, 3) ∧ 29 + 3 = 32 := ⟨by decide +kernel, rfl⟩
theorem eX5_write_32 : decode cX5_write 32 = .ok (.goto 5, 3) ∧ ((32 : Nat) : Int) + 5 = ((37 : Nat) : Int) := ⟨by decide +kernel, by decide⟩
theorem eX5_write_35 : decode cX5_write 35 = .ok (.bipush (-4), 2) ∧ 35 + 2 = 37 := ⟨by decide +kernel, rfl⟩
theorem eX5_write_37 : decode cX5_write 37 = .ok (.ireturn, 1) := by decide +kernel
theorem eX5_wipe_0 : decode cX5_wipe 0 = .ok (.aload_n 0, 1) ∧ 0 + 1 = 1 := ⟨by decide +kernel, rfl⟩
theorem eX5_wipe_1 : decode cX5_wipe 1 = .ok (.getfield 10, 3) ∧ 1 + 3 = 4 := ⟨by decide +kernel, rfl⟩
theorem eX5_wipe_4 : decode cX5_wipe 4 = .ok (.getfield 77, 3) ∧ 4 + 3 = 7 := ⟨by decide +kernel, rfl⟩
theorem eX5_wipe_7 : decode cX5_wipe 7 = .ok (.istore_n 1, 1) ∧ 7 + 1 = 8 := ⟨by decide +kernel, rfl⟩
theorem eX5_wipe_8 : decode cX5_wipe 8 = .ok (.aload_n 0, 1) ∧ 8 + 1 = 9 := ⟨by decide +kernel, rfl⟩
theorem eX5_wipe_9 : decode cX5_wipe 9 = .ok (.getfield 10, 3) ∧ 9 + 3 = 12 := ⟨by decide +kernel, rfl⟩
theorem eX5_wipe_12 : decode cX5_wipe 12 = .ok (.iconst 0, 1) ∧ 12 + 1 = 13 := ⟨by decide +kernel, rfl⟩
theorem eX5_wipe_13 : decode cX5_wipe 13 = .ok (.putfield 77, 3) ∧ 13 + 3 = 16 := ⟨by decide +kernel, rfl⟩
theorem eX5_wipe_16 : decode cX5_wipe 16 = .ok (.iload_n 1, 1) ∧ 16 + 1 = 17 := ⟨by decide +kernel, rfl⟩
theorem eX5_wipe_17 : decode cX5_wipe 17 = .ok (.ireturn, 1) := by decide +kernel
theorem eX5_fault_0 : decode cX5_fault 0 = .ok (.aload_n 0, 1) ∧ 0 + 1 = 1 := ⟨by decide +kernel, rfl⟩
theorem eX5_fault_1 : decode cX5_fault 1 = .ok (.getfield 10, 3) ∧ 1 + 3 = 4 := ⟨by decide +kernel, rfl⟩
theorem eX5_fault_4 : decode cX5_fault 4 = .ok (.invokevirtual 80, 3) ∧ 4 + 3 = 7 := ⟨by decide +kernel, rfl⟩
theorem eX5_fault_7 : decode cX5_fault 7 = .ok (.ireturn, 1) := by decide +kernel
theorem eX5_parish_0 : decode cX5_parish 0 = .ok (.aload_n 0, 1) ∧ 0 + 1 = 1 := ⟨by decide +kernel, rfl⟩
theorem eX5_parish_1 : decode cX5_parish 1 = .ok (.getfield 10, 3) ∧ 1 + 3 = 4 := ⟨by decide +kernel, rfl⟩
theorem eX5_parish_4 : decode cX5_parish 4 = .ok (.invokevirtual 80, 3) ∧ 4 + 3 = 7 := ⟨by decide +kernel, rfl⟩
theorem eX5_parish_7 : decode cX5_parish 7 = .ok (.bipush (-9), 2) ∧ 7 + 2 = 9 := ⟨by decide +kernel, rfl⟩
theorem eX5_parish_9 : decode cX5_parish 9 = .ok (.if_icmp .eq 6, 3) ∧ ((9 : Nat) : Int) + 6 = ((15 : Nat) : Int) ∧ 9 + 3 = 12 := ⟨by decide +kernel, by decide, rfl⟩
theorem eX5_parish_12 : decode cX5_parish 12 = .ok (.bipush (-3), 2) ∧ 12 + 2 = 14 := ⟨by decide +kernel, rfl⟩
theorem eX5_parish_14 : decode cX5_parish 14 = .ok (.ireturn, 1) := by decide +kernel
theorem eX5_parish_15 : decode cX5_parish 15 = .ok (.aload_n 0, 1) ∧ 15 + 1 = 16 := ⟨by decide +kernel, rfl⟩
theorem eX5_parish_16 : decode cX5_parish 16 = .ok (.getfield 19, 3) ∧ 16 + 3 = 19 := ⟨by decide +kernel, rfl⟩
theorem eX5_parish_19 : decode cX5_parish 19 = .ok (.aload_n 0, 1) ∧ 19 + 1 = 20 := ⟨by decide +kernel, rfl⟩
theorem eX5_parish_20 : decode cX5_parish 20 = .ok (.getfield 10, 3) ∧ 20 + 3 = 23 := ⟨by decide +kernel, rfl⟩
theorem eX5_parish_23 : decode cX5_parish 23 = .ok (.invokevirtual 84, 3) ∧ 23 + 3 = 26 := ⟨by decide +kernel, rfl⟩
theorem eX5_parish_26 : decode cX5_parish 26 = .ok (.aload_n 0, 1) ∧ 26 + 1 = 27 := ⟨by decide +kernel, rfl⟩
theorem eX5_parish_27 : decode cX5_parish 27 = .ok (.getfield 26, 3) ∧ 27 + 3 = 30 := ⟨by decide +kernel, rfl⟩
theorem eX5_parish_30 : decode cX5_parish 30 = .ok (.aload_n 0, 1) ∧ 30 + 1 = 31 := ⟨by decide +kernel, rfl⟩
theorem eX5_parish_31 : decode cX5_parish 31 = .ok (.getfield 10, 3) ∧ 31 + 3 = 34 := ⟨by decide +kernel, rfl⟩
theorem eX5_parish_34 : decode cX5_parish 34 = .ok (.invokevirtual 88, 3) ∧ 34 + 3 = 37 := ⟨by decide +kernel, rfl⟩
theorem eX5_parish_37 : decode cX5_parish 37 = .ok (.aload_n 0, 1) ∧ 37 + 1 = 38 := ⟨by decide +kernel, rfl⟩
theorem eX5_parish_38 : decode cX5_parish 38 = .ok (.getfield 36, 3) ∧ 38 + 3 = 41 := ⟨by decide +kernel, rfl⟩
theorem eX5_parish_41 : decode cX5_parish 41 = .ok (.invokevirtual 89, 3) ∧ 41 + 3 = 44 := ⟨by decide +kernel, rfl⟩
theorem eX5_parish_44 : decode cX5_parish 44 = .ok (.iconst 0, 1) ∧ 44 + 1 = 45 := ⟨by decide +kernel, rfl⟩
theorem eX5_parish_45 : decode cX5_parish 45 = .ok (.istore_n 1, 1) ∧ 45 + 1 = 46 := ⟨by decide +kernel, rfl⟩
theorem eX5_parish_46 : decode cX5_parish 46 = .ok (.iload_n 1, 1) ∧ 46 + 1 = 47 := ⟨by decide +kernel, rfl⟩
theorem eX5_parish_47 : decode cX5_parish 47 = .ok (.aload_n 0, 1) ∧ 47 + 1 = 48 := ⟨by decide +kernel, rfl⟩
theorem eX5_parish_48 : decode cX5_parish 48 = .ok (.getfield 51, 3) ∧ 48 + 3 = 51 := ⟨by decide +kernel, rfl⟩
theorem eX5_parish_51 : decode cX5_parish 51 = .ok (.arraylength, 1) ∧ 51 + 1 = 52 := ⟨by decide +kernel, rfl⟩
theorem eX5_parish_52 : decode cX5_parish 52 = .ok (.if_icmp .ge 16, 3) ∧ ((52 : Nat) : Int) + 16 = ((68 : Nat) : Int) ∧ 52 + 3 = 55 := ⟨by decide +kernel, by decide, rfl⟩
theorem eX5_parish_55 : decode cX5_parish 55 = .ok (.aload_n 0, 1) ∧ 55 + 1 = 56 := ⟨by decide +kernel, rfl⟩
theorem eX5_parish_56 : decode cX5_parish 56 = .ok (.getfield 51, 3) ∧ 56 + 3 = 59 := ⟨by decide +kernel, rfl⟩
theorem eX5_parish_59 : decode cX5_parish 59 = .ok (.iload_n 1, 1) ∧ 59 + 1 = 60 := ⟨by decide +kernel, rfl⟩
theorem eX5_parish_60 : decode cX5_parish 60 = .ok (.iconst 0, 1) ∧ 60 + 1 = 61 := ⟨by decide +kernel, rfl⟩
theorem eX5_parish_61 : decode cX5_parish 61 = .ok (.bastore, 1) ∧ 61 + 1 = 62 := ⟨by decide +kernel, rfl⟩
theorem eX5_parish_62 : decode cX5_parish 62 = .ok (.iinc 1 1, 3) ∧ 62 + 3 = 65 := ⟨by decide +kernel, rfl⟩
theorem eX5_parish_65 : decode cX5_parish 65 = .ok (.goto (-19), 3) ∧ ((65 : Nat) : Int) + (-19) = ((46 : Nat) : Int) := ⟨by decide +kernel, by decide⟩
theorem eX5_parish_68 : decode cX5_parish 68 = .ok (.aload_n 0, 1) ∧ 68 + 1 = 69 := ⟨by decide +kernel, rfl⟩
theorem eX5_parish_69 : decode cX5_parish 69 = .ok (.getfield 19, 3) ∧ 69 + 3 = 72 := ⟨by decide +kernel, rfl⟩
theorem eX5_parish_72 : decode cX5_parish 72 = .ok (.getfield 92, 3) ∧ 72 + 3 = 75 := ⟨by decide +kernel, rfl⟩
theorem eX5_parish_75 : decode cX5_parish 75 = .ok (.ireturn, 1) := by decide +kernel
theorem eX5_wedding_0 : decode cX5_wedding 0 = .ok (.aload_n 0, 1) ∧ 0 + 1 = 1 := ⟨by decide +kernel, rfl⟩
theorem eX5_wedding_1 : decode cX5_wedding 1 = .ok (.getfield 19, 3) ∧ 1 + 3 = 4 := ⟨by decide +kernel, rfl⟩
theorem eX5_wedding_4 : decode cX5_wedding 4 = .ok (.iload_n 1, 1) ∧ 4 + 1 = 5 := ⟨by decide +kernel, rfl⟩
theorem eX5_wedding_5 : decode cX5_wedding 5 = .ok (.invokevirtual 95, 3) ∧ 5 + 3 = 8 := ⟨by decide +kernel, rfl⟩
theorem eX5_wedding_8 : decode cX5_wedding 8 = .ok (.ifCond .ne 5, 3) ∧ ((8 : Nat) : Int) + 5 = ((13 : Nat) : Int) ∧ 8 + 3 = 11 := ⟨by decide +kernel, by decide, rfl⟩
theorem eX5_wedding_11 : decode cX5_wedding 11 = .ok (.iconst (-1), 1) ∧ 11 + 1 = 12 := ⟨by decide +kernel, rfl⟩
theorem eX5_wedding_12 : decode cX5_wedding 12 = .ok (.ireturn, 1) := by decide +kernel
theorem eX5_wedding_13 : decode cX5_wedding 13 = .ok (.iload_n 2, 1) ∧ 13 + 1 = 14 := ⟨by decide +kernel, rfl⟩
theorem eX5_wedding_14 : decode cX5_wedding 14 = .ok (.ifCond .lt 9, 3) ∧ ((14 : Nat) : Int) + 9 = ((23 : Nat) : Int) ∧ 14 + 3 = 17 := ⟨by decide +kernel, by decide, rfl⟩
theorem eX5_wedding_17 : decode cX5_wedding 17 = .ok (.iload_n 2, 1) ∧ 17 + 1 = 18 := ⟨by decide +kernel, rfl⟩
theorem eX5_wedding_18 : decode cX5_wedding 18 = .ok (.bipush 6, 2) ∧ 18 + 2 = 20 := ⟨by decide +kernel, rfl⟩
theorem eX5_wedding_20 : decode cX5_wedding 20 = .ok (.if_icmp .le 6, 3) ∧ ((20 : Nat) : Int) + 6 = ((26 : Nat) : Int) ∧ 20 + 3 = 23 := ⟨by decide +kernel, by decide, rfl⟩
theorem eX5_wedding_23 : decode cX5_wedding 23 = .ok (.bipush (-2), 2) ∧ 23 + 2 = 25 := ⟨by decide +kernel, rfl⟩
theorem eX5_wedding_25 : decode cX5_wedding 25 = .ok (.ireturn, 1) := by decide +kernel
theorem eX5_wedding_26 : decode cX5_wedding 26 = .ok (.iload_n 2, 1) ∧ 26 + 1 = 27 := ⟨by decide +kernel, rfl⟩
theorem eX5_wedding_27 : decode cX5_wedding 27 = .ok (.iconst 5, 1) ∧ 27 + 1 = 28 := ⟨by decide +kernel, rfl⟩
theorem eX5_wedding_28 : decode cX5_wedding 28 = .ok (.if_icmp .ge 13, 3) ∧ ((28 : Nat) : Int) + 13 = ((41 : Nat) : Int) ∧ 28 + 3 = 31 := ⟨by decide +kernel, by decide, rfl⟩
theorem eX5_wedding_31 : decode cX5_wedding 31 = .ok (.aload_n 0, 1) ∧ 31 + 1 = 32 := ⟨by decide +kernel, rfl⟩
theorem eX5_wedding_32 : decode cX5_wedding 32 = .ok (.getfield 19, 3) ∧ 32 + 3 = 35 := ⟨by decide +kernel, rfl⟩
theorem eX5_wedding_35 : decode cX5_wedding 35 = .ok (.iload_n 1, 1) ∧ 35 + 1 = 36 := ⟨by decide +kernel, rfl⟩
theorem eX5_wedding_36 : decode cX5_wedding 36 = .ok (.iload_n 2, 1) ∧ 36 + 1 = 37 := ⟨by decide +kernel, rfl⟩
theorem eX5_wedding_37 : decode cX5_wedding 37 = .ok (.invokevirtual 98, 3) ∧ 37 + 3 = 40 := ⟨by decide +kernel, rfl⟩
theorem eX5_wedding_40 : decode cX5_wedding 40 = .ok (.ireturn, 1) := by decide +kernel
theorem eX5_wedding_41 : decode cX5_wedding 41 = .ok (.iload_n 2, 1) ∧ 41 + 1 = 42 := ⟨by decide +kernel, rfl⟩
theorem eX5_wedding_42 : decode cX5_wedding 42 = .ok (.iconst 5, 1) ∧ 42 + 1 = 43 := ⟨by decide +kernel, rfl⟩
theorem eX5_wedding_43 : decode cX5_wedding 43 = .ok (.if_icmp .ne 20, 3) ∧ ((43 : Nat) : Int) + 20 = ((63 : Nat) : Int) ∧ 43 + 3 = 46 := ⟨by decide +kernel, by decide, rfl⟩
theorem eX5_wedding_46 : decode cX5_wedding 46 = .ok (.aload_n 0, 1) ∧ 46 + 1 = 47 := ⟨by decide +kernel, rfl⟩
theorem eX5_wedding_47 : decode cX5_wedding 47 = .ok (.getfield 26, 3) ∧ 47 + 3 = 50 := ⟨by decide +kernel, rfl⟩
theorem eX5_wedding_50 : decode cX5_wedding 50 = .ok (.iload_n 1, 1) ∧ 50 + 1 = 51 := ⟨by decide +kernel, rfl⟩
theorem eX5_wedding_51 : decode cX5_wedding 51 = .ok (.invokevirtual 102, 3) ∧ 51 + 3 = 54 := ⟨by decide +kernel, rfl⟩
theorem eX5_wedding_54 : decode cX5_wedding 54 = .ok (.ifCond .eq 7, 3) ∧ ((54 : Nat) : Int) + 7 = ((61 : Nat) : Int) ∧ 54 + 3 = 57 := ⟨by decide +kernel, by decide, rfl⟩
theorem eX5_wedding_57 : decode cX5_wedding 57 = .ok (.iconst 1, 1) ∧ 57 + 1 = 58 := ⟨by decide +kernel, rfl⟩
theorem eX5_wedding_58 : decode cX5_wedding 58 = .ok (.goto 4, 3) ∧ ((58 : Nat) : Int) + 4 = ((62 : Nat) : Int) := ⟨by decide +kernel, by decide⟩
theorem eX5_wedding_61 : decode cX5_wedding 61 = .ok (.iconst 0, 1) ∧ 61 + 1 = 62 := ⟨by decide +kernel, rfl⟩
theorem eX5_wedding_62 : decode cX5_wedding 62 = .ok (.ireturn, 1) := by decide +kernel
theorem eX5_wedding_63 : decode cX5_wedding 63 = .ok (.aload_n 0, 1) ∧ 63 + 1 = 64 := ⟨by decide +kernel, rfl⟩
theorem eX5_wedding_64 : decode cX5_wedding 64 = .ok (.getfield 19, 3) ∧ 64 + 3 = 67 := ⟨by decide +kernel, rfl⟩
theorem eX5_wedding_67 : decode cX5_wedding 67 = .ok (.aload_n 0, 1) ∧ 67 + 1 = 68 := ⟨by decide +kernel, rfl⟩
theorem eX5_wedding_68 : decode cX5_wedding 68 = .ok (.getfield 26, 3) ∧ 68 + 3 = 71 := ⟨by decide +kernel, rfl⟩
theorem eX5_wedding_71 : decode cX5_wedding 71 = .ok (.iload_n 1, 1) ∧ 71 + 1 = 72 := ⟨by decide +kernel, rfl⟩
theorem eX5_wedding_72 : decode cX5_wedding 72 = .ok (.invokevirtual 105, 3) ∧ 72 + 3 = 75 := ⟨by decide +kernel, rfl⟩
theorem eX5_wedding_75 : decode cX5_wedding 75 = .ok (.ireturn, 1) := by decide +kernel
theorem eX5_road_0 : decode cX5_road 0 = .ok (.iload_n 1, 1) ∧ 0 + 1 = 1 := ⟨by decide +kernel, rfl⟩
theorem eX5_road_1 : decode cX5_road 1 = .ok (.invokestatic 109, 3) ∧ 1 + 3 = 4 := ⟨by decide +kernel, rfl⟩
theorem eX5_road_4 : decode cX5_road 4 = .ok (.ifCond .eq 17, 3) ∧ ((4 : Nat) : Int) + 17 = ((21 : Nat) : Int) ∧ 4 + 3 = 7 := ⟨by decide +kernel, by decide, rfl⟩
theorem eX5_road_7 : decode cX5_road 7 = .ok (.aload_n 0, 1) ∧ 7 + 1 = 8 := ⟨by decide +kernel, rfl⟩
theorem eX5_road_8 : decode cX5_road 8 = .ok (.getfield 26, 3) ∧ 8 + 3 = 11 := ⟨by decide +kernel, rfl⟩
theorem eX5_road_11 : decode cX5_road 11 = .ok (.getfield 112, 3) ∧ 11 + 3 = 14 := ⟨by decide +kernel, rfl⟩
theorem eX5_road_14 : decode cX5_road 14 = .ok (.iload_n 1, 1) ∧ 14 + 1 = 15 := ⟨by decide +kernel, rfl⟩
theorem eX5_road_15 : decode cX5_road 15 = .ok (.invokestatic 115, 3) ∧ 15 + 3 = 18 := ⟨by decide +kernel, rfl⟩
theorem eX5_road_18 : decode cX5_road 18 = .ok (.goto 4, 3) ∧ ((18 : Nat) : Int) + 4 = ((22 : Nat) : Int) := ⟨by decide +kernel, by decide⟩
theorem eX5_road_21 : decode cX5_road 21 = .ok (.iconst (-1), 1) ∧ 21 + 1 = 22 := ⟨by decide +kernel, rfl⟩
theorem eX5_road_22 : decode cX5_road 22 = .ok (.ireturn, 1) := by decide +kernel
theorem eX5_way_0 : decode cX5_way 0 = .ok (.iload_n 1, 1) ∧ 0 + 1 = 1 := ⟨by decide +kernel, rfl⟩
theorem eX5_way_1 : decode cX5_way 1 = .ok (.invokestatic 119, 3) ∧ 1 + 3 = 4 := ⟨by decide +kernel, rfl⟩
theorem eX5_way_4 : decode cX5_way 4 = .ok (.ifCond .eq 10, 3) ∧ ((4 : Nat) : Int) + 10 = ((14 : Nat) : Int) ∧ 4 + 3 = 7 := ⟨by decide +kernel, by decide, rfl⟩
theorem eX5_way_7 : decode cX5_way 7 = .ok (.iload_n 2, 1) ∧ 7 + 1 = 8 := ⟨by decide +kernel, rfl⟩
theorem eX5_way_8 : decode cX5_way 8 = .ok (.invokestatic 119, 3) ∧ 8 + 3 = 11 := ⟨by decide +kernel, rfl⟩
theorem eX5_way_11 : decode cX5_way 11 = .ok (.ifCond .ne 5, 3) ∧ ((11 : Nat) : Int) + 5 = ((16 : Nat) : Int) ∧ 11 + 3 = 14 := ⟨by decide +kernel, by decide, rfl⟩
theorem eX5_way_14 : decode cX5_way 14 = .ok (.iconst (-1), 1) ∧ 14 + 1 = 15 := ⟨by decide +kernel, rfl⟩
theorem eX5_way_15 : decode cX5_way 15 = .ok (.ireturn, 1) := by decide +kernel
theorem eX5_way_16 : decode cX5_way 16 = .ok (.aload_n 0, 1) ∧ 16 + 1 = 17 := ⟨by decide +kernel, rfl⟩
theorem eX5_way_17 : decode cX5_way 17 = .ok (.getfield 26, 3) ∧ 17 + 3 = 20 := ⟨by decide +kernel, rfl⟩
theorem eX5_way_20 : decode cX5_way 20 = .ok (.iload_n 1, 1) ∧ 20 + 1 = 21 := ⟨by decide +kernel, rfl⟩
theorem eX5_way_21 : decode cX5_way 21 = .ok (.iload_n 2, 1) ∧ 21 + 1 = 22 := ⟨by decide +kernel, rfl⟩
theorem eX5_way_22 : decode cX5_way 22 = .ok (.invokevirtual 122, 3) ∧ 22 + 3 = 25 := ⟨by decide +kernel, rfl⟩
theorem eX5_way_25 : decode cX5_way 25 = .ok (.ireturn, 1) := by decide +kernel
theorem eX5_wed_0 : decode cX5_wed 0 = .ok (.aload_n 0, 1) ∧ 0 + 1 = 1 := ⟨by decide +kernel, rfl⟩
theorem eX5_wed_1 : decode cX5_wed 1 = .ok (.getfield 19, 3) ∧ 1 + 3 = 4 := ⟨by decide +kernel, rfl⟩
theorem eX5_wed_4 : decode cX5_wed 4 = .ok (.iload_n 1, 1) ∧ 4 + 1 = 5 := ⟨by decide +kernel, rfl⟩
theorem eX5_wed_5 : decode cX5_wed 5 = .ok (.invokevirtual 95, 3) ∧ 5 + 3 = 8 := ⟨by decide +kernel, rfl⟩
theorem eX5_wed_8 : decode cX5_wed 8 = .ok (.ifCond .ne 5, 3) ∧ ((8 : Nat) : Int) + 5 = ((13 : Nat) : Int) ∧ 8 + 3 = 11 := ⟨by decide +kernel, by decide, rfl⟩
theorem eX5_wed_11 : decode cX5_wed 11 = .ok (.iconst (-1), 1) ∧ 11 + 1 = 12 := ⟨by decide +kernel, rfl⟩
theorem eX5_wed_12 : decode cX5_wed 12 = .ok (.ireturn, 1) := by decide +kernel
theorem eX5_wed_13 : decode cX5_wed 13 = .ok (.aload_n 0, 1) ∧ 13 + 1 = 14 := ⟨by decide +kernel, rfl⟩
theorem eX5_wed_14 : decode cX5_wed 14 = .ok (.getfield 19, 3) ∧ 14 + 3 = 17 := ⟨by decide +kernel, rfl⟩
theorem eX5_wed_17 : decode cX5_wed 17 = .ok (.aload_n 0, 1) ∧ 17 + 1 = 18 := ⟨by decide +kernel, rfl⟩
theorem eX5_wed_18 : decode cX5_wed 18 = .ok (.getfield 26, 3) ∧ 18 + 3 = 21 := ⟨by decide +kernel, rfl⟩
theorem eX5_wed_21 : decode cX5_wed 21 = .ok (.iload_n 1, 1) ∧ 21 + 1 = 22 := ⟨by decide +kernel, rfl⟩
theorem eX5_wed_22 : decode cX5_wed 22 = .ok (.invokevirtual 105, 3) ∧ 22 + 3 = 25 := ⟨by decide +kernel, rfl⟩
theorem eX5_wed_25 : decode cX5_wed 25 = .ok (.bipush (-9), 2) ∧ 25 + 2 = 27 := ⟨by decide +kernel, rfl⟩
theorem eX5_wed_27 : decode cX5_wed 27 = .ok (.if_icmp .ne 6, 3) ∧ ((27 : Nat) : Int) + 6 = ((33 : Nat) : Int) ∧ 27 + 3 = 30 := ⟨by decide +kernel, by decide, rfl⟩
theorem eX5_wed_30 : decode cX5_wed 30 = .ok (.bipush (-3), 2) ∧ 30 + 2 = 32 := ⟨by decide +kernel, rfl⟩
theorem eX5_wed_32 : decode cX5_wed 32 = .ok (.ireturn, 1) := by decide +kernel
theorem eX5_wed_33 : decode cX5_wed 33 = .ok (.aload_n 0, 1) ∧ 33 + 1 = 34 := ⟨by decide +kernel, rfl⟩
theorem eX5_wed_34 : decode cX5_wed 34 = .ok (.getfield 36, 3) ∧ 34 + 3 = 37 := ⟨by decide +kernel, rfl⟩
theorem eX5_wed_37 : decode cX5_wed 37 = .ok (.aload_n 0, 1) ∧ 37 + 1 = 38 := ⟨by decide +kernel, rfl⟩
theorem eX5_wed_38 : decode cX5_wed 38 = .ok (.getfield 26, 3) ∧ 38 + 3 = 41 := ⟨by decide +kernel, rfl⟩
theorem eX5_wed_41 : decode cX5_wed 41 = .ok (.invokevirtual 125, 3) ∧ 41 + 3 = 44 := ⟨by decide +kernel, rfl⟩
theorem eX5_wed_44 : decode cX5_wed 44 = .ok (.aload_n 0, 1) ∧ 44 + 1 = 45 := ⟨by decide +kernel, rfl⟩
theorem eX5_wed_45 : decode cX5_wed 45 = .ok (.getfield 19, 3) ∧ 45 + 3 = 48 := ⟨by decide +kernel, rfl⟩
theorem eX5_wed_48 : decode cX5_wed 48 = .ok (.aload_n 0, 1) ∧ 48 + 1 = 49 := ⟨by decide +kernel, rfl⟩
theorem eX5_wed_49 : decode cX5_wed 49 = .ok (.getfield 26, 3) ∧ 49 + 3 = 52 := ⟨by decide +kernel, rfl⟩
theorem eX5_wed_52 : decode cX5_wed 52 = .ok (.iload_n 1, 1) ∧ 52 + 1 = 53 := ⟨by decide +kernel, rfl⟩
theorem eX5_wed_53 : decode cX5_wed 53 = .ok (.invokevirtual 129, 3) ∧ 53 + 3 = 56 := ⟨by decide +kernel, rfl⟩
theorem eX5_wed_56 : decode cX5_wed 56 = .ok (.pop, 1) ∧ 56 + 1 = 57 := ⟨by decide +kernel, rfl⟩
theorem eX5_wed_57 : decode cX5_wed 57 = .ok (.aload_n 0, 1) ∧ 57 + 1 = 58 := ⟨by decide +kernel, rfl⟩
theorem eX5_wed_58 : decode cX5_wed 58 = .ok (.getfield 26, 3) ∧ 58 + 3 = 61 := ⟨by decide +kernel, rfl⟩
theorem eX5_wed_61 : decode cX5_wed 61 = .ok (.getfield 133, 3) ∧ 61 + 3 = 64 := ⟨by decide +kernel, rfl⟩
theorem eX5_wed_64 : decode cX5_wed 64 = .ok (.ireturn, 1) := by decide +kernel
theorem eX5_carry_0 : decode cX5_carry 0 = .ok (.iload_n 1, 1) ∧ 0 + 1 = 1 := ⟨by decide +kernel, rfl⟩
theorem eX5_carry_1 : decode cX5_carry 1 = .ok (.invokestatic 119, 3) ∧ 1 + 3 = 4 := ⟨by decide +kernel, rfl⟩
theorem eX5_carry_4 : decode cX5_carry 4 = .ok (.ifCond .ne 5, 3) ∧ ((4 : Nat) : Int) + 5 = ((9 : Nat) : Int) ∧ 4 + 3 = 7 := ⟨by decide +kernel, by decide, rfl⟩
theorem eX5_carry_7 : decode cX5_carry 7 = .ok (.iconst (-1), 1) ∧ 7 + 1 = 8 := ⟨by decide +kernel, rfl⟩
theorem eX5_carry_8 : decode cX5_carry 8 = .ok (.ireturn, 1) := by decide +kernel
theorem eX5_carry_9 : decode cX5_carry 9 = .ok (.iload_n 1, 1) ∧ 9 + 1 = 10 := ⟨by decide +kernel, rfl⟩
theorem eX5_carry_10 : decode cX5_carry 10 = .ok (.aload_n 0, 1) ∧ 10 + 1 = 11 := ⟨by decide +kernel, rfl⟩
theorem eX5_carry_11 : decode cX5_carry 11 = .ok (.getfield 26, 3) ∧ 11 + 3 = 14 := ⟨by decide +kernel, rfl⟩
theorem eX5_carry_14 : decode cX5_carry 14 = .ok (.getfield 136, 3) ∧ 14 + 3 = 17 := ⟨by decide +kernel, rfl⟩
theorem eX5_carry_17 : decode cX5_carry 17 = .ok (.if_icmp .ne 6, 3) ∧ ((17 : Nat) : Int) + 6 = ((23 : Nat) : Int) ∧ 17 + 3 = 20 := ⟨by decide +kernel, by decide, rfl⟩
theorem eX5_carry_20 : decode cX5_carry 20 = .ok (.bipush (-3), 2) ∧ 20 + 2 = 22 := ⟨by decide +kernel, rfl⟩
theorem eX5_carry_22 : decode cX5_carry 22 = .ok (.ireturn, 1) := by decide +kernel
theorem eX5_carry_23 : decode cX5_carry 23 = .ok (.aload_n 0, 1) ∧ 23 + 1 = 24 := ⟨by decide +kernel, rfl⟩
theorem eX5_carry_24 : decode cX5_carry 24 = .ok (.getfield 36, 3) ∧ 24 + 3 = 27 := ⟨by decide +kernel, rfl⟩
theorem eX5_carry_27 : decode cX5_carry 27 = .ok (.aload_n 0, 1) ∧ 27 + 1 = 28 := ⟨by decide +kernel, rfl⟩
theorem eX5_carry_28 : decode cX5_carry 28 = .ok (.getfield 26, 3) ∧ 28 + 3 = 31 := ⟨by decide +kernel, rfl⟩
theorem eX5_carry_31 : decode cX5_carry 31 = .ok (.invokevirtual 125, 3) ∧ 31 + 3 = 34 := ⟨by decide +kernel, rfl⟩
theorem eX5_carry_34 : decode cX5_carry 34 = .ok (.aload_n 0, 1) ∧ 34 + 1 = 35 := ⟨by decide +kernel, rfl⟩
theorem eX5_carry_35 : decode cX5_carry 35 = .ok (.getfield 26, 3) ∧ 35 + 3 = 38 := ⟨by decide +kernel, rfl⟩
theorem eX5_carry_38 : decode cX5_carry 38 = .ok (.dup, 1) ∧ 38 + 1 = 39 := ⟨by decide +kernel, rfl⟩
theorem eX5_carry_39 : decode cX5_carry 39 = .ok (.getfield 133, 3) ∧ 39 + 3 = 42 := ⟨by decide +kernel, rfl⟩
theorem eX5_carry_42 : decode cX5_carry 42 = .ok (.aload_n 0, 1) ∧ 42 + 1 = 43 := ⟨by decide +kernel, rfl⟩
theorem eX5_carry_43 : decode cX5_carry 43 = .ok (.getfield 26, 3) ∧ 43 + 3 = 46 := ⟨by decide +kernel, rfl⟩
theorem eX5_carry_46 : decode cX5_carry 46 = .ok (.aload_n 0, 1) ∧ 46 + 1 = 47 := ⟨by decide +kernel, rfl⟩
theorem eX5_carry_47 : decode cX5_carry 47 = .ok (.getfield 26, 3) ∧ 47 + 3 = 50 := ⟨by decide +kernel, rfl⟩
theorem eX5_carry_50 : decode cX5_carry 50 = .ok (.getfield 136, 3) ∧ 50 + 3 = 53 := ⟨by decide +kernel, rfl⟩
theorem eX5_carry_53 : decode cX5_carry 53 = .ok (.iload_n 1, 1) ∧ 53 + 1 = 54 := ⟨by decide +kernel, rfl⟩
theorem eX5_carry_54 : decode cX5_carry 54 = .ok (.invokevirtual 122, 3) ∧ 54 + 3 = 57 := ⟨by decide +kernel, rfl⟩
theorem eX5_carry_57 : decode cX5_carry 57 = .ok (.iadd, 1) ∧ 57 + 1 = 58 := ⟨by decide +kernel, rfl⟩
theorem eX5_carry_58 : decode cX5_carry 58 = .ok (.putfield 133, 3) ∧ 58 + 3 = 61 := ⟨by decide +kernel, rfl⟩
theorem eX5_carry_61 : decode cX5_carry 61 = .ok (.aload_n 0, 1) ∧ 61 + 1 = 62 := ⟨by decide +kernel, rfl⟩
theorem eX5_carry_62 : decode cX5_carry 62 = .ok (.getfield 26, 3) ∧ 62 + 3 = 65 := ⟨by decide +kernel, rfl⟩
theorem eX5_carry_65 : decode cX5_carry 65 = .ok (.iload_n 1, 1) ∧ 65 + 1 = 66 := ⟨by decide +kernel, rfl⟩
theorem eX5_carry_66 : decode cX5_carry 66 = .ok (.putfield 136, 3) ∧ 66 + 3 = 69 := ⟨by decide +kernel, rfl⟩
theorem eX5_carry_69 : decode cX5_carry 69 = .ok (.aload_n 0, 1) ∧ 69 + 1 = 70 := ⟨by decide +kernel, rfl⟩
theorem eX5_carry_70 : decode cX5_carry 70 = .ok (.getfield 26, 3) ∧ 70 + 3 = 73 := ⟨by decide +kernel, rfl⟩
theorem eX5_carry_73 : decode cX5_carry 73 = .ok (.getfield 133, 3) ∧ 73 + 3 = 76 := ⟨by decide +kernel, rfl⟩
theorem eX5_carry_76 : decode cX5_carry 76 = .ok (.ireturn, 1) := by decide +kernel
theorem eX5_linger_0 : decode cX5_linger 0 = .ok (.aload_n 0, 1) ∧ 0 + 1 = 1 := ⟨by decide +kernel, rfl⟩
theorem eX5_linger_1 : decode cX5_linger 1 = .ok (.getfield 36, 3) ∧ 1 + 3 = 4 := ⟨by decide +kernel, rfl⟩
theorem eX5_linger_4 : decode cX5_linger 4 = .ok (.aload_n 0, 1) ∧ 4 + 1 = 5 := ⟨by decide +kernel, rfl⟩
theorem eX5_linger_5 : decode cX5_linger 5 = .ok (.getfield 26, 3) ∧ 5 + 3 = 8 := ⟨by decide +kernel, rfl⟩
theorem eX5_linger_8 : decode cX5_linger 8 = .ok (.invokevirtual 125, 3) ∧ 8 + 3 = 11 := ⟨by decide +kernel, rfl⟩
theorem eX5_linger_11 : decode cX5_linger 11 = .ok (.aload_n 0, 1) ∧ 11 + 1 = 12 := ⟨by decide +kernel, rfl⟩
theorem eX5_linger_12 : decode cX5_linger 12 = .ok (.getfield 26, 3) ∧ 12 + 3 = 15 := ⟨by decide +kernel, rfl⟩
theorem eX5_linger_15 : decode cX5_linger 15 = .ok (.dup, 1) ∧ 15 + 1 = 16 := ⟨by decide +kernel, rfl⟩
theorem eX5_linger_16 : decode cX5_linger 16 = .ok (.getfield 133, 3) ∧ 16 + 3 = 19 := ⟨by decide +kernel, rfl⟩
theorem eX5_linger_19 : decode cX5_linger 19 = .ok (.iconst 1, 1) ∧ 19 + 1 = 20 := ⟨by decide +kernel, rfl⟩
theorem eX5_linger_20 : decode cX5_linger 20 = .ok (.iadd, 1) ∧ 20 + 1 = 21 := ⟨by decide +kernel, rfl⟩
theorem eX5_linger_21 : decode cX5_linger 21 = .ok (.putfield 133, 3) ∧ 21 + 3 = 24 := ⟨by decide +kernel, rfl⟩
theorem eX5_linger_24 : decode cX5_linger 24 = .ok (.aload_n 0, 1) ∧ 24 + 1 = 25 := ⟨by decide +kernel, rfl⟩
theorem eX5_linger_25 : decode cX5_linger 25 = .ok (.getfield 26, 3) ∧ 25 + 3 = 28 := ⟨by decide +kernel, rfl⟩
theorem eX5_linger_28 : decode cX5_linger 28 = .ok (.getfield 133, 3) ∧ 28 + 3 = 31 := ⟨by decide +kernel, rfl⟩
theorem eX5_linger_31 : decode cX5_linger 31 = .ok (.ireturn, 1) := by decide +kernel
theorem eX5_mend_0 : decode cX5_mend 0 = .ok (.iload_n 1, 1) ∧ 0 + 1 = 1 := ⟨by decide +kernel, rfl⟩
theorem eX5_mend_1 : decode cX5_mend 1 = .ok (.invokestatic 109, 3) ∧ 1 + 3 = 4 := ⟨by decide +kernel, rfl⟩
theorem eX5_mend_4 : decode cX5_mend 4 = .ok (.ifCond .ne 5, 3) ∧ ((4 : Nat) : Int) + 5 = ((9 : Nat) : Int) ∧ 4 + 3 = 7 := ⟨by decide +kernel, by decide, rfl⟩
theorem eX5_mend_7 : decode cX5_mend 7 = .ok (.iconst (-1), 1) ∧ 7 + 1 = 8 := ⟨by decide +kernel, rfl⟩
theorem eX5_mend_8 : decode cX5_mend 8 = .ok (.ireturn, 1) := by decide +kernel
theorem eX5_mend_9 : decode cX5_mend 9 = .ok (.aload_n 0, 1) ∧ 9 + 1 = 10 := ⟨by decide +kernel, rfl⟩
theorem eX5_mend_10 : decode cX5_mend 10 = .ok (.getfield 26, 3) ∧ 10 + 3 = 13 := ⟨by decide +kernel, rfl⟩
theorem eX5_mend_13 : decode cX5_mend 13 = .ok (.getfield 112, 3) ∧ 13 + 3 = 16 := ⟨by decide +kernel, rfl⟩
theorem eX5_mend_16 : decode cX5_mend 16 = .ok (.iload_n 1, 1) ∧ 16 + 1 = 17 := ⟨by decide +kernel, rfl⟩
theorem eX5_mend_17 : decode cX5_mend 17 = .ok (.invokestatic 115, 3) ∧ 17 + 3 = 20 := ⟨by decide +kernel, rfl⟩
theorem eX5_mend_20 : decode cX5_mend 20 = .ok (.ifCond .gt 6, 3) ∧ ((20 : Nat) : Int) + 6 = ((26 : Nat) : Int) ∧ 20 + 3 = 23 := ⟨by decide +kernel, by decide, rfl⟩
theorem eX5_mend_23 : decode cX5_mend 23 = .ok (.bipush (-3), 2) ∧ 23 + 2 = 25 := ⟨by decide +kernel, rfl⟩
theorem eX5_mend_25 : decode cX5_mend 25 = .ok (.ireturn, 1) := by decide +kernel
theorem eX5_mend_26 : decode cX5_mend 26 = .ok (.aload_n 0, 1) ∧ 26 + 1 = 27 := ⟨by decide +kernel, rfl⟩
theorem eX5_mend_27 : decode cX5_mend 27 = .ok (.getfield 36, 3) ∧ 27 + 3 = 30 := ⟨by decide +kernel, rfl⟩
theorem eX5_mend_30 : decode cX5_mend 30 = .ok (.aload_n 0, 1) ∧ 30 + 1 = 31 := ⟨by decide +kernel, rfl⟩
theorem eX5_mend_31 : decode cX5_mend 31 = .ok (.getfield 26, 3) ∧ 31 + 3 = 34 := ⟨by decide +kernel, rfl⟩
theorem eX5_mend_34 : decode cX5_mend 34 = .ok (.invokevirtual 125, 3) ∧ 34 + 3 = 37 := ⟨by decide +kernel, rfl⟩
theorem eX5_mend_37 : decode cX5_mend 37 = .ok (.aload_n 0, 1) ∧ 37 + 1 = 38 := ⟨by decide +kernel, rfl⟩
theorem eX5_mend_38 : decode cX5_mend 38 = .ok (.getfield 26, 3) ∧ 38 + 3 = 41 := ⟨by decide +kernel, rfl⟩
theorem eX5_mend_41 : decode cX5_mend 41 = .ok (.iload_n 1, 1) ∧ 41 + 1 = 42 := ⟨by decide +kernel, rfl⟩
theorem eX5_mend_42 : decode cX5_mend 42 = .ok (.invokevirtual 139, 3) ∧ 42 + 3 = 45 := ⟨by decide +kernel, rfl⟩
theorem eX5_mend_45 : decode cX5_mend 45 = .ok (.aload_n 0, 1) ∧ 45 + 1 = 46 := ⟨by decide +kernel, rfl⟩
theorem eX5_mend_46 : decode cX5_mend 46 = .ok (.getfield 26, 3) ∧ 46 + 3 = 49 := ⟨by decide +kernel, rfl⟩
theorem eX5_mend_49 : decode cX5_mend 49 = .ok (.getfield 112, 3) ∧ 49 + 3 = 52 := ⟨by decide +kernel, rfl⟩
theorem eX5_mend_52 : decode cX5_mend 52 = .ok (.iload_n 1, 1) ∧ 52 + 1 = 53 := ⟨by decide +kernel, rfl⟩
theorem eX5_mend_53 : decode cX5_mend 53 = .ok (.invokestatic 115, 3) ∧ 53 + 3 = 56 := ⟨by decide +kernel, rfl⟩
theorem eX5_mend_56 : decode cX5_mend 56 = .ok (.ireturn, 1) := by decide +kernel
theorem eX5_undo_0 : decode cX5_undo 0 = .ok (.aload_n 0, 1) ∧ 0 + 1 = 1 := ⟨by decide +kernel, rfl⟩
theorem eX5_undo_1 : decode cX5_undo 1 = .ok (.getfield 36, 3) ∧ 1 + 3 = 4 := ⟨by decide +kernel, rfl⟩
theorem eX5_undo_4 : decode cX5_undo 4 = .ok (.aload_n 0, 1) ∧ 4 + 1 = 5 := ⟨by decide +kernel, rfl⟩
theorem eX5_undo_5 : decode cX5_undo 5 = .ok (.getfield 26, 3) ∧ 5 + 3 = 8 := ⟨by decide +kernel, rfl⟩
theorem eX5_undo_8 : decode cX5_undo 8 = .ok (.invokevirtual 143, 3) ∧ 8 + 3 = 11 := ⟨by decide +kernel, rfl⟩
theorem eX5_undo_11 : decode cX5_undo 11 = .ok (.ifCond .eq 13, 3) ∧ ((11 : Nat) : Int) + 13 = ((24 : Nat) : Int) ∧ 11 + 3 = 14 := ⟨by decide +kernel, by decide, rfl⟩
theorem eX5_undo_14 : decode cX5_undo 14 = .ok (.aload_n 0, 1) ∧ 14 + 1 = 15 := ⟨by decide +kernel, rfl⟩
theorem eX5_undo_15 : decode cX5_undo 15 = .ok (.getfield 36, 3) ∧ 15 + 3 = 18 := ⟨by decide +kernel, rfl⟩
theorem eX5_undo_18 : decode cX5_undo 18 = .ok (.getfield 147, 3) ∧ 18 + 3 = 21 := ⟨by decide +kernel, rfl⟩
theorem eX5_undo_21 : decode cX5_undo 21 = .ok (.goto 5, 3) ∧ ((21 : Nat) : Int) + 5 = ((26 : Nat) : Int) := ⟨by decide +kernel, by decide⟩
theorem eX5_undo_24 : decode cX5_undo 24 = .ok (.bipush (-3), 2) ∧ 24 + 2 = 26 := ⟨by decide +kernel, rfl⟩
theorem eX5_undo_26 : decode cX5_undo 26 = .ok (.ireturn, 1) := by decide +kernel
theorem eX5_most_0 : decode cX5_most 0 = .ok (.iload_n 1, 1) ∧ 0 + 1 = 1 := ⟨by decide +kernel, rfl⟩
theorem eX5_most_1 : decode cX5_most 1 = .ok (.ifCond .lt 8, 3) ∧ ((1 : Nat) : Int) + 8 = ((9 : Nat) : Int) ∧ 1 + 3 = 4 := ⟨by decide +kernel, by decide, rfl⟩
theorem eX5_most_4 : decode cX5_most 4 = .ok (.iload_n 1, 1) ∧ 4 + 1 = 5 := ⟨by decide +kernel, rfl⟩
theorem eX5_most_5 : decode cX5_most 5 = .ok (.iconst 2, 1) ∧ 5 + 1 = 6 := ⟨by decide +kernel, rfl⟩
theorem eX5_most_6 : decode cX5_most 6 = .ok (.if_icmp .le 6, 3) ∧ ((6 : Nat) : Int) + 6 = ((12 : Nat) : Int) ∧ 6 + 3 = 9 := ⟨by decide +kernel, by decide, rfl⟩
theorem eX5_most_9 : decode cX5_most 9 = .ok (.bipush (-2), 2) ∧ 9 + 2 = 11 := ⟨by decide +kernel, rfl⟩
theorem eX5_most_11 : decode cX5_most 11 = .ok (.ireturn, 1) := by decide +kernel
theorem eX5_most_12 : decode cX5_most 12 = .ok (.aload_n 0, 1) ∧ 12 + 1 = 13 := ⟨by decide +kernel, rfl⟩
theorem eX5_most_13 : decode cX5_most 13 = .ok (.getfield 43, 3) ∧ 13 + 3 = 16 := ⟨by decide +kernel, rfl⟩
theorem eX5_most_16 : decode cX5_most 16 = .ok (.aload_n 0, 1) ∧ 16 + 1 = 17 := ⟨by decide +kernel, rfl⟩
theorem eX5_most_17 : decode cX5_most 17 = .ok (.getfield 19, 3) ∧ 17 + 3 = 20 := ⟨by decide +kernel, rfl⟩
theorem eX5_most_20 : decode cX5_most 20 = .ok (.aload_n 0, 1) ∧ 20 + 1 = 21 := ⟨by decide +kernel, rfl⟩
theorem eX5_most_21 : decode cX5_most 21 = .ok (.getfield 26, 3) ∧ 21 + 3 = 24 := ⟨by decide +kernel, rfl⟩
theorem eX5_most_24 : decode cX5_most 24 = .ok (.invokevirtual 148, 3) ∧ 24 + 3 = 27 := ⟨by decide +kernel, rfl⟩
theorem eX5_most_27 : decode cX5_most 27 = .ok (.iload_n 1, 1) ∧ 27 + 1 = 28 := ⟨by decide +kernel, rfl⟩
theorem eX5_most_28 : decode cX5_most 28 = .ok (.ifCond .ne 11, 3) ∧ ((28 : Nat) : Int) + 11 = ((39 : Nat) : Int) ∧ 28 + 3 = 31 := ⟨by decide +kernel, by decide, rfl⟩
theorem eX5_most_31 : decode cX5_most 31 = .ok (.aload_n 0, 1) ∧ 31 + 1 = 32 := ⟨by decide +kernel, rfl⟩
theorem eX5_most_32 : decode cX5_most 32 = .ok (.getfield 43, 3) ∧ 32 + 3 = 35 := ⟨by decide +kernel, rfl⟩
theorem eX5_most_35 : decode cX5_most 35 = .ok (.getfield 152, 3) ∧ 35 + 3 = 38 := ⟨by decide +kernel, rfl⟩
theorem eX5_most_38 : decode cX5_most 38 = .ok (.ireturn, 1) := by decide +kernel
theorem eX5_most_39 : decode cX5_most 39 = .ok (.iload_n 1, 1) ∧ 39 + 1 = 40 := ⟨by decide +kernel, rfl⟩
theorem eX5_most_40 : decode cX5_most 40 = .ok (.iconst 1, 1) ∧ 40 + 1 = 41 := ⟨by decide +kernel, rfl⟩
theorem eX5_most_41 : decode cX5_most 41 = .ok (.if_icmp .ne 13, 3) ∧ ((41 : Nat) : Int) + 13 = ((54 : Nat) : Int) ∧ 41 + 3 = 44 := ⟨by decide +kernel, by decide, rfl⟩
theorem eX5_most_44 : decode cX5_most 44 = .ok (.aload_n 0, 1) ∧ 44 + 1 = 45 := ⟨by decide +kernel, rfl⟩
theorem eX5_most_45 : decode cX5_most 45 = .ok (.getfield 43, 3) ∧ 45 + 3 = 48 := ⟨by decide +kernel, rfl⟩
theorem eX5_most_48 : decode cX5_most 48 = .ok (.getfield 155, 3) ∧ 48 + 3 = 51 := ⟨by decide +kernel, rfl⟩
theorem eX5_most_51 : decode cX5_most 51 = .ok (.goto 10, 3) ∧ ((51 : Nat) : Int) + 10 = ((61 : Nat) : Int) := ⟨by decide +kernel, by decide⟩
theorem eX5_most_54 : decode cX5_most 54 = .ok (.aload_n 0, 1) ∧ 54 + 1 = 55 := ⟨by decide +kernel, rfl⟩
theorem eX5_most_55 : decode cX5_most 55 = .ok (.getfield 43, 3) ∧ 55 + 3 = 58 := ⟨by decide +kernel, rfl⟩
theorem eX5_most_58 : decode cX5_most 58 = .ok (.getfield 158, 3) ∧ 58 + 3 = 61 := ⟨by decide +kernel, rfl⟩
theorem eX5_most_61 : decode cX5_most 61 = .ok (.ireturn, 1) := by decide +kernel
theorem eX5_slack_0 : decode cX5_slack 0 = .ok (.aload_n 0, 1) ∧ 0 + 1 = 1 := ⟨by decide +kernel, rfl⟩
theorem eX5_slack_1 : decode cX5_slack 1 = .ok (.aload_n 0, 1) ∧ 1 + 1 = 2 := ⟨by decide +kernel, rfl⟩
theorem eX5_slack_2 : decode cX5_slack 2 = .ok (.getfield 26, 3) ∧ 2 + 3 = 5 := ⟨by decide +kernel, rfl⟩
theorem eX5_slack_5 : decode cX5_slack 5 = .ok (.invokevirtual 161, 3) ∧ 5 + 3 = 8 := ⟨by decide +kernel, rfl⟩
theorem eX5_slack_8 : decode cX5_slack 8 = .ok (.istore_n 1, 1) ∧ 8 + 1 = 9 := ⟨by decide +kernel, rfl⟩
theorem eX5_slack_9 : decode cX5_slack 9 = .ok (.aload_n 0, 1) ∧ 9 + 1 = 10 := ⟨by decide +kernel, rfl⟩
theorem eX5_slack_10 : decode cX5_slack 10 = .ok (.getfield 30, 3) ∧ 10 + 3 = 13 := ⟨by decide +kernel, rfl⟩
theorem eX5_slack_13 : decode cX5_slack 13 = .ok (.aload_n 0, 1) ∧ 13 + 1 = 14 := ⟨by decide +kernel, rfl⟩
theorem eX5_slack_14 : decode cX5_slack 14 = .ok (.getfield 26, 3) ∧ 14 + 3 = 17 := ⟨by decide +kernel, rfl⟩
theorem eX5_slack_17 : decode cX5_slack 17 = .ok (.invokevirtual 165, 3) ∧ 17 + 3 = 20 := ⟨by decide +kernel, rfl⟩
theorem eX5_slack_20 : decode cX5_slack 20 = .ok (.iconst 0, 1) ∧ 20 + 1 = 21 := ⟨by decide +kernel, rfl⟩
theorem eX5_slack_21 : decode cX5_slack 21 = .ok (.istore_n 2, 1) ∧ 21 + 1 = 22 := ⟨by decide +kernel, rfl⟩
theorem eX5_slack_22 : decode cX5_slack 22 = .ok (.iload_n 2, 1) ∧ 22 + 1 = 23 := ⟨by decide +kernel, rfl⟩
theorem eX5_slack_23 : decode cX5_slack 23 = .ok (.bipush 9, 2) ∧ 23 + 2 = 25 := ⟨by decide +kernel, rfl⟩
theorem eX5_slack_25 : decode cX5_slack 25 = .ok (.if_icmp .ge 36, 3) ∧ ((25 : Nat) : Int) + 36 = ((61 : Nat) : Int) ∧ 25 + 3 = 28 := ⟨by decide +kernel, by decide, rfl⟩
theorem eX5_slack_28 : decode cX5_slack 28 = .ok (.aload_n 0, 1) ∧ 28 + 1 = 29 := ⟨by decide +kernel, rfl⟩
theorem eX5_slack_29 : decode cX5_slack 29 = .ok (.getfield 30, 3) ∧ 29 + 3 = 32 := ⟨by decide +kernel, rfl⟩
theorem eX5_slack_32 : decode cX5_slack 32 = .ok (.dup, 1) ∧ 32 + 1 = 33 := ⟨by decide +kernel, rfl⟩
theorem eX5_slack_33 : decode cX5_slack 33 = .ok (.getfield 133, 3) ∧ 33 + 3 = 36 := ⟨by decide +kernel, rfl⟩
theorem eX5_slack_36 : decode cX5_slack 36 = .ok (.iconst 1, 1) ∧ 36 + 1 = 37 := ⟨by decide +kernel, rfl⟩
theorem eX5_slack_37 : decode cX5_slack 37 = .ok (.iadd, 1) ∧ 37 + 1 = 38 := ⟨by decide +kernel, rfl⟩
theorem eX5_slack_38 : decode cX5_slack 38 = .ok (.putfield 133, 3) ∧ 38 + 3 = 41 := ⟨by decide +kernel, rfl⟩
theorem eX5_slack_41 : decode cX5_slack 41 = .ok (.aload_n 0, 1) ∧ 41 + 1 = 42 := ⟨by decide +kernel, rfl⟩
theorem eX5_slack_42 : decode cX5_slack 42 = .ok (.aload_n 0, 1) ∧ 42 + 1 = 43 := ⟨by decide +kernel, rfl⟩
theorem eX5_slack_43 : decode cX5_slack 43 = .ok (.getfield 30, 3) ∧ 43 + 3 = 46 := ⟨by decide +kernel, rfl⟩
theorem eX5_slack_46 : decode cX5_slack 46 = .ok (.invokevirtual 161, 3) ∧ 46 + 3 = 49 := ⟨by decide +kernel, rfl⟩
theorem eX5_slack_49 : decode cX5_slack 49 = .ok (.iload_n 1, 1) ∧ 49 + 1 = 50 := ⟨by decide +kernel, rfl⟩
theorem eX5_slack_50 : decode cX5_slack 50 = .ok (.if_icmp .eq 5, 3) ∧ ((50 : Nat) : Int) + 5 = ((55 : Nat) : Int) ∧ 50 + 3 = 53 := ⟨by decide +kernel, by decide, rfl⟩
theorem eX5_slack_53 : decode cX5_slack 53 = .ok (.iload_n 2, 1) ∧ 53 + 1 = 54 := ⟨by decide +kernel, rfl⟩
theorem eX5_slack_54 : decode cX5_slack 54 = .ok (.ireturn, 1) := by decide +kernel
theorem eX5_slack_55 : decode cX5_slack 55 = .ok (.iinc 2 1, 3) ∧ 55 + 3 = 58 := ⟨by decide +kernel, rfl⟩
theorem eX5_slack_58 : decode cX5_slack 58 = .ok (.goto (-36), 3) ∧ ((58 : Nat) : Int) + (-36) = ((22 : Nat) : Int) := ⟨by decide +kernel, by decide⟩
theorem eX5_slack_61 : decode cX5_slack 61 = .ok (.bipush 9, 2) ∧ 61 + 2 = 63 := ⟨by decide +kernel, rfl⟩
theorem eX5_slack_63 : decode cX5_slack 63 = .ok (.ireturn, 1) := by decide +kernel
theorem eX5_mending_0 : decode cX5_mending 0 = .ok (.bipush (-9), 2) ∧ 0 + 2 = 2 := ⟨by decide +kernel, rfl⟩
theorem eX5_mending_2 : decode cX5_mending 2 = .ok (.istore_n 2, 1) ∧ 2 + 1 = 3 := ⟨by decide +kernel, rfl⟩
theorem eX5_mending_3 : decode cX5_mending 3 = .ok (.bipush (-9), 2) ∧ 3 + 2 = 5 := ⟨by decide +kernel, rfl⟩
theorem eX5_mending_5 : decode cX5_mending 5 = .ok (.istore_n 3, 1) ∧ 5 + 1 = 6 := ⟨by decide +kernel, rfl⟩
theorem eX5_mending_6 : decode cX5_mending 6 = .ok (.iconst 0, 1) ∧ 6 + 1 = 7 := ⟨by decide +kernel, rfl⟩
theorem eX5_mending_7 : decode cX5_mending 7 = .ok (.istore 4, 2) ∧ 7 + 2 = 9 := ⟨by decide +kernel, rfl⟩
theorem eX5_mending_9 : decode cX5_mending 9 = .ok (.iload 4, 2) ∧ 9 + 2 = 11 := ⟨by decide +kernel, rfl⟩
theorem eX5_mending_11 : decode cX5_mending 11 = .ok (.iconst 5, 1) ∧ 11 + 1 = 12 := ⟨by decide +kernel, rfl⟩
theorem eX5_mending_12 : decode cX5_mending 12 = .ok (.if_icmp .ge 66, 3) ∧ ((12 : Nat) : Int) + 66 = ((78 : Nat) : Int) ∧ 12 + 3 = 15 := ⟨by decide +kernel, by decide, rfl⟩
theorem eX5_mending_15 : decode cX5_mending 15 = .ok (.aload_n 0, 1) ∧ 15 + 1 = 16 := ⟨by decide +kernel, rfl⟩
theorem eX5_mending_16 : decode cX5_mending 16 = .ok (.getfield 26, 3) ∧ 16 + 3 = 19 := ⟨by decide +kernel, rfl⟩
theorem eX5_mending_19 : decode cX5_mending 19 = .ok (.getfield 112, 3) ∧ 19 + 3 = 22 := ⟨by decide +kernel, rfl⟩
theorem eX5_mending_22 : decode cX5_mending 22 = .ok (.iload 4, 2) ∧ 22 + 2 = 24 := ⟨by decide +kernel, rfl⟩
theorem eX5_mending_24 : decode cX5_mending 24 = .ok (.invokestatic 115, 3) ∧ 24 + 3 = 27 := ⟨by decide +kernel, rfl⟩
theorem eX5_mending_27 : decode cX5_mending 27 = .ok (.ifCond .le 45, 3) ∧ ((27 : Nat) : Int) + 45 = ((72 : Nat) : Int) ∧ 27 + 3 = 30 := ⟨by decide +kernel, by decide, rfl⟩
theorem eX5_mending_30 : decode cX5_mending 30 = .ok (.aload_n 0, 1) ∧ 30 + 1 = 31 := ⟨by decide +kernel, rfl⟩
theorem eX5_mending_31 : decode cX5_mending 31 = .ok (.getfield 30, 3) ∧ 31 + 3 = 34 := ⟨by decide +kernel, rfl⟩
theorem eX5_mending_34 : decode cX5_mending 34 = .ok (.aload_n 0, 1) ∧ 34 + 1 = 35 := ⟨by decide +kernel, rfl⟩
theorem eX5_mending_35 : decode cX5_mending 35 = .ok (.getfield 26, 3) ∧ 35 + 3 = 38 := ⟨by decide +kernel, rfl⟩
theorem eX5_mending_38 : decode cX5_mending 38 = .ok (.invokevirtual 165, 3) ∧ 38 + 3 = 41 := ⟨by decide +kernel, rfl⟩
theorem eX5_mending_41 : decode cX5_mending 41 = .ok (.aload_n 0, 1) ∧ 41 + 1 = 42 := ⟨by decide +kernel, rfl⟩
theorem eX5_mending_42 : decode cX5_mending 42 = .ok (.getfield 30, 3) ∧ 42 + 3 = 45 := ⟨by decide +kernel, rfl⟩
theorem eX5_mending_45 : decode cX5_mending 45 = .ok (.iload 4, 2) ∧ 45 + 2 = 47 := ⟨by decide +kernel, rfl⟩
theorem eX5_mending_47 : decode cX5_mending 47 = .ok (.invokevirtual 139, 3) ∧ 47 + 3 = 50 := ⟨by decide +kernel, rfl⟩
theorem eX5_mending_50 : decode cX5_mending 50 = .ok (.aload_n 0, 1) ∧ 50 + 1 = 51 := ⟨by decide +kernel, rfl⟩
theorem eX5_mending_51 : decode cX5_mending 51 = .ok (.aload_n 0, 1) ∧ 51 + 1 = 52 := ⟨by decide +kernel, rfl⟩
theorem eX5_mending_52 : decode cX5_mending 52 = .ok (.getfield 30, 3) ∧ 52 + 3 = 55 := ⟨by decide +kernel, rfl⟩
theorem eX5_mending_55 : decode cX5_mending 55 = .ok (.invokevirtual 161, 3) ∧ 55 + 3 = 58 := ⟨by decide +kernel, rfl⟩
theorem eX5_mending_58 : decode cX5_mending 58 = .ok (.istore 5, 2) ∧ 58 + 2 = 60 := ⟨by decide +kernel, rfl⟩
theorem eX5_mending_60 : decode cX5_mending 60 = .ok (.iload 5, 2) ∧ 60 + 2 = 62 := ⟨by decide +kernel, rfl⟩
theorem eX5_mending_62 : decode cX5_mending 62 = .ok (.iload_n 2, 1) ∧ 62 + 1 = 63 := ⟨by decide +kernel, rfl⟩
theorem eX5_mending_63 : decode cX5_mending 63 = .ok (.if_icmp .le 9, 3) ∧ ((63 : Nat) : Int) + 9 = ((72 : Nat) : Int) ∧ 63 + 3 = 66 := ⟨by decide +kernel, by decide, rfl⟩
theorem eX5_mending_66 : decode cX5_mending 66 = .ok (.iload 5, 2) ∧ 66 + 2 = 68 := ⟨by decide +kernel, rfl⟩
theorem eX5_mending_68 : decode cX5_mending 68 = .ok (.istore_n 2, 1) ∧ 68 + 1 = 69 := ⟨by decide +kernel, rfl⟩
theorem eX5_mending_69 : decode cX5_mending 69 = .ok (.iload 4, 2) ∧ 69 + 2 = 71 := ⟨by decide +kernel, rfl⟩
theorem eX5_mending_71 : decode cX5_mending 71 = .ok (.istore_n 3, 1) ∧ 71 + 1 = 72 := ⟨by decide +kernel, rfl⟩
theorem eX5_mending_72 : decode cX5_mending 72 = .ok (.iinc 4 1, 3) ∧ 72 + 3 = 75 := ⟨by decide +kernel, rfl⟩
theorem eX5_mending_75 : decode cX5_mending 75 = .ok (.goto (-66), 3) ∧ ((75 : Nat) : Int) + (-66) = ((9 : Nat) : Int) := ⟨by decide +kernel, by decide⟩
theorem eX5_mending_78 : decode cX5_mending 78 = .ok (.iload_n 1, 1) ∧ 78 + 1 = 79 := ⟨by decide +kernel, rfl⟩
theorem eX5_mending_79 : decode cX5_mending 79 = .ok (.ifCond .eq 7, 3) ∧ ((79 : Nat) : Int) + 7 = ((86 : Nat) : Int) ∧ 79 + 3 = 82 := ⟨by decide +kernel, by decide, rfl⟩
theorem eX5_mending_82 : decode cX5_mending 82 = .ok (.iload_n 2, 1) ∧ 82 + 1 = 83 := ⟨by decide +kernel, rfl⟩
theorem eX5_mending_83 : decode cX5_mending 83 = .ok (.goto 4, 3) ∧ ((83 : Nat) : Int) + 4 = ((87 : Nat) : Int) := ⟨by decide +kernel, by decide⟩
theorem eX5_mending_86 : decode cX5_mending 86 = .ok (.iload_n 3, 1) ∧ 86 + 1 = 87 := ⟨by decide +kernel, rfl⟩
theorem eX5_mending_87 : decode cX5_mending 87 = .ok (.ireturn, 1) := by decide +kernel
theorem eX5_judge_0 : decode cX5_judge 0 = .ok (.iload_n 1, 1) ∧ 0 + 1 = 1 := ⟨by decide +kernel, rfl⟩
theorem eX5_judge_1 : decode cX5_judge 1 = .ok (.iload_n 2, 1) ∧ 1 + 1 = 2 := ⟨by decide +kernel, rfl⟩
theorem eX5_judge_2 : decode cX5_judge 2 = .ok (.invokestatic 168, 3) ∧ 2 + 3 = 5 := ⟨by decide +kernel, rfl⟩
theorem eX5_judge_5 : decode cX5_judge 5 = .ok (.ifCond .ne 6, 3) ∧ ((5 : Nat) : Int) + 6 = ((11 : Nat) : Int) ∧ 5 + 3 = 8 := ⟨by decide +kernel, by decide, rfl⟩
theorem eX5_judge_8 : decode cX5_judge 8 = .ok (.bipush (-2), 2) ∧ 8 + 2 = 10 := ⟨by decide +kernel, rfl⟩
theorem eX5_judge_10 : decode cX5_judge 10 = .ok (.ireturn, 1) := by decide +kernel
theorem eX5_judge_11 : decode cX5_judge 11 = .ok (.aload_n 0, 1) ∧ 11 + 1 = 12 := ⟨by decide +kernel, rfl⟩
theorem eX5_judge_12 : decode cX5_judge 12 = .ok (.getfield 30, 3) ∧ 12 + 3 = 15 := ⟨by decide +kernel, rfl⟩
theorem eX5_judge_15 : decode cX5_judge 15 = .ok (.aload_n 0, 1) ∧ 15 + 1 = 16 := ⟨by decide +kernel, rfl⟩
theorem eX5_judge_16 : decode cX5_judge 16 = .ok (.getfield 26, 3) ∧ 16 + 3 = 19 := ⟨by decide +kernel, rfl⟩
theorem eX5_judge_19 : decode cX5_judge 19 = .ok (.invokevirtual 165, 3) ∧ 19 + 3 = 22 := ⟨by decide +kernel, rfl⟩
theorem eX5_judge_22 : decode cX5_judge 22 = .ok (.iconst 0, 1) ∧ 22 + 1 = 23 := ⟨by decide +kernel, rfl⟩
theorem eX5_judge_23 : decode cX5_judge 23 = .ok (.istore_n 3, 1) ∧ 23 + 1 = 24 := ⟨by decide +kernel, rfl⟩
theorem eX5_judge_24 : decode cX5_judge 24 = .ok (.iload_n 3, 1) ∧ 24 + 1 = 25 := ⟨by decide +kernel, rfl⟩
theorem eX5_judge_25 : decode cX5_judge 25 = .ok (.iload_n 1, 1) ∧ 25 + 1 = 26 := ⟨by decide +kernel, rfl⟩
theorem eX5_judge_26 : decode cX5_judge 26 = .ok (.if_icmp .ge 31, 3) ∧ ((26 : Nat) : Int) + 31 = ((57 : Nat) : Int) ∧ 26 + 3 = 29 := ⟨by decide +kernel, by decide, rfl⟩
theorem eX5_judge_29 : decode cX5_judge 29 = .ok (.aload_n 0, 1) ∧ 29 + 1 = 30 := ⟨by decide +kernel, rfl⟩
theorem eX5_judge_30 : decode cX5_judge 30 = .ok (.getfield 19, 3) ∧ 30 + 3 = 33 := ⟨by decide +kernel, rfl⟩
theorem eX5_judge_33 : decode cX5_judge 33 = .ok (.aload_n 0, 1) ∧ 33 + 1 = 34 := ⟨by decide +kernel, rfl⟩
theorem eX5_judge_34 : decode cX5_judge 34 = .ok (.getfield 30, 3) ∧ 34 + 3 = 37 := ⟨by decide +kernel, rfl⟩
theorem eX5_judge_37 : decode cX5_judge 37 = .ok (.iload_n 1, 1) ∧ 37 + 1 = 38 := ⟨by decide +kernel, rfl⟩
theorem eX5_judge_38 : decode cX5_judge 38 = .ok (.iload_n 2, 1) ∧ 38 + 1 = 39 := ⟨by decide +kernel, rfl⟩
theorem eX5_judge_39 : decode cX5_judge 39 = .ok (.iload_n 3, 1) ∧ 39 + 1 = 40 := ⟨by decide +kernel, rfl⟩
theorem eX5_judge_40 : decode cX5_judge 40 = .ok (.invokestatic 172, 3) ∧ 40 + 3 = 43 := ⟨by decide +kernel, rfl⟩
theorem eX5_judge_43 : decode cX5_judge 43 = .ok (.invokevirtual 129, 3) ∧ 43 + 3 = 46 := ⟨by decide +kernel, rfl⟩
theorem eX5_judge_46 : decode cX5_judge 46 = .ok (.ifCond .ne 5, 3) ∧ ((46 : Nat) : Int) + 5 = ((51 : Nat) : Int) ∧ 46 + 3 = 49 := ⟨by decide +kernel, by decide, rfl⟩
theorem eX5_judge_49 : decode cX5_judge 49 = .ok (.iload_n 3, 1) ∧ 49 + 1 = 50 := ⟨by decide +kernel, rfl⟩
theorem eX5_judge_50 : decode cX5_judge 50 = .ok (.ireturn, 1) := by decide +kernel
theorem eX5_judge_51 : decode cX5_judge 51 = .ok (.iinc 3 1, 3) ∧ 51 + 3 = 54 := ⟨by decide +kernel, rfl⟩
theorem eX5_judge_54 : decode cX5_judge 54 = .ok (.goto (-30), 3) ∧ ((54 : Nat) : Int) + (-30) = ((24 : Nat) : Int) := ⟨by decide +kernel, by decide⟩
theorem eX5_judge_57 : decode cX5_judge 57 = .ok (.bipush (-9), 2) ∧ 57 + 2 = 59 := ⟨by decide +kernel, rfl⟩
theorem eX5_judge_59 : decode cX5_judge 59 = .ok (.ireturn, 1) := by decide +kernel
theorem eX5_later_0 : decode cX5_later 0 = .ok (.aload_n 0, 1) ∧ 0 + 1 = 1 := ⟨by decide +kernel, rfl⟩
theorem eX5_later_1 : decode cX5_later 1 = .ok (.getfield 19, 3) ∧ 1 + 3 = 4 := ⟨by decide +kernel, rfl⟩
theorem eX5_later_4 : decode cX5_later 4 = .ok (.iload_n 1, 1) ∧ 4 + 1 = 5 := ⟨by decide +kernel, rfl⟩
theorem eX5_later_5 : decode cX5_later 5 = .ok (.invokevirtual 95, 3) ∧ 5 + 3 = 8 := ⟨by decide +kernel, rfl⟩
theorem eX5_later_8 : decode cX5_later 8 = .ok (.ifCond .ne 5, 3) ∧ ((8 : Nat) : Int) + 5 = ((13 : Nat) : Int) ∧ 8 + 3 = 11 := ⟨by decide +kernel, by decide, rfl⟩
theorem eX5_later_11 : decode cX5_later 11 = .ok (.iconst (-1), 1) ∧ 11 + 1 = 12 := ⟨by decide +kernel, rfl⟩
theorem eX5_later_12 : decode cX5_later 12 = .ok (.ireturn, 1) := by decide +kernel
theorem eX5_later_13 : decode cX5_later 13 = .ok (.aload_n 0, 1) ∧ 13 + 1 = 14 := ⟨by decide +kernel, rfl⟩
theorem eX5_later_14 : decode cX5_later 14 = .ok (.getfield 26, 3) ∧ 14 + 3 = 17 := ⟨by decide +kernel, rfl⟩
theorem eX5_later_17 : decode cX5_later 17 = .ok (.iload_n 1, 1) ∧ 17 + 1 = 18 := ⟨by decide +kernel, rfl⟩
theorem eX5_later_18 : decode cX5_later 18 = .ok (.invokevirtual 102, 3) ∧ 18 + 3 = 21 := ⟨by decide +kernel, rfl⟩
theorem eX5_later_21 : decode cX5_later 21 = .ok (.ifCond .eq 6, 3) ∧ ((21 : Nat) : Int) + 6 = ((27 : Nat) : Int) ∧ 21 + 3 = 24 := ⟨by decide +kernel, by decide, rfl⟩
theorem eX5_later_24 : decode cX5_later 24 = .ok (.bipush (-3), 2) ∧ 24 + 2 = 26 := ⟨by decide +kernel, rfl⟩
theorem eX5_later_26 : decode cX5_later 26 = .ok (.ireturn, 1) := by decide +kernel
theorem eX5_later_27 : decode cX5_later 27 = .ok (.aload_n 0, 1) ∧ 27 + 1 = 28 := ⟨by decide +kernel, rfl⟩
theorem eX5_later_28 : decode cX5_later 28 = .ok (.getfield 26, 3) ∧ 28 + 3 = 31 := ⟨by decide +kernel, rfl⟩
theorem eX5_later_31 : decode cX5_later 31 = .ok (.aload_n 0, 1) ∧ 31 + 1 = 32 := ⟨by decide +kernel, rfl⟩
theorem eX5_later_32 : decode cX5_later 32 = .ok (.getfield 26, 3) ∧ 32 + 3 = 35 := ⟨by decide +kernel, rfl⟩
theorem eX5_later_35 : decode cX5_later 35 = .ok (.getfield 136, 3) ∧ 35 + 3 = 38 := ⟨by decide +kernel, rfl⟩
theorem eX5_later_38 : decode cX5_later 38 = .ok (.aload_n 0, 1) ∧ 38 + 1 = 39 := ⟨by decide +kernel, rfl⟩
theorem eX5_later_39 : decode cX5_later 39 = .ok (.getfield 19, 3) ∧ 39 + 3 = 42 := ⟨by decide +kernel, rfl⟩
theorem eX5_later_42 : decode cX5_later 42 = .ok (.iload_n 1, 1) ∧ 42 + 1 = 43 := ⟨by decide +kernel, rfl⟩
theorem eX5_later_43 : decode cX5_later 43 = .ok (.iconst 0, 1) ∧ 43 + 1 = 44 := ⟨by decide +kernel, rfl⟩
theorem eX5_later_44 : decode cX5_later 44 = .ok (.invokevirtual 98, 3) ∧ 44 + 3 = 47 := ⟨by decide +kernel, rfl⟩
theorem eX5_later_47 : decode cX5_later 47 = .ok (.invokevirtual 122, 3) ∧ 47 + 3 = 50 := ⟨by decide +kernel, rfl⟩
theorem eX5_later_50 : decode cX5_later 50 = .ok (.istore_n 2, 1) ∧ 50 + 1 = 51 := ⟨by decide +kernel, rfl⟩
theorem eX5_later_51 : decode cX5_later 51 = .ok (.bipush 9, 2) ∧ 51 + 2 = 53 := ⟨by decide +kernel, rfl⟩
theorem eX5_later_53 : decode cX5_later 53 = .ok (.istore_n 3, 1) ∧ 53 + 1 = 54 := ⟨by decide +kernel, rfl⟩
theorem eX5_later_54 : decode cX5_later 54 = .ok (.iload_n 3, 1) ∧ 54 + 1 = 55 := ⟨by decide +kernel, rfl⟩
theorem eX5_later_55 : decode cX5_later 55 = .ok (.ifCond .lt 26, 3) ∧ ((55 : Nat) : Int) + 26 = ((81 : Nat) : Int) ∧ 55 + 3 = 58 := ⟨by decide +kernel, by decide, rfl⟩
theorem eX5_later_58 : decode cX5_later 58 = .ok (.aload_n 0, 1) ∧ 58 + 1 = 59 := ⟨by decide +kernel, rfl⟩
theorem eX5_later_59 : decode cX5_later 59 = .ok (.getfield 19, 3) ∧ 59 + 3 = 62 := ⟨by decide +kernel, rfl⟩
theorem eX5_later_62 : decode cX5_later 62 = .ok (.iload_n 1, 1) ∧ 62 + 1 = 63 := ⟨by decide +kernel, rfl⟩
theorem eX5_later_63 : decode cX5_later 63 = .ok (.iload_n 3, 1) ∧ 63 + 1 = 64 := ⟨by decide +kernel, rfl⟩
theorem eX5_later_64 : decode cX5_later 64 = .ok (.iload_n 2, 1) ∧ 64 + 1 = 65 := ⟨by decide +kernel, rfl⟩
theorem eX5_later_65 : decode cX5_later 65 = .ok (.invokevirtual 176, 3) ∧ 65 + 3 = 68 := ⟨by decide +kernel, rfl⟩
theorem eX5_later_68 : decode cX5_later 68 = .ok (.bipush (-9), 2) ∧ 68 + 2 = 70 := ⟨by decide +kernel, rfl⟩
theorem eX5_later_70 : decode cX5_later 70 = .ok (.if_icmp .eq 5, 3) ∧ ((70 : Nat) : Int) + 5 = ((75 : Nat) : Int) ∧ 70 + 3 = 73 := ⟨by decide +kernel, by decide, rfl⟩
theorem eX5_later_73 : decode cX5_later 73 = .ok (.iload_n 3, 1) ∧ 73 + 1 = 74 := ⟨by decide +kernel, rfl⟩
theorem eX5_later_74 : decode cX5_later 74 = .ok (.ireturn, 1) := by decide +kernel
theorem eX5_later_75 : decode cX5_later 75 = .ok (.iinc 3 (-1), 3) ∧ 75 + 3 = 78 := ⟨by decide +kernel, rfl⟩
theorem eX5_later_78 : decode cX5_later 78 = .ok (.goto (-24), 3) ∧ ((78 : Nat) : Int) + (-24) = ((54 : Nat) : Int) := ⟨by decide +kernel, by decide⟩
theorem eX5_later_81 : decode cX5_later 81 = .ok (.bipush (-9), 2) ∧ 81 + 2 = 83 := ⟨by decide +kernel, rfl⟩
theorem eX5_later_83 : decode cX5_later 83 = .ok (.ireturn, 1) := by decide +kernel
theorem eX5_see_0 : decode cX5_see 0 = .ok (.iload_n 2, 1) ∧ 0 + 1 = 1 := ⟨by decide +kernel, rfl⟩
theorem eX5_see_1 : decode cX5_see 1 = .ok (.invokestatic 119, 3) ∧ 1 + 3 = 4 := ⟨by decide +kernel, rfl⟩
theorem eX5_see_4 : decode cX5_see 4 = .ok (.ifCond .ne 5, 3) ∧ ((4 : Nat) : Int) + 5 = ((9 : Nat) : Int) ∧ 4 + 3 = 7 := ⟨by decide +kernel, by decide, rfl⟩
theorem eX5_see_7 : decode cX5_see 7 = .ok (.iconst (-1), 1) ∧ 7 + 1 = 8 := ⟨by decide +kernel, rfl⟩
theorem eX5_see_8 : decode cX5_see 8 = .ok (.ireturn, 1) := by decide +kernel
theorem eX5_see_9 : decode cX5_see 9 = .ok (.iload_n 1, 1) ∧ 9 + 1 = 10 := ⟨by decide +kernel, rfl⟩
theorem eX5_see_10 : decode cX5_see 10 = .ok (.ifCond .lt 9, 3) ∧ ((10 : Nat) : Int) + 9 = ((19 : Nat) : Int) ∧ 10 + 3 = 13 := ⟨by decide +kernel, by decide, rfl⟩
theorem eX5_see_13 : decode cX5_see 13 = .ok (.iload_n 1, 1) ∧ 13 + 1 = 14 := ⟨by decide +kernel, rfl⟩
theorem eX5_see_14 : decode cX5_see 14 = .ok (.bipush 6, 2) ∧ 14 + 2 = 16 := ⟨by decide +kernel, rfl⟩
theorem eX5_see_16 : decode cX5_see 16 = .ok (.if_icmp .le 6, 3) ∧ ((16 : Nat) : Int) + 6 = ((22 : Nat) : Int) ∧ 16 + 3 = 19 := ⟨by decide +kernel, by decide, rfl⟩
theorem eX5_see_19 : decode cX5_see 19 = .ok (.bipush (-2), 2) ∧ 19 + 2 = 21 := ⟨by decide +kernel, rfl⟩
theorem eX5_see_21 : decode cX5_see 21 = .ok (.ireturn, 1) := by decide +kernel
theorem eX5_see_22 : decode cX5_see 22 = .ok (.aload_n 0, 1) ∧ 22 + 1 = 23 := ⟨by decide +kernel, rfl⟩
theorem eX5_see_23 : decode cX5_see 23 = .ok (.getfield 65, 3) ∧ 23 + 3 = 26 := ⟨by decide +kernel, rfl⟩
theorem eX5_see_26 : decode cX5_see 26 = .ok (.ifCond .lt 27, 3) ∧ ((26 : Nat) : Int) + 27 = ((53 : Nat) : Int) ∧ 26 + 3 = 29 := ⟨by decide +kernel, by decide, rfl⟩
theorem eX5_see_29 : decode cX5_see 29 = .ok (.aload_n 0, 1) ∧ 29 + 1 = 30 := ⟨by decide +kernel, rfl⟩
theorem eX5_see_30 : decode cX5_see 30 = .ok (.getfield 65, 3) ∧ 30 + 3 = 33 := ⟨by decide +kernel, rfl⟩
theorem eX5_see_33 : decode cX5_see 33 = .ok (.aload_n 0, 1) ∧ 33 + 1 = 34 := ⟨by decide +kernel, rfl⟩
theorem eX5_see_34 : decode cX5_see 34 = .ok (.getfield 55, 3) ∧ 34 + 3 = 37 := ⟨by decide +kernel, rfl⟩
theorem eX5_see_37 : decode cX5_see 37 = .ok (.arraylength, 1) ∧ 37 + 1 = 38 := ⟨by decide +kernel, rfl⟩
theorem eX5_see_38 : decode cX5_see 38 = .ok (.if_icmp .ge 15, 3) ∧ ((38 : Nat) : Int) + 15 = ((53 : Nat) : Int) ∧ 38 + 3 = 41 := ⟨by decide +kernel, by decide, rfl⟩
theorem eX5_see_41 : decode cX5_see 41 = .ok (.aload_n 0, 1) ∧ 41 + 1 = 42 := ⟨by decide +kernel, rfl⟩
theorem eX5_see_42 : decode cX5_see 42 = .ok (.getfield 65, 3) ∧ 42 + 3 = 45 := ⟨by decide +kernel, rfl⟩
theorem eX5_see_45 : decode cX5_see 45 = .ok (.aload_n 0, 1) ∧ 45 + 1 = 46 := ⟨by decide +kernel, rfl⟩
theorem eX5_see_46 : decode cX5_see 46 = .ok (.getfield 59, 3) ∧ 46 + 3 = 49 := ⟨by decide +kernel, rfl⟩
theorem eX5_see_49 : decode cX5_see 49 = .ok (.arraylength, 1) ∧ 49 + 1 = 50 := ⟨by decide +kernel, rfl⟩
theorem eX5_see_50 : decode cX5_see 50 = .ok (.if_icmp .lt 6, 3) ∧ ((50 : Nat) : Int) + 6 = ((56 : Nat) : Int) ∧ 50 + 3 = 53 := ⟨by decide +kernel, by decide, rfl⟩
theorem eX5_see_53 : decode cX5_see 53 = .ok (.bipush (-4), 2) ∧ 53 + 2 = 55 := ⟨by decide +kernel, rfl⟩
theorem eX5_see_55 : decode cX5_see 55 = .ok (.ireturn, 1) := by decide +kernel
theorem eX5_see_56 : decode cX5_see 56 = .ok (.aload_n 0, 1) ∧ 56 + 1 = 57 := ⟨by decide +kernel, rfl⟩
theorem eX5_see_57 : decode cX5_see 57 = .ok (.getfield 55, 3) ∧ 57 + 3 = 60 := ⟨by decide +kernel, rfl⟩
theorem eX5_see_60 : decode cX5_see 60 = .ok (.aload_n 0, 1) ∧ 60 + 1 = 61 := ⟨by decide +kernel, rfl⟩
theorem eX5_see_61 : decode cX5_see 61 = .ok (.getfield 65, 3) ∧ 61 + 3 = 64 := ⟨by decide +kernel, rfl⟩
theorem eX5_see_64 : decode cX5_see 64 = .ok (.iload_n 1, 1) ∧ 64 + 1 = 65 := ⟨by decide +kernel, rfl⟩
theorem eX5_see_65 : decode cX5_see 65 = .ok (.iastore, 1) ∧ 65 + 1 = 66 := ⟨by decide +kernel, rfl⟩
theorem eX5_see_66 : decode cX5_see 66 = .ok (.aload_n 0, 1) ∧ 66 + 1 = 67 := ⟨by decide +kernel, rfl⟩
theorem eX5_see_67 : decode cX5_see 67 = .ok (.getfield 59, 3) ∧ 67 + 3 = 70 := ⟨by decide +kernel, rfl⟩
theorem eX5_see_70 : decode cX5_see 70 = .ok (.aload_n 0, 1) ∧ 70 + 1 = 71 := ⟨by decide +kernel, rfl⟩
theorem eX5_see_71 : decode cX5_see 71 = .ok (.getfield 65, 3) ∧ 71 + 3 = 74 := ⟨by decide +kernel, rfl⟩
theorem eX5_see_74 : decode cX5_see 74 = .ok (.iload_n 2, 1) ∧ 74 + 1 = 75 := ⟨by decide +kernel, rfl⟩
theorem eX5_see_75 : decode cX5_see 75 = .ok (.iastore, 1) ∧ 75 + 1 = 76 := ⟨by decide +kernel, rfl⟩
theorem eX5_see_76 : decode cX5_see 76 = .ok (.aload_n 0, 1) ∧ 76 + 1 = 77 := ⟨by decide +kernel, rfl⟩
theorem eX5_see_77 : decode cX5_see 77 = .ok (.dup, 1) ∧ 77 + 1 = 78 := ⟨by decide +kernel, rfl⟩
theorem eX5_see_78 : decode cX5_see 78 = .ok (.getfield 65, 3) ∧ 78 + 3 = 81 := ⟨by decide +kernel, rfl⟩
theorem eX5_see_81 : decode cX5_see 81 = .ok (.iconst 1, 1) ∧ 81 + 1 = 82 := ⟨by decide +kernel, rfl⟩
theorem eX5_see_82 : decode cX5_see 82 = .ok (.iadd, 1) ∧ 82 + 1 = 83 := ⟨by decide +kernel, rfl⟩
theorem eX5_see_83 : decode cX5_see 83 = .ok (.putfield 65, 3) ∧ 83 + 3 = 86 := ⟨by decide +kernel, rfl⟩
theorem eX5_see_86 : decode cX5_see 86 = .ok (.aload_n 0, 1) ∧ 86 + 1 = 87 := ⟨by decide +kernel, rfl⟩
theorem eX5_see_87 : decode cX5_see 87 = .ok (.getfield 65, 3) ∧ 87 + 3 = 90 := ⟨by decide +kernel, rfl⟩
theorem eX5_see_90 : decode cX5_see 90 = .ok (.ireturn, 1) := by decide +kernel
theorem eX5_unsee_0 : decode cX5_unsee 0 = .ok (.aload_n 0, 1) ∧ 0 + 1 = 1 := ⟨by decide +kernel, rfl⟩
theorem eX5_unsee_1 : decode cX5_unsee 1 = .ok (.getfield 65, 3) ∧ 1 + 3 = 4 := ⟨by decide +kernel, rfl⟩
theorem eX5_unsee_4 : decode cX5_unsee 4 = .ok (.istore_n 1, 1) ∧ 4 + 1 = 5 := ⟨by decide +kernel, rfl⟩
theorem eX5_unsee_5 : decode cX5_unsee 5 = .ok (.aload_n 0, 1) ∧ 5 + 1 = 6 := ⟨by decide +kernel, rfl⟩
theorem eX5_unsee_6 : decode cX5_unsee 6 = .ok (.iconst 0, 1) ∧ 6 + 1 = 7 := ⟨by decide +kernel, rfl⟩
theorem eX5_unsee_7 : decode cX5_unsee 7 = .ok (.putfield 65, 3) ∧ 7 + 3 = 10 := ⟨by decide +kernel, rfl⟩
theorem eX5_unsee_10 : decode cX5_unsee 10 = .ok (.iload_n 1, 1) ∧ 10 + 1 = 11 := ⟨by decide +kernel, rfl⟩
theorem eX5_unsee_11 : decode cX5_unsee 11 = .ok (.ireturn, 1) := by decide +kernel
theorem eX5_rows_0 : decode cX5_rows 0 = .ok (.iload_n 1, 1) ∧ 0 + 1 = 1 := ⟨by decide +kernel, rfl⟩
theorem eX5_rows_1 : decode cX5_rows 1 = .ok (.ifCond .lt 18, 3) ∧ ((1 : Nat) : Int) + 18 = ((19 : Nat) : Int) ∧ 1 + 3 = 4 := ⟨by decide +kernel, by decide, rfl⟩
theorem eX5_rows_4 : decode cX5_rows 4 = .ok (.iload_n 1, 1) ∧ 4 + 1 = 5 := ⟨by decide +kernel, rfl⟩
theorem eX5_rows_5 : decode cX5_rows 5 = .ok (.bipush 6, 2) ∧ 5 + 2 = 7 := ⟨by decide +kernel, rfl⟩
theorem eX5_rows_7 : decode cX5_rows 7 = .ok (.if_icmp .gt 12, 3) ∧ ((7 : Nat) : Int) + 12 = ((19 : Nat) : Int) ∧ 7 + 3 = 10 := ⟨by decide +kernel, by decide, rfl⟩
theorem eX5_rows_10 : decode cX5_rows 10 = .ok (.iload_n 2, 1) ∧ 10 + 1 = 11 := ⟨by decide +kernel, rfl⟩
theorem eX5_rows_11 : decode cX5_rows 11 = .ok (.ifCond .lt 8, 3) ∧ ((11 : Nat) : Int) + 8 = ((19 : Nat) : Int) ∧ 11 + 3 = 14 := ⟨by decide +kernel, by decide, rfl⟩
theorem eX5_rows_14 : decode cX5_rows 14 = .ok (.iload_n 2, 1) ∧ 14 + 1 = 15 := ⟨by decide +kernel, rfl⟩
theorem eX5_rows_15 : decode cX5_rows 15 = .ok (.iconst 2, 1) ∧ 15 + 1 = 16 := ⟨by decide +kernel, rfl⟩
theorem eX5_rows_16 : decode cX5_rows 16 = .ok (.if_icmp .le 6, 3) ∧ ((16 : Nat) : Int) + 6 = ((22 : Nat) : Int) ∧ 16 + 3 = 19 := ⟨by decide +kernel, by decide, rfl⟩
theorem eX5_rows_19 : decode cX5_rows 19 = .ok (.bipush (-2), 2) ∧ 19 + 2 = 21 := ⟨by decide +kernel, rfl⟩
theorem eX5_rows_21 : decode cX5_rows 21 = .ok (.ireturn, 1) := by decide +kernel
theorem eX5_rows_22 : decode cX5_rows 22 = .ok (.aload_n 0, 1) ∧ 22 + 1 = 23 := ⟨by decide +kernel, rfl⟩
theorem eX5_rows_23 : decode cX5_rows 23 = .ok (.getfield 43, 3) ∧ 23 + 3 = 26 := ⟨by decide +kernel, rfl⟩
theorem eX5_rows_26 : decode cX5_rows 26 = .ok (.aload_n 0, 1) ∧ 26 + 1 = 27 := ⟨by decide +kernel, rfl⟩
theorem eX5_rows_27 : decode cX5_rows 27 = .ok (.getfield 26, 3) ∧ 27 + 3 = 30 := ⟨by decide +kernel, rfl⟩
theorem eX5_rows_30 : decode cX5_rows 30 = .ok (.iload_n 1, 1) ∧ 30 + 1 = 31 := ⟨by decide +kernel, rfl⟩
theorem eX5_rows_31 : decode cX5_rows 31 = .ok (.invokevirtual 179, 3) ∧ 31 + 3 = 34 := ⟨by decide +kernel, rfl⟩
theorem eX5_rows_34 : decode cX5_rows 34 = .ok (.iconst 0, 1) ∧ 34 + 1 = 35 := ⟨by decide +kernel, rfl⟩
theorem eX5_rows_35 : decode cX5_rows 35 = .ok (.istore_n 3, 1) ∧ 35 + 1 = 36 := ⟨by decide +kernel, rfl⟩
theorem eX5_rows_36 : decode cX5_rows 36 = .ok (.iload_n 3, 1) ∧ 36 + 1 = 37 := ⟨by decide +kernel, rfl⟩
theorem eX5_rows_37 : decode cX5_rows 37 = .ok (.aload_n 0, 1) ∧ 37 + 1 = 38 := ⟨by decide +kernel, rfl⟩
theorem eX5_rows_38 : decode cX5_rows 38 = .ok (.getfield 65, 3) ∧ 38 + 3 = 41 := ⟨by decide +kernel, rfl⟩
theorem eX5_rows_41 : decode cX5_rows 41 = .ok (.if_icmp .ge 32, 3) ∧ ((41 : Nat) : Int) + 32 = ((73 : Nat) : Int) ∧ 41 + 3 = 44 := ⟨by decide +kernel, by decide, rfl⟩
theorem eX5_rows_44 : decode cX5_rows 44 = .ok (.aload_n 0, 1) ∧ 44 + 1 = 45 := ⟨by decide +kernel, rfl⟩
theorem eX5_rows_45 : decode cX5_rows 45 = .ok (.getfield 43, 3) ∧ 45 + 3 = 48 := ⟨by decide +kernel, rfl⟩
theorem eX5_rows_48 : decode cX5_rows 48 = .ok (.aload_n 0, 1) ∧ 48 + 1 = 49 := ⟨by decide +kernel, rfl⟩
theorem eX5_rows_49 : decode cX5_rows 49 = .ok (.getfield 55, 3) ∧ 49 + 3 = 52 := ⟨by decide +kernel, rfl⟩
theorem eX5_rows_52 : decode cX5_rows 52 = .ok (.iload_n 3, 1) ∧ 52 + 1 = 53 := ⟨by decide +kernel, rfl⟩
theorem eX5_rows_53 : decode cX5_rows 53 = .ok (.invokestatic 115, 3) ∧ 53 + 3 = 56 := ⟨by decide +kernel, rfl⟩
theorem eX5_rows_56 : decode cX5_rows 56 = .ok (.aload_n 0, 1) ∧ 56 + 1 = 57 := ⟨by decide +kernel, rfl⟩
theorem eX5_rows_57 : decode cX5_rows 57 = .ok (.getfield 59, 3) ∧ 57 + 3 = 60 := ⟨by decide +kernel, rfl⟩
theorem eX5_rows_60 : decode cX5_rows 60 = .ok (.iload_n 3, 1) ∧ 60 + 1 = 61 := ⟨by decide +kernel, rfl⟩
theorem eX5_rows_61 : decode cX5_rows 61 = .ok (.invokestatic 115, 3) ∧ 61 + 3 = 64 := ⟨by decide +kernel, rfl⟩
theorem eX5_rows_64 : decode cX5_rows 64 = .ok (.invokevirtual 183, 3) ∧ 64 + 3 = 67 := ⟨by decide +kernel, rfl⟩
theorem eX5_rows_67 : decode cX5_rows 67 = .ok (.iinc 3 1, 3) ∧ 67 + 3 = 70 := ⟨by decide +kernel, rfl⟩
theorem eX5_rows_70 : decode cX5_rows 70 = .ok (.goto (-34), 3) ∧ ((70 : Nat) : Int) + (-34) = ((36 : Nat) : Int) := ⟨by decide +kernel, by decide⟩
theorem eX5_rows_73 : decode cX5_rows 73 = .ok (.aload_n 0, 1) ∧ 73 + 1 = 74 := ⟨by decide +kernel, rfl⟩
theorem eX5_rows_74 : decode cX5_rows 74 = .ok (.getfield 43, 3) ∧ 74 + 3 = 77 := ⟨by decide +kernel, rfl⟩
theorem eX5_rows_77 : decode cX5_rows 77 = .ok (.aload_n 0, 1) ∧ 77 + 1 = 78 := ⟨by decide +kernel, rfl⟩
theorem eX5_rows_78 : decode cX5_rows 78 = .ok (.getfield 19, 3) ∧ 78 + 3 = 81 := ⟨by decide +kernel, rfl⟩
theorem eX5_rows_81 : decode cX5_rows 81 = .ok (.invokevirtual 187, 3) ∧ 81 + 3 = 84 := ⟨by decide +kernel, rfl⟩
theorem eX5_rows_84 : decode cX5_rows 84 = .ok (.iload_n 2, 1) ∧ 84 + 1 = 85 := ⟨by decide +kernel, rfl⟩
theorem eX5_rows_85 : decode cX5_rows 85 = .ok (.ifCond .ne 11, 3) ∧ ((85 : Nat) : Int) + 11 = ((96 : Nat) : Int) ∧ 85 + 3 = 88 := ⟨by decide +kernel, by decide, rfl⟩
theorem eX5_rows_88 : decode cX5_rows 88 = .ok (.aload_n 0, 1) ∧ 88 + 1 = 89 := ⟨by decide +kernel, rfl⟩
theorem eX5_rows_89 : decode cX5_rows 89 = .ok (.getfield 43, 3) ∧ 89 + 3 = 92 := ⟨by decide +kernel, rfl⟩
theorem eX5_rows_92 : decode cX5_rows 92 = .ok (.getfield 191, 3) ∧ 92 + 3 = 95 := ⟨by decide +kernel, rfl⟩
theorem eX5_rows_95 : decode cX5_rows 95 = .ok (.ireturn, 1) := by decide +kernel
theorem eX5_rows_96 : decode cX5_rows 96 = .ok (.aload_n 0, 1) ∧ 96 + 1 = 97 := ⟨by decide +kernel, rfl⟩
theorem eX5_rows_97 : decode cX5_rows 97 = .ok (.getfield 43, 3) ∧ 97 + 3 = 100 := ⟨by decide +kernel, rfl⟩
theorem eX5_rows_100 : decode cX5_rows 100 = .ok (.getfield 191, 3) ∧ 100 + 3 = 103 := ⟨by decide +kernel, rfl⟩
theorem eX5_rows_103 : decode cX5_rows 103 = .ok (.ifCond .ne 6, 3) ∧ ((103 : Nat) : Int) + 6 = ((109 : Nat) : Int) ∧ 103 + 3 = 106 := ⟨by decide +kernel, by decide, rfl⟩
theorem eX5_rows_106 : decode cX5_rows 106 = .ok (.bipush (-9), 2) ∧ 106 + 2 = 108 := ⟨by decide +kernel, rfl⟩
theorem eX5_rows_108 : decode cX5_rows 108 = .ok (.ireturn, 1) := by decide +kernel
theorem eX5_rows_109 : decode cX5_rows 109 = .ok (.iload_n 2, 1) ∧ 109 + 1 = 110 := ⟨by decide +kernel, rfl⟩
theorem eX5_rows_110 : decode cX5_rows 110 = .ok (.iconst 1, 1) ∧ 110 + 1 = 111 := ⟨by decide +kernel, rfl⟩
theorem eX5_rows_111 : decode cX5_rows 111 = .ok (.if_icmp .ne 13, 3) ∧ ((111 : Nat) : Int) + 13 = ((124 : Nat) : Int) ∧ 111 + 3 = 114 := ⟨by decide +kernel, by decide, rfl⟩
theorem eX5_rows_114 : decode cX5_rows 114 = .ok (.aload_n 0, 1) ∧ 114 + 1 = 115 := ⟨by decide +kernel, rfl⟩
theorem eX5_rows_115 : decode cX5_rows 115 = .ok (.getfield 43, 3) ∧ 115 + 3 = 118 := ⟨by decide +kernel, rfl⟩
theorem eX5_rows_118 : decode cX5_rows 118 = .ok (.getfield 194, 3) ∧ 118 + 3 = 121 := ⟨by decide +kernel, rfl⟩
theorem eX5_rows_121 : decode cX5_rows 121 = .ok (.goto 20, 3) ∧ ((121 : Nat) : Int) + 20 = ((141 : Nat) : Int) := ⟨by decide +kernel, by decide⟩
theorem eX5_rows_124 : decode cX5_rows 124 = .ok (.aload_n 0, 1) ∧ 124 + 1 = 125 := ⟨by decide +kernel, rfl⟩
theorem eX5_rows_125 : decode cX5_rows 125 = .ok (.getfield 19, 3) ∧ 125 + 3 = 128 := ⟨by decide +kernel, rfl⟩
theorem eX5_rows_128 : decode cX5_rows 128 = .ok (.invokevirtual 197, 3) ∧ 128 + 3 = 131 := ⟨by decide +kernel, rfl⟩
theorem eX5_rows_131 : decode cX5_rows 131 = .ok (.aload_n 0, 1) ∧ 131 + 1 = 132 := ⟨by decide +kernel, rfl⟩
theorem eX5_rows_132 : decode cX5_rows 132 = .ok (.getfield 43, 3) ∧ 132 + 3 = 135 := ⟨by decide +kernel, rfl⟩
theorem eX5_rows_135 : decode cX5_rows 135 = .ok (.getfield 200, 3) ∧ 135 + 3 = 138 := ⟨by decide +kernel, rfl⟩
theorem eX5_rows_138 : decode cX5_rows 138 = .ok (.iconst (-1), 1) ∧ 138 + 1 = 139 := ⟨by decide +kernel, rfl⟩
theorem eX5_rows_139 : decode cX5_rows 139 = .ok (.ixor, 1) ∧ 139 + 1 = 140 := ⟨by decide +kernel, rfl⟩
theorem eX5_rows_140 : decode cX5_rows 140 = .ok (.iand, 1) ∧ 140 + 1 = 141 := ⟨by decide +kernel, rfl⟩
theorem eX5_rows_141 : decode cX5_rows 141 = .ok (.ireturn, 1) := by decide +kernel
theorem eX5_share_0 : decode cX5_share 0 = .ok (.aload_n 0, 1) ∧ 0 + 1 = 1 := ⟨by decide +kernel, rfl⟩
theorem eX5_share_1 : decode cX5_share 1 = .ok (.getfield 19, 3) ∧ 1 + 3 = 4 := ⟨by decide +kernel, rfl⟩
theorem eX5_share_4 : decode cX5_share 4 = .ok (.iload_n 1, 1) ∧ 4 + 1 = 5 := ⟨by decide +kernel, rfl⟩
theorem eX5_share_5 : decode cX5_share 5 = .ok (.invokevirtual 95, 3) ∧ 5 + 3 = 8 := ⟨by decide +kernel, rfl⟩
theorem eX5_share_8 : decode cX5_share 8 = .ok (.ifCond .ne 5, 3) ∧ ((8 : Nat) : Int) + 5 = ((13 : Nat) : Int) ∧ 8 + 3 = 11 := ⟨by decide +kernel, by decide, rfl⟩
theorem eX5_share_11 : decode cX5_share 11 = .ok (.iconst (-1), 1) ∧ 11 + 1 = 12 := ⟨by decide +kernel, rfl⟩
theorem eX5_share_12 : decode cX5_share 12 = .ok (.ireturn, 1) := by decide +kernel
theorem eX5_share_13 : decode cX5_share 13 = .ok (.aload_n 0, 1) ∧ 13 + 1 = 14 := ⟨by decide +kernel, rfl⟩
theorem eX5_share_14 : decode cX5_share 14 = .ok (.getfield 26, 3) ∧ 14 + 3 = 17 := ⟨by decide +kernel, rfl⟩
theorem eX5_share_17 : decode cX5_share 17 = .ok (.iload_n 1, 1) ∧ 17 + 1 = 18 := ⟨by decide +kernel, rfl⟩
theorem eX5_share_18 : decode cX5_share 18 = .ok (.invokevirtual 102, 3) ∧ 18 + 3 = 21 := ⟨by decide +kernel, rfl⟩
theorem eX5_share_21 : decode cX5_share 21 = .ok (.ifCond .eq 10, 3) ∧ ((21 : Nat) : Int) + 10 = ((31 : Nat) : Int) ∧ 21 + 3 = 24 := ⟨by decide +kernel, by decide, rfl⟩
theorem eX5_share_24 : decode cX5_share 24 = .ok (.iconst 0, 1) ∧ 24 + 1 = 25 := ⟨by decide +kernel, rfl⟩
theorem eX5_share_25 : decode cX5_share 25 = .ok (.iconst 1, 1) ∧ 25 + 1 = 26 := ⟨by decide +kernel, rfl⟩
theorem eX5_share_26 : decode cX5_share 26 = .ok (.iload_n 2, 1) ∧ 26 + 1 = 27 := ⟨by decide +kernel, rfl⟩
theorem eX5_share_27 : decode cX5_share 27 = .ok (.invokestatic 203, 3) ∧ 27 + 3 = 30 := ⟨by decide +kernel, rfl⟩
theorem eX5_share_30 : decode cX5_share 30 = .ok (.ireturn, 1) := by decide +kernel
theorem eX5_share_31 : decode cX5_share 31 = .ok (.aload_n 0, 1) ∧ 31 + 1 = 32 := ⟨by decide +kernel, rfl⟩
theorem eX5_share_32 : decode cX5_share 32 = .ok (.invokevirtual 207, 3) ∧ 32 + 3 = 35 := ⟨by decide +kernel, rfl⟩
theorem eX5_share_35 : decode cX5_share 35 = .ok (.aload_n 0, 1) ∧ 35 + 1 = 36 := ⟨by decide +kernel, rfl⟩
theorem eX5_share_36 : decode cX5_share 36 = .ok (.getfield 19, 3) ∧ 36 + 3 = 39 := ⟨by decide +kernel, rfl⟩
theorem eX5_share_39 : decode cX5_share 39 = .ok (.invokevirtual 197, 3) ∧ 39 + 3 = 42 := ⟨by decide +kernel, rfl⟩
theorem eX5_share_42 : decode cX5_share 42 = .ok (.aload_n 0, 1) ∧ 42 + 1 = 43 := ⟨by decide +kernel, rfl⟩
theorem eX5_share_43 : decode cX5_share 43 = .ok (.getfield 26, 3) ∧ 43 + 3 = 46 := ⟨by decide +kernel, rfl⟩
theorem eX5_share_46 : decode cX5_share 46 = .ok (.getfield 210, 3) ∧ 46 + 3 = 49 := ⟨by decide +kernel, rfl⟩
theorem eX5_share_49 : decode cX5_share 49 = .ok (.iconst (-1), 1) ∧ 49 + 1 = 50 := ⟨by decide +kernel, rfl⟩
theorem eX5_share_50 : decode cX5_share 50 = .ok (.ixor, 1) ∧ 50 + 1 = 51 := ⟨by decide +kernel, rfl⟩
theorem eX5_share_51 : decode cX5_share 51 = .ok (.iand, 1) ∧ 51 + 1 = 52 := ⟨by decide +kernel, rfl⟩
theorem eX5_share_52 : decode cX5_share 52 = .ok (.istore_n 3, 1) ∧ 52 + 1 = 53 := ⟨by decide +kernel, rfl⟩
theorem eX5_share_53 : decode cX5_share 53 = .ok (.iconst 1, 1) ∧ 53 + 1 = 54 := ⟨by decide +kernel, rfl⟩
theorem eX5_share_54 : decode cX5_share 54 = .ok (.iload_n 1, 1) ∧ 54 + 1 = 55 := ⟨by decide +kernel, rfl⟩
theorem eX5_share_55 : decode cX5_share 55 = .ok (.ishl, 1) ∧ 55 + 1 = 56 := ⟨by decide +kernel, rfl⟩
theorem eX5_share_56 : decode cX5_share 56 = .ok (.istore 4, 2) ∧ 56 + 2 = 58 := ⟨by decide +kernel, rfl⟩
theorem eX5_share_58 : decode cX5_share 58 = .ok (.iload_n 3, 1) ∧ 58 + 1 = 59 := ⟨by decide +kernel, rfl⟩
theorem eX5_share_59 : decode cX5_share 59 = .ok (.invokestatic 213, 3) ∧ 59 + 3 = 62 := ⟨by decide +kernel, rfl⟩
theorem eX5_share_62 : decode cX5_share 62 = .ok (.iconst 1, 1) ∧ 62 + 1 = 63 := ⟨by decide +kernel, rfl⟩
theorem eX5_share_63 : decode cX5_share 63 = .ok (.isub, 1) ∧ 63 + 1 = 64 := ⟨by decide +kernel, rfl⟩
theorem eX5_share_64 : decode cX5_share 64 = .ok (.istore 5, 2) ∧ 64 + 2 = 66 := ⟨by decide +kernel, rfl⟩
theorem eX5_share_66 : decode cX5_share 66 = .ok (.iconst 0, 1) ∧ 66 + 1 = 67 := ⟨by decide +kernel, rfl⟩
theorem eX5_share_67 : decode cX5_share 67 = .ok (.istore 6, 2) ∧ 67 + 2 = 69 := ⟨by decide +kernel, rfl⟩
theorem eX5_share_69 : decode cX5_share 69 = .ok (.iconst 0, 1) ∧ 69 + 1 = 70 := ⟨by decide +kernel, rfl⟩
theorem eX5_share_70 : decode cX5_share 70 = .ok (.istore 7, 2) ∧ 70 + 2 = 72 := ⟨by decide +kernel, rfl⟩
theorem eX5_share_72 : decode cX5_share 72 = .ok (.iload 7, 2) ∧ 72 + 2 = 74 := ⟨by decide +kernel, rfl⟩
theorem eX5_share_74 : decode cX5_share 74 = .ok (.bipush 64, 2) ∧ 74 + 2 = 76 := ⟨by decide +kernel, rfl⟩
theorem eX5_share_76 : decode cX5_share 76 = .ok (.if_icmp .ge 85, 3) ∧ ((76 : Nat) : Int) + 85 = ((161 : Nat) : Int) ∧ 76 + 3 = 79 := ⟨by decide +kernel, by decide, rfl⟩
theorem eX5_share_79 : decode cX5_share 79 = .ok (.iload 7, 2) ∧ 79 + 2 = 81 := ⟨by decide +kernel, rfl⟩
theorem eX5_share_81 : decode cX5_share 81 = .ok (.iload_n 3, 1) ∧ 81 + 1 = 82 := ⟨by decide +kernel, rfl⟩
theorem eX5_share_82 : decode cX5_share 82 = .ok (.iconst (-1), 1) ∧ 82 + 1 = 83 := ⟨by decide +kernel, rfl⟩
theorem eX5_share_83 : decode cX5_share 83 = .ok (.ixor, 1) ∧ 83 + 1 = 84 := ⟨by decide +kernel, rfl⟩
theorem eX5_share_84 : decode cX5_share 84 = .ok (.iand, 1) ∧ 84 + 1 = 85 := ⟨by decide +kernel, rfl⟩
theorem eX5_share_85 : decode cX5_share 85 = .ok (.ifCond .ne 70, 3) ∧ ((85 : Nat) : Int) + 70 = ((155 : Nat) : Int) ∧ 85 + 3 = 88 := ⟨by decide +kernel, by decide, rfl⟩
theorem eX5_share_88 : decode cX5_share 88 = .ok (.iload 7, 2) ∧ 88 + 2 = 90 := ⟨by decide +kernel, rfl⟩
theorem eX5_share_90 : decode cX5_share 90 = .ok (.iload 4, 2) ∧ 90 + 2 = 92 := ⟨by decide +kernel, rfl⟩
theorem eX5_share_92 : decode cX5_share 92 = .ok (.iand, 1) ∧ 92 + 1 = 93 := ⟨by decide +kernel, rfl⟩
theorem eX5_share_93 : decode cX5_share 93 = .ok (.ifCond .ne 62, 3) ∧ ((93 : Nat) : Int) + 62 = ((155 : Nat) : Int) ∧ 93 + 3 = 96 := ⟨by decide +kernel, by decide, rfl⟩
theorem eX5_share_96 : decode cX5_share 96 = .ok (.iload 7, 2) ∧ 96 + 2 = 98 := ⟨by decide +kernel, rfl⟩
theorem eX5_share_98 : decode cX5_share 98 = .ok (.invokestatic 213, 3) ∧ 98 + 3 = 101 := ⟨by decide +kernel, rfl⟩
theorem eX5_share_101 : decode cX5_share 101 = .ok (.istore 8, 2) ∧ 101 + 2 = 103 := ⟨by decide +kernel, rfl⟩
theorem eX5_share_103 : decode cX5_share 103 = .ok (.aload_n 0, 1) ∧ 103 + 1 = 104 := ⟨by decide +kernel, rfl⟩
theorem eX5_share_104 : decode cX5_share 104 = .ok (.getfield 62, 3) ∧ 104 + 3 = 107 := ⟨by decide +kernel, rfl⟩
theorem eX5_share_107 : decode cX5_share 107 = .ok (.iload 7, 2) ∧ 107 + 2 = 109 := ⟨by decide +kernel, rfl⟩
theorem eX5_share_109 : decode cX5_share 109 = .ok (.iload 4, 2) ∧ 109 + 2 = 111 := ⟨by decide +kernel, rfl⟩
theorem eX5_share_111 : decode cX5_share 111 = .ok (.ior, 1) ∧ 111 + 1 = 112 := ⟨by decide +kernel, rfl⟩
theorem eX5_share_112 : decode cX5_share 112 = .ok (.invokestatic 115, 3) ∧ 112 + 3 = 115 := ⟨by decide +kernel, rfl⟩
theorem eX5_share_115 : decode cX5_share 115 = .ok (.aload_n 0, 1) ∧ 115 + 1 = 116 := ⟨by decide +kernel, rfl⟩
theorem eX5_share_116 : decode cX5_share 116 = .ok (.getfield 62, 3) ∧ 116 + 3 = 119 := ⟨by decide +kernel, rfl⟩
theorem eX5_share_119 : decode cX5_share 119 = .ok (.iload 7, 2) ∧ 119 + 2 = 121 := ⟨by decide +kernel, rfl⟩
theorem eX5_share_121 : decode cX5_share 121 = .ok (.invokestatic 115, 3) ∧ 121 + 3 = 124 := ⟨by decide +kernel, rfl⟩
theorem eX5_share_124 : decode cX5_share 124 = .ok (.isub, 1) ∧ 124 + 1 = 125 := ⟨by decide +kernel, rfl⟩
theorem eX5_share_125 : decode cX5_share 125 = .ok (.istore 9, 2) ∧ 125 + 2 = 127 := ⟨by decide +kernel, rfl⟩
theorem eX5_share_127 : decode cX5_share 127 = .ok (.iload 6, 2) ∧ 127 + 2 = 129 := ⟨by decide +kernel, rfl⟩
theorem eX5_share_129 : decode cX5_share 129 = .ok (.iload 9, 2) ∧ 129 + 2 = 131 := ⟨by decide +kernel, rfl⟩
theorem eX5_share_131 : decode cX5_share 131 = .ok (.getstatic 219, 3) ∧ 131 + 3 = 134 := ⟨by decide +kernel, rfl⟩
theorem eX5_share_134 : decode cX5_share 134 = .ok (.iload 8, 2) ∧ 134 + 2 = 136 := ⟨by decide +kernel, rfl⟩
theorem eX5_share_136 : decode cX5_share 136 = .ok (.invokestatic 115, 3) ∧ 136 + 3 = 139 := ⟨by decide +kernel, rfl⟩
theorem eX5_share_139 : decode cX5_share 139 = .ok (.imul, 1) ∧ 139 + 1 = 140 := ⟨by decide +kernel, rfl⟩
theorem eX5_share_140 : decode cX5_share 140 = .ok (.getstatic 219, 3) ∧ 140 + 3 = 143 := ⟨by decide +kernel, rfl⟩
theorem eX5_share_143 : decode cX5_share 143 = .ok (.iload 5, 2) ∧ 143 + 2 = 145 := ⟨by decide +kernel, rfl⟩
theorem eX5_share_145 : decode cX5_share 145 = .ok (.iload 8, 2) ∧ 145 + 2 = 147 := ⟨by decide +kernel, rfl⟩
theorem eX5_share_147 : decode cX5_share 147 = .ok (.isub, 1) ∧ 147 + 1 = 148 := ⟨by decide +kernel, rfl⟩
theorem eX5_share_148 : decode cX5_share 148 = .ok (.invokestatic 115, 3) ∧ 148 + 3 = 151 := ⟨by decide +kernel, rfl⟩
theorem eX5_share_151 : decode cX5_share 151 = .ok (.imul, 1) ∧ 151 + 1 = 152 := ⟨by decide +kernel, rfl⟩
theorem eX5_share_152 : decode cX5_share 152 = .ok (.iadd, 1) ∧ 152 + 1 = 153 := ⟨by decide +kernel, rfl⟩
theorem eX5_share_153 : decode cX5_share 153 = .ok (.istore 6, 2) ∧ 153 + 2 = 155 := ⟨by decide +kernel, rfl⟩
theorem eX5_share_155 : decode cX5_share 155 = .ok (.iinc 7 1, 3) ∧ 155 + 3 = 158 := ⟨by decide +kernel, rfl⟩
theorem eX5_share_158 : decode cX5_share 158 = .ok (.goto (-86), 3) ∧ ((158 : Nat) : Int) + (-86) = ((72 : Nat) : Int) := ⟨by decide +kernel, by decide⟩
theorem eX5_share_161 : decode cX5_share 161 = .ok (.iload 6, 2) ∧ 161 + 2 = 163 := ⟨by decide +kernel, rfl⟩
theorem eX5_share_163 : decode cX5_share 163 = .ok (.getstatic 219, 3) ∧ 163 + 3 = 166 := ⟨by decide +kernel, rfl⟩
theorem eX5_share_166 : decode cX5_share 166 = .ok (.iload 5, 2) ∧ 166 + 2 = 168 := ⟨by decide +kernel, rfl⟩
theorem eX5_share_168 : decode cX5_share 168 = .ok (.iconst 1, 1) ∧ 168 + 1 = 169 := ⟨by decide +kernel, rfl⟩
theorem eX5_share_169 : decode cX5_share 169 = .ok (.iadd, 1) ∧ 169 + 1 = 170 := ⟨by decide +kernel, rfl⟩
theorem eX5_share_170 : decode cX5_share 170 = .ok (.invokestatic 115, 3) ∧ 170 + 3 = 173 := ⟨by decide +kernel, rfl⟩
theorem eX5_share_173 : decode cX5_share 173 = .ok (.iload_n 2, 1) ∧ 173 + 1 = 174 := ⟨by decide +kernel, rfl⟩
theorem eX5_share_174 : decode cX5_share 174 = .ok (.invokestatic 203, 3) ∧ 174 + 3 = 177 := ⟨by decide +kernel, rfl⟩
theorem eX5_share_177 : decode cX5_share 177 = .ok (.ireturn, 1) := by decide +kernel
theorem eX5_rests_0 : decode cX5_rests 0 = .ok (.aload_n 0, 1) ∧ 0 + 1 = 1 := ⟨by decide +kernel, rfl⟩
theorem eX5_rests_1 : decode cX5_rests 1 = .ok (.getfield 19, 3) ∧ 1 + 3 = 4 := ⟨by decide +kernel, rfl⟩
theorem eX5_rests_4 : decode cX5_rests 4 = .ok (.iload_n 1, 1) ∧ 4 + 1 = 5 := ⟨by decide +kernel, rfl⟩
theorem eX5_rests_5 : decode cX5_rests 5 = .ok (.invokevirtual 95, 3) ∧ 5 + 3 = 8 := ⟨by decide +kernel, rfl⟩
theorem eX5_rests_8 : decode cX5_rests 8 = .ok (.ifCond .eq 14, 3) ∧ ((8 : Nat) : Int) + 14 = ((22 : Nat) : Int) ∧ 8 + 3 = 11 := ⟨by decide +kernel, by decide, rfl⟩
theorem eX5_rests_11 : decode cX5_rests 11 = .ok (.aload_n 0, 1) ∧ 11 + 1 = 12 := ⟨by decide +kernel, rfl⟩
theorem eX5_rests_12 : decode cX5_rests 12 = .ok (.getfield 19, 3) ∧ 12 + 3 = 15 := ⟨by decide +kernel, rfl⟩
theorem eX5_rests_15 : decode cX5_rests 15 = .ok (.iload_n 2, 1) ∧ 15 + 1 = 16 := ⟨by decide +kernel, rfl⟩
theorem eX5_rests_16 : decode cX5_rests 16 = .ok (.invokevirtual 95, 3) ∧ 16 + 3 = 19 := ⟨by decide +kernel, rfl⟩
theorem eX5_rests_19 : decode cX5_rests 19 = .ok (.ifCond .ne 5, 3) ∧ ((19 : Nat) : Int) + 5 = ((24 : Nat) : Int) ∧ 19 + 3 = 22 := ⟨by decide +kernel, by decide, rfl⟩
theorem eX5_rests_22 : decode cX5_rests 22 = .ok (.iconst (-1), 1) ∧ 22 + 1 = 23 := ⟨by decide +kernel, rfl⟩
theorem eX5_rests_23 : decode cX5_rests 23 = .ok (.ireturn, 1) := by decide +kernel
theorem eX5_rests_24 : decode cX5_rests 24 = .ok (.iload_n 1, 1) ∧ 24 + 1 = 25 := ⟨by decide +kernel, rfl⟩
theorem eX5_rests_25 : decode cX5_rests 25 = .ok (.iload_n 2, 1) ∧ 25 + 1 = 26 := ⟨by decide +kernel, rfl⟩
theorem eX5_rests_26 : decode cX5_rests 26 = .ok (.if_icmp .eq 12, 3) ∧ ((26 : Nat) : Int) + 12 = ((38 : Nat) : Int) ∧ 26 + 3 = 29 := ⟨by decide +kernel, by decide, rfl⟩
theorem eX5_rests_29 : decode cX5_rests 29 = .ok (.iload_n 3, 1) ∧ 29 + 1 = 30 := ⟨by decide +kernel, rfl⟩
theorem eX5_rests_30 : decode cX5_rests 30 = .ok (.ifCond .lt 8, 3) ∧ ((30 : Nat) : Int) + 8 = ((38 : Nat) : Int) ∧ 30 + 3 = 33 := ⟨by decide +kernel, by decide, rfl⟩
theorem eX5_rests_33 : decode cX5_rests 33 = .ok (.iload_n 3, 1) ∧ 33 + 1 = 34 := ⟨by decide +kernel, rfl⟩
theorem eX5_rests_34 : decode cX5_rests 34 = .ok (.iconst 1, 1) ∧ 34 + 1 = 35 := ⟨by decide +kernel, rfl⟩
theorem eX5_rests_35 : decode cX5_rests 35 = .ok (.if_icmp .le 6, 3) ∧ ((35 : Nat) : Int) + 6 = ((41 : Nat) : Int) ∧ 35 + 3 = 38 := ⟨by decide +kernel, by decide, rfl⟩
theorem eX5_rests_38 : decode cX5_rests 38 = .ok (.bipush (-2), 2) ∧ 38 + 2 = 40 := ⟨by decide +kernel, rfl⟩
theorem eX5_rests_40 : decode cX5_rests 40 = .ok (.ireturn, 1) := by decide +kernel
theorem eX5_rests_41 : decode cX5_rests 41 = .ok (.aload_n 0, 1) ∧ 41 + 1 = 42 := ⟨by decide +kernel, rfl⟩
theorem eX5_rests_42 : decode cX5_rests 42 = .ok (.getfield 26, 3) ∧ 42 + 3 = 45 := ⟨by decide +kernel, rfl⟩
theorem eX5_rests_45 : decode cX5_rests 45 = .ok (.iload_n 1, 1) ∧ 45 + 1 = 46 := ⟨by decide +kernel, rfl⟩
theorem eX5_rests_46 : decode cX5_rests 46 = .ok (.invokevirtual 102, 3) ∧ 46 + 3 = 49 := ⟨by decide +kernel, rfl⟩
theorem eX5_rests_49 : decode cX5_rests 49 = .ok (.ifCond .ne 14, 3) ∧ ((49 : Nat) : Int) + 14 = ((63 : Nat) : Int) ∧ 49 + 3 = 52 := ⟨by decide +kernel, by decide, rfl⟩
theorem eX5_rests_52 : decode cX5_rests 52 = .ok (.aload_n 0, 1) ∧ 52 + 1 = 53 := ⟨by decide +kernel, rfl⟩
theorem eX5_rests_53 : decode cX5_rests 53 = .ok (.getfield 26, 3) ∧ 53 + 3 = 56 := ⟨by decide +kernel, rfl⟩
theorem eX5_rests_56 : decode cX5_rests 56 = .ok (.iload_n 2, 1) ∧ 56 + 1 = 57 := ⟨by decide +kernel, rfl⟩
theorem eX5_rests_57 : decode cX5_rests 57 = .ok (.invokevirtual 102, 3) ∧ 57 + 3 = 60 := ⟨by decide +kernel, rfl⟩
theorem eX5_rests_60 : decode cX5_rests 60 = .ok (.ifCond .eq 6, 3) ∧ ((60 : Nat) : Int) + 6 = ((66 : Nat) : Int) ∧ 60 + 3 = 63 := ⟨by decide +kernel, by decide, rfl⟩
theorem eX5_rests_63 : decode cX5_rests 63 = .ok (.bipush (-3), 2) ∧ 63 + 2 = 65 := ⟨by decide +kernel, rfl⟩
theorem eX5_rests_65 : decode cX5_rests 65 = .ok (.ireturn, 1) := by decide +kernel
theorem eX5_rests_66 : decode cX5_rests 66 = .ok (.iconst 0, 1) ∧ 66 + 1 = 67 := ⟨by decide +kernel, rfl⟩
theorem eX5_rests_67 : decode cX5_rests 67 = .ok (.istore 4, 2) ∧ 67 + 2 = 69 := ⟨by decide +kernel, rfl⟩
theorem eX5_rests_69 : decode cX5_rests 69 = .ok (.bipush (-9), 2) ∧ 69 + 2 = 71 := ⟨by decide +kernel, rfl⟩
theorem eX5_rests_71 : decode cX5_rests 71 = .ok (.istore 5, 2) ∧ 71 + 2 = 73 := ⟨by decide +kernel, rfl⟩
theorem eX5_rests_73 : decode cX5_rests 73 = .ok (.iconst 0, 1) ∧ 73 + 1 = 74 := ⟨by decide +kernel, rfl⟩
theorem eX5_rests_74 : decode cX5_rests 74 = .ok (.istore 6, 2) ∧ 74 + 2 = 76 := ⟨by decide +kernel, rfl⟩
theorem eX5_rests_76 : decode cX5_rests 76 = .ok (.iload 6, 2) ∧ 76 + 2 = 78 := ⟨by decide +kernel, rfl⟩
theorem eX5_rests_78 : decode cX5_rests 78 = .ok (.iconst 4, 1) ∧ 78 + 1 = 79 := ⟨by decide +kernel, rfl⟩
theorem eX5_rests_79 : decode cX5_rests 79 = .ok (.if_icmp .ge 55, 3) ∧ ((79 : Nat) : Int) + 55 = ((134 : Nat) : Int) ∧ 79 + 3 = 82 := ⟨by decide +kernel, by decide, rfl⟩
theorem eX5_rests_82 : decode cX5_rests 82 = .ok (.aload_n 0, 1) ∧ 82 + 1 = 83 := ⟨by decide +kernel, rfl⟩
theorem eX5_rests_83 : decode cX5_rests 83 = .ok (.iload_n 1, 1) ∧ 83 + 1 = 84 := ⟨by decide +kernel, rfl⟩
theorem eX5_rests_84 : decode cX5_rests 84 = .ok (.iload_n 2, 1) ∧ 84 + 1 = 85 := ⟨by decide +kernel, rfl⟩
theorem eX5_rests_85 : decode cX5_rests 85 = .ok (.iload 6, 2) ∧ 85 + 2 = 87 := ⟨by decide +kernel, rfl⟩
theorem eX5_rests_87 : decode cX5_rests 87 = .ok (.iconst 1, 1) ∧ 87 + 1 = 88 := ⟨by decide +kernel, rfl⟩
theorem eX5_rests_88 : decode cX5_rests 88 = .ok (.ishr, 1) ∧ 88 + 1 = 89 := ⟨by decide +kernel, rfl⟩
theorem eX5_rests_89 : decode cX5_rests 89 = .ok (.iload 6, 2) ∧ 89 + 2 = 91 := ⟨by decide +kernel, rfl⟩
theorem eX5_rests_91 : decode cX5_rests 91 = .ok (.iconst 1, 1) ∧ 91 + 1 = 92 := ⟨by decide +kernel, rfl⟩
theorem eX5_rests_92 : decode cX5_rests 92 = .ok (.iand, 1) ∧ 92 + 1 = 93 := ⟨by decide +kernel, rfl⟩
theorem eX5_rests_93 : decode cX5_rests 93 = .ok (.invokevirtual 222, 3) ∧ 93 + 3 = 96 := ⟨by decide +kernel, rfl⟩
theorem eX5_rests_96 : decode cX5_rests 96 = .ok (.ifCond .eq 32, 3) ∧ ((96 : Nat) : Int) + 32 = ((128 : Nat) : Int) ∧ 96 + 3 = 99 := ⟨by decide +kernel, by decide, rfl⟩
theorem eX5_rests_99 : decode cX5_rests 99 = .ok (.iinc 4 1, 3) ∧ 99 + 3 = 102 := ⟨by decide +kernel, rfl⟩
theorem eX5_rests_102 : decode cX5_rests 102 = .ok (.iload 5, 2) ∧ 102 + 2 = 104 := ⟨by decide +kernel, rfl⟩
theorem eX5_rests_104 : decode cX5_rests 104 = .ok (.bipush (-9), 2) ∧ 104 + 2 = 106 := ⟨by decide +kernel, rfl⟩
theorem eX5_rests_106 : decode cX5_rests 106 = .ok (.if_icmp .ne 18, 3) ∧ ((106 : Nat) : Int) + 18 = ((124 : Nat) : Int) ∧ 106 + 3 = 109 := ⟨by decide +kernel, by decide, rfl⟩
theorem eX5_rests_109 : decode cX5_rests 109 = .ok (.bipush 10, 2) ∧ 109 + 2 = 111 := ⟨by decide +kernel, rfl⟩
theorem eX5_rests_111 : decode cX5_rests 111 = .ok (.iload 6, 2) ∧ 111 + 2 = 113 := ⟨by decide +kernel, rfl⟩
theorem eX5_rests_113 : decode cX5_rests 113 = .ok (.iconst 1, 1) ∧ 113 + 1 = 114 := ⟨by decide +kernel, rfl⟩
theorem eX5_rests_114 : decode cX5_rests 114 = .ok (.ishr, 1) ∧ 114 + 1 = 115 := ⟨by decide +kernel, rfl⟩
theorem eX5_rests_115 : decode cX5_rests 115 = .ok (.imul, 1) ∧ 115 + 1 = 116 := ⟨by decide +kernel, rfl⟩
theorem eX5_rests_116 : decode cX5_rests 116 = .ok (.iload 6, 2) ∧ 116 + 2 = 118 := ⟨by decide +kernel, rfl⟩
theorem eX5_rests_118 : decode cX5_rests 118 = .ok (.iconst 1, 1) ∧ 118 + 1 = 119 := ⟨by decide +kernel, rfl⟩
theorem eX5_rests_119 : decode cX5_rests 119 = .ok (.iand, 1) ∧ 119 + 1 = 120 := ⟨by decide +kernel, rfl⟩
theorem eX5_rests_120 : decode cX5_rests 120 = .ok (.iadd, 1) ∧ 120 + 1 = 121 := ⟨by decide +kernel, rfl⟩
theorem eX5_rests_121 : decode cX5_rests 121 = .ok (.goto 5, 3) ∧ ((121 : Nat) : Int) + 5 = ((126 : Nat) : Int) := ⟨by decide +kernel, by decide⟩
theorem eX5_rests_124 : decode cX5_rests 124 = .ok (.iload 5, 2) ∧ 124 + 2 = 126 := ⟨by decide +kernel, rfl⟩
theorem eX5_rests_126 : decode cX5_rests 126 = .ok (.istore 5, 2) ∧ 126 + 2 = 128 := ⟨by decide +kernel, rfl⟩
theorem eX5_rests_128 : decode cX5_rests 128 = .ok (.iinc 6 1, 3) ∧ 128 + 3 = 131 := ⟨by decide +kernel, rfl⟩
theorem eX5_rests_131 : decode cX5_rests 131 = .ok (.goto (-55), 3) ∧ ((131 : Nat) : Int) + (-55) = ((76 : Nat) : Int) := ⟨by decide +kernel, by decide⟩
theorem eX5_rests_134 : decode cX5_rests 134 = .ok (.iload_n 3, 1) ∧ 134 + 1 = 135 := ⟨by decide +kernel, rfl⟩
theorem eX5_rests_135 : decode cX5_rests 135 = .ok (.ifCond .ne 8, 3) ∧ ((135 : Nat) : Int) + 8 = ((143 : Nat) : Int) ∧ 135 + 3 = 138 := ⟨by decide +kernel, by decide, rfl⟩
theorem eX5_rests_138 : decode cX5_rests 138 = .ok (.iload 4, 2) ∧ 138 + 2 = 140 := ⟨by decide +kernel, rfl⟩
theorem eX5_rests_140 : decode cX5_rests 140 = .ok (.goto 5, 3) ∧ ((140 : Nat) : Int) + 5 = ((145 : Nat) : Int) := ⟨by decide +kernel, by decide⟩
theorem eX5_rests_143 : decode cX5_rests 143 = .ok (.iload 5, 2) ∧ 143 + 2 = 145 := ⟨by decide +kernel, rfl⟩
theorem eX5_rests_145 : decode cX5_rests 145 = .ok (.ireturn, 1) := by decide +kernel
theorem eX5_falls_0 : decode cX5_falls 0 = .ok (.iload_n 1, 1) ∧ 0 + 1 = 1 := ⟨by decide +kernel, rfl⟩
theorem eX5_falls_1 : decode cX5_falls 1 = .ok (.iload_n 2, 1) ∧ 1 + 1 = 2 := ⟨by decide +kernel, rfl⟩
theorem eX5_falls_2 : decode cX5_falls 2 = .ok (.invokestatic 168, 3) ∧ 2 + 3 = 5 := ⟨by decide +kernel, rfl⟩
theorem eX5_falls_5 : decode cX5_falls 5 = .ok (.ifCond .eq 13, 3) ∧ ((5 : Nat) : Int) + 13 = ((18 : Nat) : Int) ∧ 5 + 3 = 8 := ⟨by decide +kernel, by decide, rfl⟩
theorem eX5_falls_8 : decode cX5_falls 8 = .ok (.iload_n 3, 1) ∧ 8 + 1 = 9 := ⟨by decide +kernel, rfl⟩
theorem eX5_falls_9 : decode cX5_falls 9 = .ok (.ifCond .lt 9, 3) ∧ ((9 : Nat) : Int) + 9 = ((18 : Nat) : Int) ∧ 9 + 3 = 12 := ⟨by decide +kernel, by decide, rfl⟩
theorem eX5_falls_12 : decode cX5_falls 12 = .ok (.iload_n 3, 1) ∧ 12 + 1 = 13 := ⟨by decide +kernel, rfl⟩
theorem eX5_falls_13 : decode cX5_falls 13 = .ok (.bipush 10, 2) ∧ 13 + 2 = 15 := ⟨by decide +kernel, rfl⟩
theorem eX5_falls_15 : decode cX5_falls 15 = .ok (.if_icmp .le 6, 3) ∧ ((15 : Nat) : Int) + 6 = ((21 : Nat) : Int) ∧ 15 + 3 = 18 := ⟨by decide +kernel, by decide, rfl⟩
theorem eX5_falls_18 : decode cX5_falls 18 = .ok (.bipush (-2), 2) ∧ 18 + 2 = 20 := ⟨by decide +kernel, rfl⟩
theorem eX5_falls_20 : decode cX5_falls 20 = .ok (.ireturn, 1) := by decide +kernel
theorem eX5_falls_21 : decode cX5_falls 21 = .ok (.aload_n 0, 1) ∧ 21 + 1 = 22 := ⟨by decide +kernel, rfl⟩
theorem eX5_falls_22 : decode cX5_falls 22 = .ok (.iload_n 1, 1) ∧ 22 + 1 = 23 := ⟨by decide +kernel, rfl⟩
theorem eX5_falls_23 : decode cX5_falls 23 = .ok (.iload_n 2, 1) ∧ 23 + 1 = 24 := ⟨by decide +kernel, rfl⟩
theorem eX5_falls_24 : decode cX5_falls 24 = .ok (.invokevirtual 226, 3) ∧ 24 + 3 = 27 := ⟨by decide +kernel, rfl⟩
theorem eX5_falls_27 : decode cX5_falls 27 = .ok (.ifCond .ne 6, 3) ∧ ((27 : Nat) : Int) + 6 = ((33 : Nat) : Int) ∧ 27 + 3 = 30 := ⟨by decide +kernel, by decide, rfl⟩
theorem eX5_falls_30 : decode cX5_falls 30 = .ok (.bipush (-3), 2) ∧ 30 + 2 = 32 := ⟨by decide +kernel, rfl⟩
theorem eX5_falls_32 : decode cX5_falls 32 = .ok (.ireturn, 1) := by decide +kernel
theorem eX5_falls_33 : decode cX5_falls 33 = .ok (.iconst 0, 1) ∧ 33 + 1 = 34 := ⟨by decide +kernel, rfl⟩
theorem eX5_falls_34 : decode cX5_falls 34 = .ok (.istore 5, 2) ∧ 34 + 2 = 36 := ⟨by decide +kernel, rfl⟩
theorem eX5_falls_36 : decode cX5_falls 36 = .ok (.iconst 0, 1) ∧ 36 + 1 = 37 := ⟨by decide +kernel, rfl⟩
theorem eX5_falls_37 : decode cX5_falls 37 = .ok (.istore 6, 2) ∧ 37 + 2 = 39 := ⟨by decide +kernel, rfl⟩
theorem eX5_falls_39 : decode cX5_falls 39 = .ok (.iload 6, 2) ∧ 39 + 2 = 41 := ⟨by decide +kernel, rfl⟩
theorem eX5_falls_41 : decode cX5_falls 41 = .ok (.iconst 1, 1) ∧ 41 + 1 = 42 := ⟨by decide +kernel, rfl⟩
theorem eX5_falls_42 : decode cX5_falls 42 = .ok (.iload_n 1, 1) ∧ 42 + 1 = 43 := ⟨by decide +kernel, rfl⟩
theorem eX5_falls_43 : decode cX5_falls 43 = .ok (.ishl, 1) ∧ 43 + 1 = 44 := ⟨by decide +kernel, rfl⟩
theorem eX5_falls_44 : decode cX5_falls 44 = .ok (.if_icmp .ge 43, 3) ∧ ((44 : Nat) : Int) + 43 = ((87 : Nat) : Int) ∧ 44 + 3 = 47 := ⟨by decide +kernel, by decide, rfl⟩
theorem eX5_falls_47 : decode cX5_falls 47 = .ok (.aload_n 0, 1) ∧ 47 + 1 = 48 := ⟨by decide +kernel, rfl⟩
theorem eX5_falls_48 : decode cX5_falls 48 = .ok (.iload_n 1, 1) ∧ 48 + 1 = 49 := ⟨by decide +kernel, rfl⟩
theorem eX5_falls_49 : decode cX5_falls 49 = .ok (.iload_n 2, 1) ∧ 49 + 1 = 50 := ⟨by decide +kernel, rfl⟩
theorem eX5_falls_50 : decode cX5_falls 50 = .ok (.iload_n 3, 1) ∧ 50 + 1 = 51 := ⟨by decide +kernel, rfl⟩
theorem eX5_falls_51 : decode cX5_falls 51 = .ok (.iload 6, 2) ∧ 51 + 2 = 53 := ⟨by decide +kernel, rfl⟩
theorem eX5_falls_53 : decode cX5_falls 53 = .ok (.invokevirtual 229, 3) ∧ 53 + 3 = 56 := ⟨by decide +kernel, rfl⟩
theorem eX5_falls_56 : decode cX5_falls 56 = .ok (.istore 7, 2) ∧ 56 + 2 = 58 := ⟨by decide +kernel, rfl⟩
theorem eX5_falls_58 : decode cX5_falls 58 = .ok (.iload 7, 2) ∧ 58 + 2 = 60 := ⟨by decide +kernel, rfl⟩
theorem eX5_falls_60 : decode cX5_falls 60 = .ok (.ifCond .le 21, 3) ∧ ((60 : Nat) : Int) + 21 = ((81 : Nat) : Int) ∧ 60 + 3 = 63 := ⟨by decide +kernel, by decide, rfl⟩
theorem eX5_falls_63 : decode cX5_falls 63 = .ok (.aload_n 0, 1) ∧ 63 + 1 = 64 := ⟨by decide +kernel, rfl⟩
theorem eX5_falls_64 : decode cX5_falls 64 = .ok (.iload_n 1, 1) ∧ 64 + 1 = 65 := ⟨by decide +kernel, rfl⟩
theorem eX5_falls_65 : decode cX5_falls 65 = .ok (.iload_n 2, 1) ∧ 65 + 1 = 66 := ⟨by decide +kernel, rfl⟩
theorem eX5_falls_66 : decode cX5_falls 66 = .ok (.iload 6, 2) ∧ 66 + 2 = 68 := ⟨by decide +kernel, rfl⟩
theorem eX5_falls_68 : decode cX5_falls 68 = .ok (.invokevirtual 233, 3) ∧ 68 + 3 = 71 := ⟨by decide +kernel, rfl⟩
theorem eX5_falls_71 : decode cX5_falls 71 = .ok (.ifCond .eq 10, 3) ∧ ((71 : Nat) : Int) + 10 = ((81 : Nat) : Int) ∧ 71 + 3 = 74 := ⟨by decide +kernel, by decide, rfl⟩
theorem eX5_falls_74 : decode cX5_falls 74 = .ok (.iload 5, 2) ∧ 74 + 2 = 76 := ⟨by decide +kernel, rfl⟩
theorem eX5_falls_76 : decode cX5_falls 76 = .ok (.iload 7, 2) ∧ 76 + 2 = 78 := ⟨by decide +kernel, rfl⟩
theorem eX5_falls_78 : decode cX5_falls 78 = .ok (.iadd, 1) ∧ 78 + 1 = 79 := ⟨by decide +kernel, rfl⟩
theorem eX5_falls_79 : decode cX5_falls 79 = .ok (.istore 5, 2) ∧ 79 + 2 = 81 := ⟨by decide +kernel, rfl⟩
theorem eX5_falls_81 : decode cX5_falls 81 = .ok (.iinc 6 1, 3) ∧ 81 + 3 = 84 := ⟨by decide +kernel, rfl⟩
theorem eX5_falls_84 : decode cX5_falls 84 = .ok (.goto (-45), 3) ∧ ((84 : Nat) : Int) + (-45) = ((39 : Nat) : Int) := ⟨by decide +kernel, by decide⟩
theorem eX5_falls_87 : decode cX5_falls 87 = .ok (.iload 5, 2) ∧ 87 + 2 = 89 := ⟨by decide +kernel, rfl⟩
theorem eX5_falls_89 : decode cX5_falls 89 = .ok (.getstatic 237, 3) ∧ 89 + 3 = 92 := ⟨by decide +kernel, rfl⟩
theorem eX5_falls_92 : decode cX5_falls 92 = .ok (.iload_n 1, 1) ∧ 92 + 1 = 93 := ⟨by decide +kernel, rfl⟩
theorem eX5_falls_93 : decode cX5_falls 93 = .ok (.invokestatic 115, 3) ∧ 93 + 3 = 96 := ⟨by decide +kernel, rfl⟩
theorem eX5_falls_96 : decode cX5_falls 96 = .ok (.iload 4, 2) ∧ 96 + 2 = 98 := ⟨by decide +kernel, rfl⟩
theorem eX5_falls_98 : decode cX5_falls 98 = .ok (.invokestatic 203, 3) ∧ 98 + 3 = 101 := ⟨by decide +kernel, rfl⟩
theorem eX5_falls_101 : decode cX5_falls 101 = .ok (.ireturn, 1) := by decide +kernel
theorem eX5_seed_0 : decode cX5_seed 0 = .ok (.aload_n 0, 1) ∧ 0 + 1 = 1 := ⟨by decide +kernel, rfl⟩
theorem eX5_seed_1 : decode cX5_seed 1 = .ok (.getfield 69, 3) ∧ 1 + 3 = 4 := ⟨by decide +kernel, rfl⟩
theorem eX5_seed_4 : decode cX5_seed 4 = .ok (.lstore_n 3, 1) ∧ 4 + 1 = 5 := ⟨by decide +kernel, rfl⟩
theorem eX5_seed_5 : decode cX5_seed 5 = .ok (.aload_n 0, 1) ∧ 5 + 1 = 6 := ⟨by decide +kernel, rfl⟩
theorem eX5_seed_6 : decode cX5_seed 6 = .ok (.lload_n 1, 1) ∧ 6 + 1 = 7 := ⟨by decide +kernel, rfl⟩
theorem eX5_seed_7 : decode cX5_seed 7 = .ok (.putfield 69, 3) ∧ 7 + 3 = 10 := ⟨by decide +kernel, rfl⟩
theorem eX5_seed_10 : decode cX5_seed 10 = .ok (.lload_n 3, 1) ∧ 10 + 1 = 11 := ⟨by decide +kernel, rfl⟩
theorem eX5_seed_11 : decode cX5_seed 11 = .ok (.lreturn, 1) := by decide +kernel
theorem eX5_summers_0 : decode cX5_summers 0 = .ok (.iload_n 1, 1) ∧ 0 + 1 = 1 := ⟨by decide +kernel, rfl⟩
theorem eX5_summers_1 : decode cX5_summers 1 = .ok (.iconst 1, 1) ∧ 1 + 1 = 2 := ⟨by decide +kernel, rfl⟩
theorem eX5_summers_2 : decode cX5_summers 2 = .ok (.if_icmp .lt 9, 3) ∧ ((2 : Nat) : Int) + 9 = ((11 : Nat) : Int) ∧ 2 + 3 = 5 := ⟨by decide +kernel, by decide, rfl⟩
theorem eX5_summers_5 : decode cX5_summers 5 = .ok (.iload_n 1, 1) ∧ 5 + 1 = 6 := ⟨by decide +kernel, rfl⟩
theorem eX5_summers_6 : decode cX5_summers 6 = .ok (.bipush 30, 2) ∧ 6 + 2 = 8 := ⟨by decide +kernel, rfl⟩
theorem eX5_summers_8 : decode cX5_summers 8 = .ok (.if_icmp .le 6, 3) ∧ ((8 : Nat) : Int) + 6 = ((14 : Nat) : Int) ∧ 8 + 3 = 11 := ⟨by decide +kernel, by decide, rfl⟩
theorem eX5_summers_11 : decode cX5_summers 11 = .ok (.bipush (-2), 2) ∧ 11 + 2 = 13 := ⟨by decide +kernel, rfl⟩
theorem eX5_summers_13 : decode cX5_summers 13 = .ok (.ireturn, 1) := by decide +kernel
theorem eX5_summers_14 : decode cX5_summers 14 = .ok (.aload_n 0, 1) ∧ 14 + 1 = 15 := ⟨by decide +kernel, rfl⟩
theorem eX5_summers_15 : decode cX5_summers 15 = .ok (.getfield 30, 3) ∧ 15 + 3 = 18 := ⟨by decide +kernel, rfl⟩
theorem eX5_summers_18 : decode cX5_summers 18 = .ok (.aload_n 0, 1) ∧ 18 + 1 = 19 := ⟨by decide +kernel, rfl⟩
theorem eX5_summers_19 : decode cX5_summers 19 = .ok (.getfield 26, 3) ∧ 19 + 3 = 22 := ⟨by decide +kernel, rfl⟩
theorem eX5_summers_22 : decode cX5_summers 22 = .ok (.invokevirtual 165, 3) ∧ 22 + 3 = 25 := ⟨by decide +kernel, rfl⟩
theorem eX5_summers_25 : decode cX5_summers 25 = .ok (.iconst 0, 1) ∧ 25 + 1 = 26 := ⟨by decide +kernel, rfl⟩
theorem eX5_summers_26 : decode cX5_summers 26 = .ok (.istore_n 2, 1) ∧ 26 + 1 = 27 := ⟨by decide +kernel, rfl⟩
theorem eX5_summers_27 : decode cX5_summers 27 = .ok (.iconst 0, 1) ∧ 27 + 1 = 28 := ⟨by decide +kernel, rfl⟩
theorem eX5_summers_28 : decode cX5_summers 28 = .ok (.istore_n 3, 1) ∧ 28 + 1 = 29 := ⟨by decide +kernel, rfl⟩
theorem eX5_summers_29 : decode cX5_summers 29 = .ok (.iload_n 3, 1) ∧ 29 + 1 = 30 := ⟨by decide +kernel, rfl⟩
theorem eX5_summers_30 : decode cX5_summers 30 = .ok (.iload_n 1, 1) ∧ 30 + 1 = 31 := ⟨by decide +kernel, rfl⟩
theorem eX5_summers_31 : decode cX5_summers 31 = .ok (.if_icmp .ge 111, 3) ∧ ((31 : Nat) : Int) + 111 = ((142 : Nat) : Int) ∧ 31 + 3 = 34 := ⟨by decide +kernel, by decide, rfl⟩
theorem eX5_summers_34 : decode cX5_summers 34 = .ok (.aload_n 0, 1) ∧ 34 + 1 = 35 := ⟨by decide +kernel, rfl⟩
theorem eX5_summers_35 : decode cX5_summers 35 = .ok (.aload_n 0, 1) ∧ 35 + 1 = 36 := ⟨by decide +kernel, rfl⟩
theorem eX5_summers_36 : decode cX5_summers 36 = .ok (.getfield 69, 3) ∧ 36 + 3 = 39 := ⟨by decide +kernel, rfl⟩
theorem eX5_summers_39 : decode cX5_summers 39 = .ok (.ldc2_w 240, 3) ∧ 39 + 3 = 42 := ⟨by decide +kernel, rfl⟩
theorem eX5_summers_42 : decode cX5_summers 42 = .ok (.lmul, 1) ∧ 42 + 1 = 43 := ⟨by decide +kernel, rfl⟩
theorem eX5_summers_43 : decode cX5_summers 43 = .ok (.ldc2_w 242, 3) ∧ 43 + 3 = 46 := ⟨by decide +kernel, rfl⟩
theorem eX5_summers_46 : decode cX5_summers 46 = .ok (.ladd, 1) ∧ 46 + 1 = 47 := ⟨by decide +kernel, rfl⟩
theorem eX5_summers_47 : decode cX5_summers 47 = .ok (.putfield 69, 3) ∧ 47 + 3 = 50 := ⟨by decide +kernel, rfl⟩
theorem eX5_summers_50 : decode cX5_summers 50 = .ok (.aload_n 0, 1) ∧ 50 + 1 = 51 := ⟨by decide +kernel, rfl⟩
theorem eX5_summers_51 : decode cX5_summers 51 = .ok (.getfield 69, 3) ∧ 51 + 3 = 54 := ⟨by decide +kernel, rfl⟩
theorem eX5_summers_54 : decode cX5_summers 54 = .ok (.bipush 33, 2) ∧ 54 + 2 = 56 := ⟨by decide +kernel, rfl⟩
theorem eX5_summers_56 : decode cX5_summers 56 = .ok (.lushr, 1) ∧ 56 + 1 = 57 := ⟨by decide +kernel, rfl⟩
theorem eX5_summers_57 : decode cX5_summers 57 = .ok (.l2i, 1) ∧ 57 + 1 = 58 := ⟨by decide +kernel, rfl⟩
theorem eX5_summers_58 : decode cX5_summers 58 = .ok (.bipush 7, 2) ∧ 58 + 2 = 60 := ⟨by decide +kernel, rfl⟩
theorem eX5_summers_60 : decode cX5_summers 60 = .ok (.iand, 1) ∧ 60 + 1 = 61 := ⟨by decide +kernel, rfl⟩
theorem eX5_summers_61 : decode cX5_summers 61 = .ok (.istore 4, 2) ∧ 61 + 2 = 63 := ⟨by decide +kernel, rfl⟩
theorem eX5_summers_63 : decode cX5_summers 63 = .ok (.iload 4, 2) ∧ 63 + 2 = 65 := ⟨by decide +kernel, rfl⟩
theorem eX5_summers_65 : decode cX5_summers 65 = .ok (.bipush 6, 2) ∧ 65 + 2 = 67 := ⟨by decide +kernel, rfl⟩
theorem eX5_summers_67 : decode cX5_summers 67 = .ok (.if_icmp .ge 30, 3) ∧ ((67 : Nat) : Int) + 30 = ((97 : Nat) : Int) ∧ 67 + 3 = 70 := ⟨by decide +kernel, by decide, rfl⟩
theorem eX5_summers_70 : decode cX5_summers 70 = .ok (.iload_n 2, 1) ∧ 70 + 1 = 71 := ⟨by decide +kernel, rfl⟩
theorem eX5_summers_71 : decode cX5_summers 71 = .ok (.aload_n 0, 1) ∧ 71 + 1 = 72 := ⟨by decide +kernel, rfl⟩
theorem eX5_summers_72 : decode cX5_summers 72 = .ok (.getfield 19, 3) ∧ 72 + 3 = 75 := ⟨by decide +kernel, rfl⟩
theorem eX5_summers_75 : decode cX5_summers 75 = .ok (.aload_n 0, 1) ∧ 75 + 1 = 76 := ⟨by decide +kernel, rfl⟩
theorem eX5_summers_76 : decode cX5_summers 76 = .ok (.getfield 30, 3) ∧ 76 + 3 = 79 := ⟨by decide +kernel, rfl⟩
theorem eX5_summers_79 : decode cX5_summers 79 = .ok (.iload 4, 2) ∧ 79 + 2 = 81 := ⟨by decide +kernel, rfl⟩
theorem eX5_summers_81 : decode cX5_summers 81 = .ok (.invokevirtual 129, 3) ∧ 81 + 3 = 84 := ⟨by decide +kernel, rfl⟩
theorem eX5_summers_84 : decode cX5_summers 84 = .ok (.ifCond .eq 7, 3) ∧ ((84 : Nat) : Int) + 7 = ((91 : Nat) : Int) ∧ 84 + 3 = 87 := ⟨by decide +kernel, by decide, rfl⟩
theorem eX5_summers_87 : decode cX5_summers 87 = .ok (.iconst 1, 1) ∧ 87 + 1 = 88 := ⟨by decide +kernel, rfl⟩
theorem eX5_summers_88 : decode cX5_summers 88 = .ok (.goto 4, 3) ∧ ((88 : Nat) : Int) + 4 = ((92 : Nat) : Int) := ⟨by decide +kernel, by decide⟩
theorem eX5_summers_91 : decode cX5_summers 91 = .ok (.iconst 0, 1) ∧ 91 + 1 = 92 := ⟨by decide +kernel, rfl⟩
theorem eX5_summers_92 : decode cX5_summers 92 = .ok (.iadd, 1) ∧ 92 + 1 = 93 := ⟨by decide +kernel, rfl⟩
theorem eX5_summers_93 : decode cX5_summers 93 = .ok (.istore_n 2, 1) ∧ 93 + 1 = 94 := ⟨by decide +kernel, rfl⟩
theorem eX5_summers_94 : decode cX5_summers 94 = .ok (.goto 42, 3) ∧ ((94 : Nat) : Int) + 42 = ((136 : Nat) : Int) := ⟨by decide +kernel, by decide⟩
theorem eX5_summers_97 : decode cX5_summers 97 = .ok (.iload 4, 2) ∧ 97 + 2 = 99 := ⟨by decide +kernel, rfl⟩
theorem eX5_summers_99 : decode cX5_summers 99 = .ok (.bipush 6, 2) ∧ 99 + 2 = 101 := ⟨by decide +kernel, rfl⟩
theorem eX5_summers_101 : decode cX5_summers 101 = .ok (.if_icmp .ne 19, 3) ∧ ((101 : Nat) : Int) + 19 = ((120 : Nat) : Int) ∧ 101 + 3 = 104 := ⟨by decide +kernel, by decide, rfl⟩
theorem eX5_summers_104 : decode cX5_summers 104 = .ok (.aload_n 0, 1) ∧ 104 + 1 = 105 := ⟨by decide +kernel, rfl⟩
theorem eX5_summers_105 : decode cX5_summers 105 = .ok (.getfield 30, 3) ∧ 105 + 3 = 108 := ⟨by decide +kernel, rfl⟩
theorem eX5_summers_108 : decode cX5_summers 108 = .ok (.dup, 1) ∧ 108 + 1 = 109 := ⟨by decide +kernel, rfl⟩
theorem eX5_summers_109 : decode cX5_summers 109 = .ok (.getfield 133, 3) ∧ 109 + 3 = 112 := ⟨by decide +kernel, rfl⟩
theorem eX5_summers_112 : decode cX5_summers 112 = .ok (.iconst 1, 1) ∧ 112 + 1 = 113 := ⟨by decide +kernel, rfl⟩
theorem eX5_summers_113 : decode cX5_summers 113 = .ok (.iadd, 1) ∧ 113 + 1 = 114 := ⟨by decide +kernel, rfl⟩
theorem eX5_summers_114 : decode cX5_summers 114 = .ok (.putfield 133, 3) ∧ 114 + 3 = 117 := ⟨by decide +kernel, rfl⟩
theorem eX5_summers_117 : decode cX5_summers 117 = .ok (.goto 19, 3) ∧ ((117 : Nat) : Int) + 19 = ((136 : Nat) : Int) := ⟨by decide +kernel, by decide⟩
theorem eX5_summers_120 : decode cX5_summers 120 = .ok (.aload_n 0, 1) ∧ 120 + 1 = 121 := ⟨by decide +kernel, rfl⟩
theorem eX5_summers_121 : decode cX5_summers 121 = .ok (.getfield 30, 3) ∧ 121 + 3 = 124 := ⟨by decide +kernel, rfl⟩
theorem eX5_summers_124 : decode cX5_summers 124 = .ok (.iconst 0, 1) ∧ 124 + 1 = 125 := ⟨by decide +kernel, rfl⟩
theorem eX5_summers_125 : decode cX5_summers 125 = .ok (.putfield 133, 3) ∧ 125 + 3 = 128 := ⟨by decide +kernel, rfl⟩
theorem eX5_summers_128 : decode cX5_summers 128 = .ok (.aload_n 0, 1) ∧ 128 + 1 = 129 := ⟨by decide +kernel, rfl⟩
theorem eX5_summers_129 : decode cX5_summers 129 = .ok (.getfield 30, 3) ∧ 129 + 3 = 132 := ⟨by decide +kernel, rfl⟩
theorem eX5_summers_132 : decode cX5_summers 132 = .ok (.iconst 0, 1) ∧ 132 + 1 = 133 := ⟨by decide +kernel, rfl⟩
theorem eX5_summers_133 : decode cX5_summers 133 = .ok (.putfield 210, 3) ∧ 133 + 3 = 136 := ⟨by decide +kernel, rfl⟩
theorem eX5_summers_136 : decode cX5_summers 136 = .ok (.iinc 3 1, 3) ∧ 136 + 3 = 139 := ⟨by decide +kernel, rfl⟩
theorem eX5_summers_139 : decode cX5_summers 139 = .ok (.goto (-110), 3) ∧ ((139 : Nat) : Int) + (-110) = ((29 : Nat) : Int) := ⟨by decide +kernel, by decide⟩
theorem eX5_summers_142 : decode cX5_summers 142 = .ok (.iload_n 2, 1) ∧ 142 + 1 = 143 := ⟨by decide +kernel, rfl⟩
theorem eX5_summers_143 : decode cX5_summers 143 = .ok (.ireturn, 1) := by decide +kernel
theorem eX5_keep_0 : decode cX5_keep 0 = .ok (.aload_n 0, 1) ∧ 0 + 1 = 1 := ⟨by decide +kernel, rfl⟩
theorem eX5_keep_1 : decode cX5_keep 1 = .ok (.iload_n 1, 1) ∧ 1 + 1 = 2 := ⟨by decide +kernel, rfl⟩
theorem eX5_keep_2 : decode cX5_keep 2 = .ok (.invokevirtual 244, 3) ∧ 2 + 3 = 5 := ⟨by decide +kernel, rfl⟩
theorem eX5_keep_5 : decode cX5_keep 5 = .ok (.ifCond .ne 5, 3) ∧ ((5 : Nat) : Int) + 5 = ((10 : Nat) : Int) ∧ 5 + 3 = 8 := ⟨by decide +kernel, by decide, rfl⟩
theorem eX5_keep_8 : decode cX5_keep 8 = .ok (.iconst (-1), 1) ∧ 8 + 1 = 9 := ⟨by decide +kernel, rfl⟩
theorem eX5_keep_9 : decode cX5_keep 9 = .ok (.ireturn, 1) := by decide +kernel
theorem eX5_keep_10 : decode cX5_keep 10 = .ok (.aload_n 0, 1) ∧ 10 + 1 = 11 := ⟨by decide +kernel, rfl⟩
theorem eX5_keep_11 : decode cX5_keep 11 = .ok (.getfield 47, 3) ∧ 11 + 3 = 14 := ⟨by decide +kernel, rfl⟩
theorem eX5_keep_14 : decode cX5_keep 14 = .ok (.iload_n 1, 1) ∧ 14 + 1 = 15 := ⟨by decide +kernel, rfl⟩
theorem eX5_keep_15 : decode cX5_keep 15 = .ok (.aaload, 1) ∧ 15 + 1 = 16 := ⟨by decide +kernel, rfl⟩
theorem eX5_keep_16 : decode cX5_keep 16 = .ok (.astore_n 2, 1) ∧ 16 + 1 = 17 := ⟨by decide +kernel, rfl⟩
theorem eX5_keep_17 : decode cX5_keep 17 = .ok (.aload_n 2, 1) ∧ 17 + 1 = 18 := ⟨by decide +kernel, rfl⟩
theorem eX5_keep_18 : decode cX5_keep 18 = .ok (.ifnonnull 5, 3) ∧ ((18 : Nat) : Int) + 5 = ((23 : Nat) : Int) := ⟨by decide +kernel, by decide⟩
theorem eX5_keep_21 : decode cX5_keep 21 = .ok (.iconst (-1), 1) ∧ 21 + 1 = 22 := ⟨by decide +kernel, rfl⟩
theorem eX5_keep_22 : decode cX5_keep 22 = .ok (.ireturn, 1) := by decide +kernel
theorem eX5_keep_23 : decode cX5_keep 23 = .ok (.aload_n 2, 1) ∧ 23 + 1 = 24 := ⟨by decide +kernel, rfl⟩
theorem eX5_keep_24 : decode cX5_keep 24 = .ok (.aload_n 0, 1) ∧ 24 + 1 = 25 := ⟨by decide +kernel, rfl⟩
theorem eX5_keep_25 : decode cX5_keep 25 = .ok (.getfield 26, 3) ∧ 25 + 3 = 28 := ⟨by decide +kernel, rfl⟩
theorem eX5_keep_28 : decode cX5_keep 28 = .ok (.invokevirtual 165, 3) ∧ 28 + 3 = 31 := ⟨by decide +kernel, rfl⟩
theorem eX5_keep_31 : decode cX5_keep 31 = .ok (.aload_n 0, 1) ∧ 31 + 1 = 32 := ⟨by decide +kernel, rfl⟩
theorem eX5_keep_32 : decode cX5_keep 32 = .ok (.getfield 51, 3) ∧ 32 + 3 = 35 := ⟨by decide +kernel, rfl⟩
theorem eX5_keep_35 : decode cX5_keep 35 = .ok (.iload_n 1, 1) ∧ 35 + 1 = 36 := ⟨by decide +kernel, rfl⟩
theorem eX5_keep_36 : decode cX5_keep 36 = .ok (.iconst 1, 1) ∧ 36 + 1 = 37 := ⟨by decide +kernel, rfl⟩
theorem eX5_keep_37 : decode cX5_keep 37 = .ok (.bastore, 1) ∧ 37 + 1 = 38 := ⟨by decide +kernel, rfl⟩
theorem eX5_keep_38 : decode cX5_keep 38 = .ok (.aload_n 0, 1) ∧ 38 + 1 = 39 := ⟨by decide +kernel, rfl⟩
theorem eX5_keep_39 : decode cX5_keep 39 = .ok (.getfield 26, 3) ∧ 39 + 3 = 42 := ⟨by decide +kernel, rfl⟩
theorem eX5_keep_42 : decode cX5_keep 42 = .ok (.getfield 133, 3) ∧ 42 + 3 = 45 := ⟨by decide +kernel, rfl⟩
theorem eX5_keep_45 : decode cX5_keep 45 = .ok (.ireturn, 1) := by decide +kernel
theorem eX5_again_0 : decode cX5_again 0 = .ok (.aload_n 0, 1) ∧ 0 + 1 = 1 := ⟨by decide +kernel, rfl⟩
theorem eX5_again_1 : decode cX5_again 1 = .ok (.iload_n 1, 1) ∧ 1 + 1 = 2 := ⟨by decide +kernel, rfl⟩
theorem eX5_again_2 : decode cX5_again 2 = .ok (.invokevirtual 244, 3) ∧ 2 + 3 = 5 := ⟨by decide +kernel, rfl⟩
theorem eX5_again_5 : decode cX5_again 5 = .ok (.ifCond .ne 5, 3) ∧ ((5 : Nat) : Int) + 5 = ((10 : Nat) : Int) ∧ 5 + 3 = 8 := ⟨by decide +kernel, by decide, rfl⟩
theorem eX5_again_8 : decode cX5_again 8 = .ok (.iconst (-1), 1) ∧ 8 + 1 = 9 := ⟨by decide +kernel, rfl⟩
theorem eX5_again_9 : decode cX5_again 9 = .ok (.ireturn, 1) := by decide +kernel
theorem eX5_again_10 : decode cX5_again 10 = .ok (.aload_n 0, 1) ∧ 10 + 1 = 11 := ⟨by decide +kernel, rfl⟩
theorem eX5_again_11 : decode cX5_again 11 = .ok (.getfield 51, 3) ∧ 11 + 3 = 14 := ⟨by decide +kernel, rfl⟩
theorem eX5_again_14 : decode cX5_again 14 = .ok (.iload_n 1, 1) ∧ 14 + 1 = 15 := ⟨by decide +kernel, rfl⟩
theorem eX5_again_15 : decode cX5_again 15 = .ok (.baload, 1) ∧ 15 + 1 = 16 := ⟨by decide +kernel, rfl⟩
theorem eX5_again_16 : decode cX5_again 16 = .ok (.ifCond .ne 6, 3) ∧ ((16 : Nat) : Int) + 6 = ((22 : Nat) : Int) ∧ 16 + 3 = 19 := ⟨by decide +kernel, by decide, rfl⟩
theorem eX5_again_19 : decode cX5_again 19 = .ok (.bipush (-3), 2) ∧ 19 + 2 = 21 := ⟨by decide +kernel, rfl⟩
theorem eX5_again_21 : decode cX5_again 21 = .ok (.ireturn, 1) := by decide +kernel
theorem eX5_again_22 : decode cX5_again 22 = .ok (.aload_n 0, 1) ∧ 22 + 1 = 23 := ⟨by decide +kernel, rfl⟩
theorem eX5_again_23 : decode cX5_again 23 = .ok (.getfield 26, 3) ∧ 23 + 3 = 26 := ⟨by decide +kernel, rfl⟩
theorem eX5_again_26 : decode cX5_again 26 = .ok (.aload_n 0, 1) ∧ 26 + 1 = 27 := ⟨by decide +kernel, rfl⟩
theorem eX5_again_27 : decode cX5_again 27 = .ok (.getfield 47, 3) ∧ 27 + 3 = 30 := ⟨by decide +kernel, rfl⟩
theorem eX5_again_30 : decode cX5_again 30 = .ok (.iload_n 1, 1) ∧ 30 + 1 = 31 := ⟨by decide +kernel, rfl⟩
theorem eX5_again_31 : decode cX5_again 31 = .ok (.aaload, 1) ∧ 31 + 1 = 32 := ⟨by decide +kernel, rfl⟩
theorem eX5_again_32 : decode cX5_again 32 = .ok (.invokevirtual 165, 3) ∧ 32 + 3 = 35 := ⟨by decide +kernel, rfl⟩
theorem eX5_again_35 : decode cX5_again 35 = .ok (.aload_n 0, 1) ∧ 35 + 1 = 36 := ⟨by decide +kernel, rfl⟩
theorem eX5_again_36 : decode cX5_again 36 = .ok (.getfield 36, 3) ∧ 36 + 3 = 39 := ⟨by decide +kernel, rfl⟩
theorem eX5_again_39 : decode cX5_again 39 = .ok (.invokevirtual 89, 3) ∧ 39 + 3 = 42 := ⟨by decide +kernel, rfl⟩
theorem eX5_again_42 : decode cX5_again 42 = .ok (.aload_n 0, 1) ∧ 42 + 1 = 43 := ⟨by decide +kernel, rfl⟩
theorem eX5_again_43 : decode cX5_again 43 = .ok (.getfield 26, 3) ∧ 43 + 3 = 46 := ⟨by decide +kernel, rfl⟩
theorem eX5_again_46 : decode cX5_again 46 = .ok (.getfield 133, 3) ∧ 46 + 3 = 49 := ⟨by decide +kernel, rfl⟩
theorem eX5_again_49 : decode cX5_again 49 = .ok (.ireturn, 1) := by decide +kernel
theorem eX5_count_0 : decode cX5_count 0 = .ok (.iload_n 1, 1) ∧ 0 + 1 = 1 := ⟨by decide +kernel, rfl⟩
theorem eX5_count_1 : decode cX5_count 1 = .ok (.tableswitch 117 0 8 #[51, 59, 67, 75, 83, 91, 99, 104, 112], 51) := by decide +kernel
theorem eX5_count_52 : decode cX5_count 52 = .ok (.aload_n 0, 1) ∧ 52 + 1 = 53 := ⟨by decide +kernel, rfl⟩
theorem eX5_count_53 : decode cX5_count 53 = .ok (.getfield 10, 3) ∧ 53 + 3 = 56 := ⟨by decide +kernel, rfl⟩
theorem eX5_count_56 : decode cX5_count 56 = .ok (.getfield 77, 3) ∧ 56 + 3 = 59 := ⟨by decide +kernel, rfl⟩
theorem eX5_count_59 : decode cX5_count 59 = .ok (.ireturn, 1) := by decide +kernel
theorem eX5_count_60 : decode cX5_count 60 = .ok (.aload_n 0, 1) ∧ 60 + 1 = 61 := ⟨by decide +kernel, rfl⟩
theorem eX5_count_61 : decode cX5_count 61 = .ok (.getfield 19, 3) ∧ 61 + 3 = 64 := ⟨by decide +kernel, rfl⟩
theorem eX5_count_64 : decode cX5_count 64 = .ok (.getfield 92, 3) ∧ 64 + 3 = 67 := ⟨by decide +kernel, rfl⟩
theorem eX5_count_67 : decode cX5_count 67 = .ok (.ireturn, 1) := by decide +kernel
theorem eX5_count_68 : decode cX5_count 68 = .ok (.aload_n 0, 1) ∧ 68 + 1 = 69 := ⟨by decide +kernel, rfl⟩
theorem eX5_count_69 : decode cX5_count 69 = .ok (.getfield 19, 3) ∧ 69 + 3 = 72 := ⟨by decide +kernel, rfl⟩
theorem eX5_count_72 : decode cX5_count 72 = .ok (.getfield 247, 3) ∧ 72 + 3 = 75 := ⟨by decide +kernel, rfl⟩
theorem eX5_count_75 : decode cX5_count 75 = .ok (.ireturn, 1) := by decide +kernel
theorem eX5_count_76 : decode cX5_count 76 = .ok (.aload_n 0, 1) ∧ 76 + 1 = 77 := ⟨by decide +kernel, rfl⟩
theorem eX5_count_77 : decode cX5_count 77 = .ok (.getfield 26, 3) ∧ 77 + 3 = 80 := ⟨by decide +kernel, rfl⟩
theorem eX5_count_80 : decode cX5_count 80 = .ok (.getfield 133, 3) ∧ 80 + 3 = 83 := ⟨by decide +kernel, rfl⟩
theorem eX5_count_83 : decode cX5_count 83 = .ok (.ireturn, 1) := by decide +kernel
theorem eX5_count_84 : decode cX5_count 84 = .ok (.aload_n 0, 1) ∧ 84 + 1 = 85 := ⟨by decide +kernel, rfl⟩
theorem eX5_count_85 : decode cX5_count 85 = .ok (.getfield 26, 3) ∧ 85 + 3 = 88 := ⟨by decide +kernel, rfl⟩
theorem eX5_count_88 : decode cX5_count 88 = .ok (.getfield 136, 3) ∧ 88 + 3 = 91 := ⟨by decide +kernel, rfl⟩
theorem eX5_count_91 : decode cX5_count 91 = .ok (.ireturn, 1) := by decide +kernel
theorem eX5_count_92 : decode cX5_count 92 = .ok (.aload_n 0, 1) ∧ 92 + 1 = 93 := ⟨by decide +kernel, rfl⟩
theorem eX5_count_93 : decode cX5_count 93 = .ok (.getfield 26, 3) ∧ 93 + 3 = 96 := ⟨by decide +kernel, rfl⟩
theorem eX5_count_96 : decode cX5_count 96 = .ok (.getfield 210, 3) ∧ 96 + 3 = 99 := ⟨by decide +kernel, rfl⟩
theorem eX5_count_99 : decode cX5_count 99 = .ok (.ireturn, 1) := by decide +kernel
theorem eX5_count_100 : decode cX5_count 100 = .ok (.aload_n 0, 1) ∧ 100 + 1 = 101 := ⟨by decide +kernel, rfl⟩
theorem eX5_count_101 : decode cX5_count 101 = .ok (.invokevirtual 250, 3) ∧ 101 + 3 = 104 := ⟨by decide +kernel, rfl⟩
theorem eX5_count_104 : decode cX5_count 104 = .ok (.ireturn, 1) := by decide +kernel
theorem eX5_count_105 : decode cX5_count 105 = .ok (.aload_n 0, 1) ∧ 105 + 1 = 106 := ⟨by decide +kernel, rfl⟩
theorem eX5_count_106 : decode cX5_count 106 = .ok (.getfield 36, 3) ∧ 106 + 3 = 109 := ⟨by decide +kernel, rfl⟩
theorem eX5_count_109 : decode cX5_count 109 = .ok (.getfield 147, 3) ∧ 109 + 3 = 112 := ⟨by decide +kernel, rfl⟩
theorem eX5_count_112 : decode cX5_count 112 = .ok (.ireturn, 1) := by decide +kernel
theorem eX5_count_113 : decode cX5_count 113 = .ok (.aload_n 0, 1) ∧ 113 + 1 = 114 := ⟨by decide +kernel, rfl⟩
theorem eX5_count_114 : decode cX5_count 114 = .ok (.getfield 65, 3) ∧ 114 + 3 = 117 := ⟨by decide +kernel, rfl⟩
theorem eX5_count_117 : decode cX5_count 117 = .ok (.ireturn, 1) := by decide +kernel
theorem eX5_count_118 : decode cX5_count 118 = .ok (.bipush (-2), 2) ∧ 118 + 2 = 120 := ⟨by decide +kernel, rfl⟩
theorem eX5_count_120 : decode cX5_count 120 = .ok (.ireturn, 1) := by decide +kernel
theorem eX5_isChurch_0 : decode cX5_isChurch 0 = .ok (.iload_n 0, 1) ∧ 0 + 1 = 1 := ⟨by decide +kernel, rfl⟩
theorem eX5_isChurch_1 : decode cX5_isChurch 1 = .ok (.ifCond .lt 13, 3) ∧ ((1 : Nat) : Int) + 13 = ((14 : Nat) : Int) ∧ 1 + 3 = 4 := ⟨by decide +kernel, by decide, rfl⟩
theorem eX5_isChurch_4 : decode cX5_isChurch 4 = .ok (.iload_n 0, 1) ∧ 4 + 1 = 5 := ⟨by decide +kernel, rfl⟩
theorem eX5_isChurch_5 : decode cX5_isChurch 5 = .ok (.bipush 6, 2) ∧ 5 + 2 = 7 := ⟨by decide +kernel, rfl⟩
theorem eX5_isChurch_7 : decode cX5_isChurch 7 = .ok (.if_icmp .ge 7, 3) ∧ ((7 : Nat) : Int) + 7 = ((14 : Nat) : Int) ∧ 7 + 3 = 10 := ⟨by decide +kernel, by decide, rfl⟩
theorem eX5_isChurch_10 : decode cX5_isChurch 10 = .ok (.iconst 1, 1) ∧ 10 + 1 = 11 := ⟨by decide +kernel, rfl⟩
theorem eX5_isChurch_11 : decode cX5_isChurch 11 = .ok (.goto 4, 3) ∧ ((11 : Nat) : Int) + 4 = ((15 : Nat) : Int) := ⟨by decide +kernel, by decide⟩
theorem eX5_isChurch_14 : decode cX5_isChurch 14 = .ok (.iconst 0, 1) ∧ 14 + 1 = 15 := ⟨by decide +kernel, rfl⟩
theorem eX5_isChurch_15 : decode cX5_isChurch 15 = .ok (.ireturn, 1) := by decide +kernel
theorem eX5_isRoad_0 : decode cX5_isRoad 0 = .ok (.iload_n 0, 1) ∧ 0 + 1 = 1 := ⟨by decide +kernel, rfl⟩
theorem eX5_isRoad_1 : decode cX5_isRoad 1 = .ok (.ifCond .lt 12, 3) ∧ ((1 : Nat) : Int) + 12 = ((13 : Nat) : Int) ∧ 1 + 3 = 4 := ⟨by decide +kernel, by decide, rfl⟩
theorem eX5_isRoad_4 : decode cX5_isRoad 4 = .ok (.iload_n 0, 1) ∧ 4 + 1 = 5 := ⟨by decide +kernel, rfl⟩
theorem eX5_isRoad_5 : decode cX5_isRoad 5 = .ok (.iconst 5, 1) ∧ 5 + 1 = 6 := ⟨by decide +kernel, rfl⟩
theorem eX5_isRoad_6 : decode cX5_isRoad 6 = .ok (.if_icmp .ge 7, 3) ∧ ((6 : Nat) : Int) + 7 = ((13 : Nat) : Int) ∧ 6 + 3 = 9 := ⟨by decide +kernel, by decide, rfl⟩
theorem eX5_isRoad_9 : decode cX5_isRoad 9 = .ok (.iconst 1, 1) ∧ 9 + 1 = 10 := ⟨by decide +kernel, rfl⟩
theorem eX5_isRoad_10 : decode cX5_isRoad 10 = .ok (.goto 4, 3) ∧ ((10 : Nat) : Int) + 4 = ((14 : Nat) : Int) := ⟨by decide +kernel, by decide⟩
theorem eX5_isRoad_13 : decode cX5_isRoad 13 = .ok (.iconst 0, 1) ∧ 13 + 1 = 14 := ⟨by decide +kernel, rfl⟩
theorem eX5_isRoad_14 : decode cX5_isRoad 14 = .ok (.ireturn, 1) := by decide +kernel
theorem eX5_isSlot_0 : decode cX5_isSlot 0 = .ok (.iload_n 1, 1) ∧ 0 + 1 = 1 := ⟨by decide +kernel, rfl⟩
theorem eX5_isSlot_1 : decode cX5_isSlot 1 = .ok (.ifCond .lt 25, 3) ∧ ((1 : Nat) : Int) + 25 = ((26 : Nat) : Int) ∧ 1 + 3 = 4 := ⟨by decide +kernel, by decide, rfl⟩
theorem eX5_isSlot_4 : decode cX5_isSlot 4 = .ok (.iload_n 1, 1) ∧ 4 + 1 = 5 := ⟨by decide +kernel, rfl⟩
theorem eX5_isSlot_5 : decode cX5_isSlot 5 = .ok (.aload_n 0, 1) ∧ 5 + 1 = 6 := ⟨by decide +kernel, rfl⟩
theorem eX5_isSlot_6 : decode cX5_isSlot 6 = .ok (.getfield 47, 3) ∧ 6 + 3 = 9 := ⟨by decide +kernel, rfl⟩
theorem eX5_isSlot_9 : decode cX5_isSlot 9 = .ok (.arraylength, 1) ∧ 9 + 1 = 10 := ⟨by decide +kernel, rfl⟩
theorem eX5_isSlot_10 : decode cX5_isSlot 10 = .ok (.if_icmp .ge 16, 3) ∧ ((10 : Nat) : Int) + 16 = ((26 : Nat) : Int) ∧ 10 + 3 = 13 := ⟨by decide +kernel, by decide, rfl⟩
theorem eX5_isSlot_13 : decode cX5_isSlot 13 = .ok (.iload_n 1, 1) ∧ 13 + 1 = 14 := ⟨by decide +kernel, rfl⟩
theorem eX5_isSlot_14 : decode cX5_isSlot 14 = .ok (.aload_n 0, 1) ∧ 14 + 1 = 15 := ⟨by decide +kernel, rfl⟩
theorem eX5_isSlot_15 : decode cX5_isSlot 15 = .ok (.getfield 51, 3) ∧ 15 + 3 = 18 := ⟨by decide +kernel, rfl⟩
theorem eX5_isSlot_18 : decode cX5_isSlot 18 = .ok (.arraylength, 1) ∧ 18 + 1 = 19 := ⟨by decide +kernel, rfl⟩
theorem eX5_isSlot_19 : decode cX5_isSlot 19 = .ok (.if_icmp .ge 7, 3) ∧ ((19 : Nat) : Int) + 7 = ((26 : Nat) : Int) ∧ 19 + 3 = 22 := ⟨by decide +kernel, by decide, rfl⟩
theorem eX5_isSlot_22 : decode cX5_isSlot 22 = .ok (.iconst 1, 1) ∧ 22 + 1 = 23 := ⟨by decide +kernel, rfl⟩
theorem eX5_isSlot_23 : decode cX5_isSlot 23 = .ok (.goto 4, 3) ∧ ((23 : Nat) : Int) + 4 = ((27 : Nat) : Int) := ⟨by decide +kernel, by decide⟩
theorem eX5_isSlot_26 : decode cX5_isSlot 26 = .ok (.iconst 0, 1) ∧ 26 + 1 = 27 := ⟨by decide +kernel, rfl⟩
theorem eX5_isSlot_27 : decode cX5_isSlot 27 = .ok (.ireturn, 1) := by decide +kernel
theorem eX5_at_0 : decode cX5_at 0 = .ok (.aload_n 0, 1) ∧ 0 + 1 = 1 := ⟨by decide +kernel, rfl⟩
theorem eX5_at_1 : decode cX5_at 1 = .ok (.ifnull 19, 3) ∧ 1 + 3 = 4 := ⟨by decide +kernel, rfl⟩
theorem eX5_at_4 : decode cX5_at 4 = .ok (.iload_n 1, 1) ∧ 4 + 1 = 5 := ⟨by decide +kernel, rfl⟩
theorem eX5_at_5 : decode cX5_at 5 = .ok (.ifCond .lt 15, 3) ∧ ((5 : Nat) : Int) + 15 = ((20 : Nat) : Int) ∧ 5 + 3 = 8 := ⟨by decide +kernel, by decide, rfl⟩
theorem eX5_at_8 : decode cX5_at 8 = .ok (.iload_n 1, 1) ∧ 8 + 1 = 9 := ⟨by decide +kernel, rfl⟩
theorem eX5_at_9 : decode cX5_at 9 = .ok (.aload_n 0, 1) ∧ 9 + 1 = 10 := ⟨by decide +kernel, rfl⟩
theorem eX5_at_10 : decode cX5_at 10 = .ok (.arraylength, 1) ∧ 10 + 1 = 11 := ⟨by decide +kernel, rfl⟩
theorem eX5_at_11 : decode cX5_at 11 = .ok (.if_icmp .ge 9, 3) ∧ ((11 : Nat) : Int) + 9 = ((20 : Nat) : Int) ∧ 11 + 3 = 14 := ⟨by decide +kernel, by decide, rfl⟩
theorem eX5_at_14 : decode cX5_at 14 = .ok (.aload_n 0, 1) ∧ 14 + 1 = 15 := ⟨by decide +kernel, rfl⟩
theorem eX5_at_15 : decode cX5_at 15 = .ok (.iload_n 1, 1) ∧ 15 + 1 = 16 := ⟨by decide +kernel, rfl⟩
theorem eX5_at_16 : decode cX5_at 16 = .ok (.iaload, 1) ∧ 16 + 1 = 17 := ⟨by decide +kernel, rfl⟩
theorem eX5_at_17 : decode cX5_at 17 = .ok (.goto 4, 3) ∧ ((17 : Nat) : Int) + 4 = ((21 : Nat) : Int) := ⟨by decide +kernel, by decide⟩
theorem eX5_at_20 : decode cX5_at 20 = .ok (.iconst 0, 1) ∧ 20 + 1 = 21 := ⟨by decide +kernel, rfl⟩
theorem eX5_at_21 : decode cX5_at 21 = .ok (.ireturn, 1) := by decide +kernel
theorem eX5_isRow_0 : decode cX5_isRow 0 = .ok (.iload_n 0, 1) ∧ 0 + 1 = 1 := ⟨by decide +kernel, rfl⟩
theorem eX5_isRow_1 : decode cX5_isRow 1 = .ok (.iconst 1, 1) ∧ 1 + 1 = 2 := ⟨by decide +kernel, rfl⟩
theorem eX5_isRow_2 : decode cX5_isRow 2 = .ok (.if_icmp .lt 28, 3) ∧ ((2 : Nat) : Int) + 28 = ((30 : Nat) : Int) ∧ 2 + 3 = 5 := ⟨by decide +kernel, by decide, rfl⟩
theorem eX5_isRow_5 : decode cX5_isRow 5 = .ok (.iload_n 0, 1) ∧ 5 + 1 = 6 := ⟨by decide +kernel, rfl⟩
theorem eX5_isRow_6 : decode cX5_isRow 6 = .ok (.bipush 6, 2) ∧ 6 + 2 = 8 := ⟨by decide +kernel, rfl⟩
theorem eX5_isRow_8 : decode cX5_isRow 8 = .ok (.if_icmp .gt 22, 3) ∧ ((8 : Nat) : Int) + 22 = ((30 : Nat) : Int) ∧ 8 + 3 = 11 := ⟨by decide +kernel, by decide, rfl⟩
theorem eX5_isRow_11 : decode cX5_isRow 11 = .ok (.iload_n 1, 1) ∧ 11 + 1 = 12 := ⟨by decide +kernel, rfl⟩
theorem eX5_isRow_12 : decode cX5_isRow 12 = .ok (.ifCond .lt 18, 3) ∧ ((12 : Nat) : Int) + 18 = ((30 : Nat) : Int) ∧ 12 + 3 = 15 := ⟨by decide +kernel, by decide, rfl⟩
theorem eX5_isRow_15 : decode cX5_isRow 15 = .ok (.iload_n 1, 1) ∧ 15 + 1 = 16 := ⟨by decide +kernel, rfl⟩
theorem eX5_isRow_16 : decode cX5_isRow 16 = .ok (.getstatic 237, 3) ∧ 16 + 3 = 19 := ⟨by decide +kernel, rfl⟩
theorem eX5_isRow_19 : decode cX5_isRow 19 = .ok (.iload_n 0, 1) ∧ 19 + 1 = 20 := ⟨by decide +kernel, rfl⟩
theorem eX5_isRow_20 : decode cX5_isRow 20 = .ok (.invokestatic 115, 3) ∧ 20 + 3 = 23 := ⟨by decide +kernel, rfl⟩
theorem eX5_isRow_23 : decode cX5_isRow 23 = .ok (.if_icmp .ge 7, 3) ∧ ((23 : Nat) : Int) + 7 = ((30 : Nat) : Int) ∧ 23 + 3 = 26 := ⟨by decide +kernel, by decide, rfl⟩
theorem eX5_isRow_26 : decode cX5_isRow 26 = .ok (.iconst 1, 1) ∧ 26 + 1 = 27 := ⟨by decide +kernel, rfl⟩
theorem eX5_isRow_27 : decode cX5_isRow 27 = .ok (.goto 4, 3) ∧ ((27 : Nat) : Int) + 4 = ((31 : Nat) : Int) := ⟨by decide +kernel, by decide⟩
theorem eX5_isRow_30 : decode cX5_isRow 30 = .ok (.iconst 0, 1) ∧ 30 + 1 = 31 := ⟨by decide +kernel, rfl⟩
theorem eX5_isRow_31 : decode cX5_isRow 31 = .ok (.ireturn, 1) := by decide +kernel
theorem eX5_weddingInRow_0 : decode cX5_weddingInRow 0 = .ok (.getstatic 237, 3) ∧ 0 + 3 = 3 := ⟨by decide +kernel, rfl⟩
theorem eX5_weddingInRow_3 : decode cX5_weddingInRow 3 = .ok (.iload_n 0, 1) ∧ 3 + 1 = 4 := ⟨by decide +kernel, rfl⟩
theorem eX5_weddingInRow_4 : decode cX5_weddingInRow 4 = .ok (.iconst 1, 1) ∧ 4 + 1 = 5 := ⟨by decide +kernel, rfl⟩
theorem eX5_weddingInRow_5 : decode cX5_weddingInRow 5 = .ok (.isub, 1) ∧ 5 + 1 = 6 := ⟨by decide +kernel, rfl⟩
theorem eX5_weddingInRow_6 : decode cX5_weddingInRow 6 = .ok (.iload_n 2, 1) ∧ 6 + 1 = 7 := ⟨by decide +kernel, rfl⟩
theorem eX5_weddingInRow_7 : decode cX5_weddingInRow 7 = .ok (.isub, 1) ∧ 7 + 1 = 8 := ⟨by decide +kernel, rfl⟩
theorem eX5_weddingInRow_8 : decode cX5_weddingInRow 8 = .ok (.invokestatic 115, 3) ∧ 8 + 3 = 11 := ⟨by decide +kernel, rfl⟩
theorem eX5_weddingInRow_11 : decode cX5_weddingInRow 11 = .ok (.istore_n 3, 1) ∧ 11 + 1 = 12 := ⟨by decide +kernel, rfl⟩
theorem eX5_weddingInRow_12 : decode cX5_weddingInRow 12 = .ok (.iload_n 3, 1) ∧ 12 + 1 = 13 := ⟨by decide +kernel, rfl⟩
theorem eX5_weddingInRow_13 : decode cX5_weddingInRow 13 = .ok (.ifCond .le 14, 3) ∧ ((13 : Nat) : Int) + 14 = ((27 : Nat) : Int) ∧ 13 + 3 = 16 := ⟨by decide +kernel, by decide, rfl⟩
theorem eX5_weddingInRow_16 : decode cX5_weddingInRow 16 = .ok (.iload_n 1, 1) ∧ 16 + 1 = 17 := ⟨by decide +kernel, rfl⟩
theorem eX5_weddingInRow_17 : decode cX5_weddingInRow 17 = .ok (.iload_n 3, 1) ∧ 17 + 1 = 18 := ⟨by decide +kernel, rfl⟩
theorem eX5_weddingInRow_18 : decode cX5_weddingInRow 18 = .ok (.idiv, 1) ∧ 18 + 1 = 19 := ⟨by decide +kernel, rfl⟩
theorem eX5_weddingInRow_19 : decode cX5_weddingInRow 19 = .ok (.bipush 10, 2) ∧ 19 + 2 = 21 := ⟨by decide +kernel, rfl⟩
theorem eX5_weddingInRow_21 : decode cX5_weddingInRow 21 = .ok (.irem, 1) ∧ 21 + 1 = 22 := ⟨by decide +kernel, rfl⟩
theorem eX5_weddingInRow_22 : decode cX5_weddingInRow 22 = .ok (.iconst 1, 1) ∧ 22 + 1 = 23 := ⟨by decide +kernel, rfl⟩
theorem eX5_weddingInRow_23 : decode cX5_weddingInRow 23 = .ok (.isub, 1) ∧ 23 + 1 = 24 := ⟨by decide +kernel, rfl⟩
theorem eX5_weddingInRow_24 : decode cX5_weddingInRow 24 = .ok (.goto 4, 3) ∧ ((24 : Nat) : Int) + 4 = ((28 : Nat) : Int) := ⟨by decide +kernel, by decide⟩
theorem eX5_weddingInRow_27 : decode cX5_weddingInRow 27 = .ok (.iconst (-1), 1) ∧ 27 + 1 = 28 := ⟨by decide +kernel, rfl⟩
theorem eX5_weddingInRow_28 : decode cX5_weddingInRow 28 = .ok (.ireturn, 1) := by decide +kernel
theorem eX5_holdingNext_0 : decode cX5_holdingNext 0 = .ok (.iconst 0, 1) ∧ 0 + 1 = 1 := ⟨by decide +kernel, rfl⟩
theorem eX5_holdingNext_1 : decode cX5_holdingNext 1 = .ok (.istore_n 1, 1) ∧ 1 + 1 = 2 := ⟨by decide +kernel, rfl⟩
theorem eX5_holdingNext_2 : decode cX5_holdingNext 2 = .ok (.iconst 0, 1) ∧ 2 + 1 = 3 := ⟨by decide +kernel, rfl⟩
theorem eX5_holdingNext_3 : decode cX5_holdingNext 3 = .ok (.istore_n 2, 1) ∧ 3 + 1 = 4 := ⟨by decide +kernel, rfl⟩
theorem eX5_holdingNext_4 : decode cX5_holdingNext 4 = .ok (.iload_n 2, 1) ∧ 4 + 1 = 5 := ⟨by decide +kernel, rfl⟩
theorem eX5_holdingNext_5 : decode cX5_holdingNext 5 = .ok (.aload_n 0, 1) ∧ 5 + 1 = 6 := ⟨by decide +kernel, rfl⟩
theorem eX5_holdingNext_6 : decode cX5_holdingNext 6 = .ok (.getfield 19, 3) ∧ 6 + 3 = 9 := ⟨by decide +kernel, rfl⟩
theorem eX5_holdingNext_9 : decode cX5_holdingNext 9 = .ok (.getfield 92, 3) ∧ 9 + 3 = 12 := ⟨by decide +kernel, rfl⟩
theorem eX5_holdingNext_12 : decode cX5_holdingNext 12 = .ok (.if_icmp .ge 32, 3) ∧ ((12 : Nat) : Int) + 32 = ((44 : Nat) : Int) ∧ 12 + 3 = 15 := ⟨by decide +kernel, by decide, rfl⟩
theorem eX5_holdingNext_15 : decode cX5_holdingNext 15 = .ok (.aload_n 0, 1) ∧ 15 + 1 = 16 := ⟨by decide +kernel, rfl⟩
theorem eX5_holdingNext_16 : decode cX5_holdingNext 16 = .ok (.getfield 19, 3) ∧ 16 + 3 = 19 := ⟨by decide +kernel, rfl⟩
theorem eX5_holdingNext_19 : decode cX5_holdingNext 19 = .ok (.aload_n 0, 1) ∧ 19 + 1 = 20 := ⟨by decide +kernel, rfl⟩
theorem eX5_holdingNext_20 : decode cX5_holdingNext 20 = .ok (.getfield 26, 3) ∧ 20 + 3 = 23 := ⟨by decide +kernel, rfl⟩
theorem eX5_holdingNext_23 : decode cX5_holdingNext 23 = .ok (.iload_n 2, 1) ∧ 23 + 1 = 24 := ⟨by decide +kernel, rfl⟩
theorem eX5_holdingNext_24 : decode cX5_holdingNext 24 = .ok (.invokevirtual 105, 3) ∧ 24 + 3 = 27 := ⟨by decide +kernel, rfl⟩
theorem eX5_holdingNext_27 : decode cX5_holdingNext 27 = .ok (.bipush (-9), 2) ∧ 27 + 2 = 29 := ⟨by decide +kernel, rfl⟩
theorem eX5_holdingNext_29 : decode cX5_holdingNext 29 = .ok (.if_icmp .eq 9, 3) ∧ ((29 : Nat) : Int) + 9 = ((38 : Nat) : Int) ∧ 29 + 3 = 32 := ⟨by decide +kernel, by decide, rfl⟩
theorem eX5_holdingNext_32 : decode cX5_holdingNext 32 = .ok (.iload_n 1, 1) ∧ 32 + 1 = 33 := ⟨by decide +kernel, rfl⟩
theorem eX5_holdingNext_33 : decode cX5_holdingNext 33 = .ok (.iconst 1, 1) ∧ 33 + 1 = 34 := ⟨by decide +kernel, rfl⟩
theorem eX5_holdingNext_34 : decode cX5_holdingNext 34 = .ok (.iload_n 2, 1) ∧ 34 + 1 = 35 := ⟨by decide +kernel, rfl⟩
theorem eX5_holdingNext_35 : decode cX5_holdingNext 35 = .ok (.ishl, 1) ∧ 35 + 1 = 36 := ⟨by decide +kernel, rfl⟩
theorem eX5_holdingNext_36 : decode cX5_holdingNext 36 = .ok (.ior, 1) ∧ 36 + 1 = 37 := ⟨by decide +kernel, rfl⟩
theorem eX5_holdingNext_37 : decode cX5_holdingNext 37 = .ok (.istore_n 1, 1) ∧ 37 + 1 = 38 := ⟨by decide +kernel, rfl⟩
theorem eX5_holdingNext_38 : decode cX5_holdingNext 38 = .ok (.iinc 2 1, 3) ∧ 38 + 3 = 41 := ⟨by decide +kernel, rfl⟩
theorem eX5_holdingNext_41 : decode cX5_holdingNext 41 = .ok (.goto (-37), 3) ∧ ((41 : Nat) : Int) + (-37) = ((4 : Nat) : Int) := ⟨by decide +kernel, by decide⟩
theorem eX5_holdingNext_44 : decode cX5_holdingNext 44 = .ok (.iload_n 1, 1) ∧ 44 + 1 = 45 := ⟨by decide +kernel, rfl⟩
theorem eX5_holdingNext_45 : decode cX5_holdingNext 45 = .ok (.ireturn, 1) := by decide +kernel
theorem eX5_mostFrom_0 : decode cX5_mostFrom 0 = .ok (.aload_n 0, 1) ∧ 0 + 1 = 1 := ⟨by decide +kernel, rfl⟩
theorem eX5_mostFrom_1 : decode cX5_mostFrom 1 = .ok (.getfield 43, 3) ∧ 1 + 3 = 4 := ⟨by decide +kernel, rfl⟩
theorem eX5_mostFrom_4 : decode cX5_mostFrom 4 = .ok (.aload_n 0, 1) ∧ 4 + 1 = 5 := ⟨by decide +kernel, rfl⟩
theorem eX5_mostFrom_5 : decode cX5_mostFrom 5 = .ok (.getfield 19, 3) ∧ 5 + 3 = 8 := ⟨by decide +kernel, rfl⟩
theorem eX5_mostFrom_8 : decode cX5_mostFrom 8 = .ok (.aload_n 1, 1) ∧ 8 + 1 = 9 := ⟨by decide +kernel, rfl⟩
theorem eX5_mostFrom_9 : decode cX5_mostFrom 9 = .ok (.invokevirtual 148, 3) ∧ 9 + 3 = 12 := ⟨by decide +kernel, rfl⟩
theorem eX5_mostFrom_12 : decode cX5_mostFrom 12 = .ok (.aload_n 0, 1) ∧ 12 + 1 = 13 := ⟨by decide +kernel, rfl⟩
theorem eX5_mostFrom_13 : decode cX5_mostFrom 13 = .ok (.getfield 43, 3) ∧ 13 + 3 = 16 := ⟨by decide +kernel, rfl⟩
theorem eX5_mostFrom_16 : decode cX5_mostFrom 16 = .ok (.getfield 152, 3) ∧ 16 + 3 = 19 := ⟨by decide +kernel, rfl⟩
theorem eX5_mostFrom_19 : decode cX5_mostFrom 19 = .ok (.ireturn, 1) := by decide +kernel
theorem eX5_fraction_0 : decode cX5_fraction 0 = .ok (.iload_n 0, 1) ∧ 0 + 1 = 1 := ⟨by decide +kernel, rfl⟩
theorem eX5_fraction_1 : decode cX5_fraction 1 = .ok (.iload_n 1, 1) ∧ 1 + 1 = 2 := ⟨by decide +kernel, rfl⟩
theorem eX5_fraction_2 : decode cX5_fraction 2 = .ok (.invokestatic 253, 3) ∧ 2 + 3 = 5 := ⟨by decide +kernel, rfl⟩
theorem eX5_fraction_5 : decode cX5_fraction 5 = .ok (.istore_n 3, 1) ∧ 5 + 1 = 6 := ⟨by decide +kernel, rfl⟩
theorem eX5_fraction_6 : decode cX5_fraction 6 = .ok (.iload_n 3, 1) ∧ 6 + 1 = 7 := ⟨by decide +kernel, rfl⟩
theorem eX5_fraction_7 : decode cX5_fraction 7 = .ok (.iconst 1, 1) ∧ 7 + 1 = 8 := ⟨by decide +kernel, rfl⟩
theorem eX5_fraction_8 : decode cX5_fraction 8 = .ok (.if_icmp .ge 13, 3) ∧ ((8 : Nat) : Int) + 13 = ((21 : Nat) : Int) ∧ 8 + 3 = 11 := ⟨by decide +kernel, by decide, rfl⟩
theorem eX5_fraction_11 : decode cX5_fraction 11 = .ok (.iload_n 2, 1) ∧ 11 + 1 = 12 := ⟨by decide +kernel, rfl⟩
theorem eX5_fraction_12 : decode cX5_fraction 12 = .ok (.ifCond .eq 7, 3) ∧ ((12 : Nat) : Int) + 7 = ((19 : Nat) : Int) ∧ 12 + 3 = 15 := ⟨by decide +kernel, by decide, rfl⟩
theorem eX5_fraction_15 : decode cX5_fraction 15 = .ok (.iload_n 0, 1) ∧ 15 + 1 = 16 := ⟨by decide +kernel, rfl⟩
theorem eX5_fraction_16 : decode cX5_fraction 16 = .ok (.goto 4, 3) ∧ ((16 : Nat) : Int) + 4 = ((20 : Nat) : Int) := ⟨by decide +kernel, by decide⟩
theorem eX5_fraction_19 : decode cX5_fraction 19 = .ok (.iload_n 1, 1) ∧ 19 + 1 = 20 := ⟨by decide +kernel, rfl⟩
theorem eX5_fraction_20 : decode cX5_fraction 20 = .ok (.ireturn, 1) := by decide +kernel
theorem eX5_fraction_21 : decode cX5_fraction 21 = .ok (.iload_n 2, 1) ∧ 21 + 1 = 22 := ⟨by decide +kernel, rfl⟩
theorem eX5_fraction_22 : decode cX5_fraction 22 = .ok (.ifCond .eq 7, 3) ∧ ((22 : Nat) : Int) + 7 = ((29 : Nat) : Int) ∧ 22 + 3 = 25 := ⟨by decide +kernel, by decide, rfl⟩
theorem eX5_fraction_25 : decode cX5_fraction 25 = .ok (.iload_n 0, 1) ∧ 25 + 1 = 26 := ⟨by decide +kernel, rfl⟩
theorem eX5_fraction_26 : decode cX5_fraction 26 = .ok (.goto 4, 3) ∧ ((26 : Nat) : Int) + 4 = ((30 : Nat) : Int) := ⟨by decide +kernel, by decide⟩
theorem eX5_fraction_29 : decode cX5_fraction 29 = .ok (.iload_n 1, 1) ∧ 29 + 1 = 30 := ⟨by decide +kernel, rfl⟩
theorem eX5_fraction_30 : decode cX5_fraction 30 = .ok (.iload_n 3, 1) ∧ 30 + 1 = 31 := ⟨by decide +kernel, rfl⟩
theorem eX5_fraction_31 : decode cX5_fraction 31 = .ok (.idiv, 1) ∧ 31 + 1 = 32 := ⟨by decide +kernel, rfl⟩
theorem eX5_fraction_32 : decode cX5_fraction 32 = .ok (.ireturn, 1) := by decide +kernel
theorem eX5_greatestDivisor_0 : decode cX5_greatestDivisor 0 = .ok (.iload_n 0, 1) ∧ 0 + 1 = 1 := ⟨by decide +kernel, rfl⟩
theorem eX5_greatestDivisor_1 : decode cX5_greatestDivisor 1 = .ok (.istore_n 2, 1) ∧ 1 + 1 = 2 := ⟨by decide +kernel, rfl⟩
theorem eX5_greatestDivisor_2 : decode cX5_greatestDivisor 2 = .ok (.iload_n 1, 1) ∧ 2 + 1 = 3 := ⟨by decide +kernel, rfl⟩
theorem eX5_greatestDivisor_3 : decode cX5_greatestDivisor 3 = .ok (.istore_n 3, 1) ∧ 3 + 1 = 4 := ⟨by decide +kernel, rfl⟩
theorem eX5_greatestDivisor_4 : decode cX5_greatestDivisor 4 = .ok (.iconst 0, 1) ∧ 4 + 1 = 5 := ⟨by decide +kernel, rfl⟩
theorem eX5_greatestDivisor_5 : decode cX5_greatestDivisor 5 = .ok (.istore 4, 2) ∧ 5 + 2 = 7 := ⟨by decide +kernel, rfl⟩
theorem eX5_greatestDivisor_7 : decode cX5_greatestDivisor 7 = .ok (.iload 4, 2) ∧ 7 + 2 = 9 := ⟨by decide +kernel, rfl⟩
theorem eX5_greatestDivisor_9 : decode cX5_greatestDivisor 9 = .ok (.bipush 64, 2) ∧ 9 + 2 = 11 := ⟨by decide +kernel, rfl⟩
theorem eX5_greatestDivisor_11 : decode cX5_greatestDivisor 11 = .ok (.if_icmp .ge 23, 3) ∧ ((11 : Nat) : Int) + 23 = ((34 : Nat) : Int) ∧ 11 + 3 = 14 := ⟨by decide +kernel, by decide, rfl⟩
theorem eX5_greatestDivisor_14 : decode cX5_greatestDivisor 14 = .ok (.iload_n 3, 1) ∧ 14 + 1 = 15 := ⟨by decide +kernel, rfl⟩
theorem eX5_greatestDivisor_15 : decode cX5_greatestDivisor 15 = .ok (.ifCond .le 19, 3) ∧ ((15 : Nat) : Int) + 19 = ((34 : Nat) : Int) ∧ 15 + 3 = 18 := ⟨by decide +kernel, by decide, rfl⟩
theorem eX5_greatestDivisor_18 : decode cX5_greatestDivisor 18 = .ok (.iload_n 2, 1) ∧ 18 + 1 = 19 := ⟨by decide +kernel, rfl⟩
theorem eX5_greatestDivisor_19 : decode cX5_greatestDivisor 19 = .ok (.iload_n 3, 1) ∧ 19 + 1 = 20 := ⟨by decide +kernel, rfl⟩
theorem eX5_greatestDivisor_20 : decode cX5_greatestDivisor 20 = .ok (.irem, 1) ∧ 20 + 1 = 21 := ⟨by decide +kernel, rfl⟩
theorem eX5_greatestDivisor_21 : decode cX5_greatestDivisor 21 = .ok (.istore 5, 2) ∧ 21 + 2 = 23 := ⟨by decide +kernel, rfl⟩
theorem eX5_greatestDivisor_23 : decode cX5_greatestDivisor 23 = .ok (.iload_n 3, 1) ∧ 23 + 1 = 24 := ⟨by decide +kernel, rfl⟩
theorem eX5_greatestDivisor_24 : decode cX5_greatestDivisor 24 = .ok (.istore_n 2, 1) ∧ 24 + 1 = 25 := ⟨by decide +kernel, rfl⟩
theorem eX5_greatestDivisor_25 : decode cX5_greatestDivisor 25 = .ok (.iload 5, 2) ∧ 25 + 2 = 27 := ⟨by decide +kernel, rfl⟩
theorem eX5_greatestDivisor_27 : decode cX5_greatestDivisor 27 = .ok (.istore_n 3, 1) ∧ 27 + 1 = 28 := ⟨by decide +kernel, rfl⟩
theorem eX5_greatestDivisor_28 : decode cX5_greatestDivisor 28 = .ok (.iinc 4 1, 3) ∧ 28 + 3 = 31 := ⟨by decide +kernel, rfl⟩
theorem eX5_greatestDivisor_31 : decode cX5_greatestDivisor 31 = .ok (.goto (-24), 3) ∧ ((31 : Nat) : Int) + (-24) = ((7 : Nat) : Int) := ⟨by decide +kernel, by decide⟩
theorem eX5_greatestDivisor_34 : decode cX5_greatestDivisor 34 = .ok (.iload_n 2, 1) ∧ 34 + 1 = 35 := ⟨by decide +kernel, rfl⟩
theorem eX5_greatestDivisor_35 : decode cX5_greatestDivisor 35 = .ok (.ireturn, 1) := by decide +kernel
theorem eX5_fillMostOf_0 : decode cX5_fillMostOf 0 = .ok (.aload_n 0, 1) ∧ 0 + 1 = 1 := ⟨by decide +kernel, rfl⟩
theorem eX5_fillMostOf_1 : decode cX5_fillMostOf 1 = .ok (.getfield 43, 3) ∧ 1 + 3 = 4 := ⟨by decide +kernel, rfl⟩
theorem eX5_fillMostOf_4 : decode cX5_fillMostOf 4 = .ok (.aload_n 0, 1) ∧ 4 + 1 = 5 := ⟨by decide +kernel, rfl⟩
theorem eX5_fillMostOf_5 : decode cX5_fillMostOf 5 = .ok (.getfield 19, 3) ∧ 5 + 3 = 8 := ⟨by decide +kernel, rfl⟩
theorem eX5_fillMostOf_8 : decode cX5_fillMostOf 8 = .ok (.aload_n 0, 1) ∧ 8 + 1 = 9 := ⟨by decide +kernel, rfl⟩
theorem eX5_fillMostOf_9 : decode cX5_fillMostOf 9 = .ok (.getfield 26, 3) ∧ 9 + 3 = 12 := ⟨by decide +kernel, rfl⟩
theorem eX5_fillMostOf_12 : decode cX5_fillMostOf 12 = .ok (.invokevirtual 148, 3) ∧ 12 + 3 = 15 := ⟨by decide +kernel, rfl⟩
theorem eX5_fillMostOf_15 : decode cX5_fillMostOf 15 = .ok (.iconst 0, 1) ∧ 15 + 1 = 16 := ⟨by decide +kernel, rfl⟩
theorem eX5_fillMostOf_16 : decode cX5_fillMostOf 16 = .ok (.istore_n 1, 1) ∧ 16 + 1 = 17 := ⟨by decide +kernel, rfl⟩
theorem eX5_fillMostOf_17 : decode cX5_fillMostOf 17 = .ok (.iload_n 1, 1) ∧ 17 + 1 = 18 := ⟨by decide +kernel, rfl⟩
theorem eX5_fillMostOf_18 : decode cX5_fillMostOf 18 = .ok (.aload_n 0, 1) ∧ 18 + 1 = 19 := ⟨by decide +kernel, rfl⟩
theorem eX5_fillMostOf_19 : decode cX5_fillMostOf 19 = .ok (.getfield 62, 3) ∧ 19 + 3 = 22 := ⟨by decide +kernel, rfl⟩
theorem eX5_fillMostOf_22 : decode cX5_fillMostOf 22 = .ok (.arraylength, 1) ∧ 22 + 1 = 23 := ⟨by decide +kernel, rfl⟩
theorem eX5_fillMostOf_23 : decode cX5_fillMostOf 23 = .ok (.if_icmp .ge 81, 3) ∧ ((23 : Nat) : Int) + 81 = ((104 : Nat) : Int) ∧ 23 + 3 = 26 := ⟨by decide +kernel, by decide, rfl⟩
theorem eX5_fillMostOf_26 : decode cX5_fillMostOf 26 = .ok (.iconst 0, 1) ∧ 26 + 1 = 27 := ⟨by decide +kernel, rfl⟩
theorem eX5_fillMostOf_27 : decode cX5_fillMostOf 27 = .ok (.istore_n 2, 1) ∧ 27 + 1 = 28 := ⟨by decide +kernel, rfl⟩
theorem eX5_fillMostOf_28 : decode cX5_fillMostOf 28 = .ok (.aload_n 0, 1) ∧ 28 + 1 = 29 := ⟨by decide +kernel, rfl⟩
theorem eX5_fillMostOf_29 : decode cX5_fillMostOf 29 = .ok (.getfield 43, 3) ∧ 29 + 3 = 32 := ⟨by decide +kernel, rfl⟩
theorem eX5_fillMostOf_32 : decode cX5_fillMostOf 32 = .ok (.getfield 256, 3) ∧ 32 + 3 = 35 := ⟨by decide +kernel, rfl⟩
theorem eX5_fillMostOf_35 : decode cX5_fillMostOf 35 = .ok (.iload_n 1, 1) ∧ 35 + 1 = 36 := ⟨by decide +kernel, rfl⟩
theorem eX5_fillMostOf_36 : decode cX5_fillMostOf 36 = .ok (.invokestatic 115, 3) ∧ 36 + 3 = 39 := ⟨by decide +kernel, rfl⟩
theorem eX5_fillMostOf_39 : decode cX5_fillMostOf 39 = .ok (.ifCond .eq 11, 3) ∧ ((39 : Nat) : Int) + 11 = ((50 : Nat) : Int) ∧ 39 + 3 = 42 := ⟨by decide +kernel, by decide, rfl⟩
theorem eX5_fillMostOf_42 : decode cX5_fillMostOf 42 = .ok (.iload_n 1, 1) ∧ 42 + 1 = 43 := ⟨by decide +kernel, rfl⟩
theorem eX5_fillMostOf_43 : decode cX5_fillMostOf 43 = .ok (.invokestatic 213, 3) ∧ 43 + 3 = 46 := ⟨by decide +kernel, rfl⟩
theorem eX5_fillMostOf_46 : decode cX5_fillMostOf 46 = .ok (.istore_n 2, 1) ∧ 46 + 1 = 47 := ⟨by decide +kernel, rfl⟩
theorem eX5_fillMostOf_47 : decode cX5_fillMostOf 47 = .ok (.goto 44, 3) ∧ ((47 : Nat) : Int) + 44 = ((91 : Nat) : Int) := ⟨by decide +kernel, by decide⟩
theorem eX5_fillMostOf_50 : decode cX5_fillMostOf 50 = .ok (.iconst 0, 1) ∧ 50 + 1 = 51 := ⟨by decide +kernel, rfl⟩
theorem eX5_fillMostOf_51 : decode cX5_fillMostOf 51 = .ok (.istore_n 3, 1) ∧ 51 + 1 = 52 := ⟨by decide +kernel, rfl⟩
theorem eX5_fillMostOf_52 : decode cX5_fillMostOf 52 = .ok (.iload_n 3, 1) ∧ 52 + 1 = 53 := ⟨by decide +kernel, rfl⟩
theorem eX5_fillMostOf_53 : decode cX5_fillMostOf 53 = .ok (.bipush 6, 2) ∧ 53 + 2 = 55 := ⟨by decide +kernel, rfl⟩
theorem eX5_fillMostOf_55 : decode cX5_fillMostOf 55 = .ok (.if_icmp .ge 36, 3) ∧ ((55 : Nat) : Int) + 36 = ((91 : Nat) : Int) ∧ 55 + 3 = 58 := ⟨by decide +kernel, by decide, rfl⟩
theorem eX5_fillMostOf_58 : decode cX5_fillMostOf 58 = .ok (.iload_n 1, 1) ∧ 58 + 1 = 59 := ⟨by decide +kernel, rfl⟩
theorem eX5_fillMostOf_59 : decode cX5_fillMostOf 59 = .ok (.iload_n 3, 1) ∧ 59 + 1 = 60 := ⟨by decide +kernel, rfl⟩
theorem eX5_fillMostOf_60 : decode cX5_fillMostOf 60 = .ok (.ishr, 1) ∧ 60 + 1 = 61 := ⟨by decide +kernel, rfl⟩
theorem eX5_fillMostOf_61 : decode cX5_fillMostOf 61 = .ok (.iconst 1, 1) ∧ 61 + 1 = 62 := ⟨by decide +kernel, rfl⟩
theorem eX5_fillMostOf_62 : decode cX5_fillMostOf 62 = .ok (.iand, 1) ∧ 62 + 1 = 63 := ⟨by decide +kernel, rfl⟩
theorem eX5_fillMostOf_63 : decode cX5_fillMostOf 63 = .ok (.ifCond .eq 22, 3) ∧ ((63 : Nat) : Int) + 22 = ((85 : Nat) : Int) ∧ 63 + 3 = 66 := ⟨by decide +kernel, by decide, rfl⟩
theorem eX5_fillMostOf_66 : decode cX5_fillMostOf 66 = .ok (.iload_n 2, 1) ∧ 66 + 1 = 67 := ⟨by decide +kernel, rfl⟩
theorem eX5_fillMostOf_67 : decode cX5_fillMostOf 67 = .ok (.aload_n 0, 1) ∧ 67 + 1 = 68 := ⟨by decide +kernel, rfl⟩
theorem eX5_fillMostOf_68 : decode cX5_fillMostOf 68 = .ok (.getfield 62, 3) ∧ 68 + 3 = 71 := ⟨by decide +kernel, rfl⟩
theorem eX5_fillMostOf_71 : decode cX5_fillMostOf 71 = .ok (.iload_n 1, 1) ∧ 71 + 1 = 72 := ⟨by decide +kernel, rfl⟩
theorem eX5_fillMostOf_72 : decode cX5_fillMostOf 72 = .ok (.iconst 1, 1) ∧ 72 + 1 = 73 := ⟨by decide +kernel, rfl⟩
theorem eX5_fillMostOf_73 : decode cX5_fillMostOf 73 = .ok (.iload_n 3, 1) ∧ 73 + 1 = 74 := ⟨by decide +kernel, rfl⟩
theorem eX5_fillMostOf_74 : decode cX5_fillMostOf 74 = .ok (.ishl, 1) ∧ 74 + 1 = 75 := ⟨by decide +kernel, rfl⟩
theorem eX5_fillMostOf_75 : decode cX5_fillMostOf 75 = .ok (.iconst (-1), 1) ∧ 75 + 1 = 76 := ⟨by decide +kernel, rfl⟩
theorem eX5_fillMostOf_76 : decode cX5_fillMostOf 76 = .ok (.ixor, 1) ∧ 76 + 1 = 77 := ⟨by decide +kernel, rfl⟩
theorem eX5_fillMostOf_77 : decode cX5_fillMostOf 77 = .ok (.iand, 1) ∧ 77 + 1 = 78 := ⟨by decide +kernel, rfl⟩
theorem eX5_fillMostOf_78 : decode cX5_fillMostOf 78 = .ok (.invokestatic 115, 3) ∧ 78 + 3 = 81 := ⟨by decide +kernel, rfl⟩
theorem eX5_fillMostOf_81 : decode cX5_fillMostOf 81 = .ok (.invokestatic 259, 3) ∧ 81 + 3 = 84 := ⟨by decide +kernel, rfl⟩
theorem eX5_fillMostOf_84 : decode cX5_fillMostOf 84 = .ok (.istore_n 2, 1) ∧ 84 + 1 = 85 := ⟨by decide +kernel, rfl⟩
theorem eX5_fillMostOf_85 : decode cX5_fillMostOf 85 = .ok (.iinc 3 1, 3) ∧ 85 + 3 = 88 := ⟨by decide +kernel, rfl⟩
theorem eX5_fillMostOf_88 : decode cX5_fillMostOf 88 = .ok (.goto (-36), 3) ∧ ((88 : Nat) : Int) + (-36) = ((52 : Nat) : Int) := ⟨by decide +kernel, by decide⟩
theorem eX5_fillMostOf_91 : decode cX5_fillMostOf 91 = .ok (.aload_n 0, 1) ∧ 91 + 1 = 92 := ⟨by decide +kernel, rfl⟩
theorem eX5_fillMostOf_92 : decode cX5_fillMostOf 92 = .ok (.getfield 62, 3) ∧ 92 + 3 = 95 := ⟨by decide +kernel, rfl⟩
theorem eX5_fillMostOf_95 : decode cX5_fillMostOf 95 = .ok (.iload_n 1, 1) ∧ 95 + 1 = 96 := ⟨by decide +kernel, rfl⟩
theorem eX5_fillMostOf_96 : decode cX5_fillMostOf 96 = .ok (.iload_n 2, 1) ∧ 96 + 1 = 97 := ⟨by decide +kernel, rfl⟩
theorem eX5_fillMostOf_97 : decode cX5_fillMostOf 97 = .ok (.iastore, 1) ∧ 97 + 1 = 98 := ⟨by decide +kernel, rfl⟩
theorem eX5_fillMostOf_98 : decode cX5_fillMostOf 98 = .ok (.iinc 1 1, 3) ∧ 98 + 3 = 101 := ⟨by decide +kernel, rfl⟩
theorem eX5_fillMostOf_101 : decode cX5_fillMostOf 101 = .ok (.goto (-84), 3) ∧ ((101 : Nat) : Int) + (-84) = ((17 : Nat) : Int) := ⟨by decide +kernel, by decide⟩
theorem eX5_fillMostOf_104 : decode cX5_fillMostOf 104 = .ok (.return_, 1) := by decide +kernel
theorem eX5_isAtRest_0 : decode cX5_isAtRest 0 = .ok (.aload_n 0, 1) ∧ 0 + 1 = 1 := ⟨by decide +kernel, rfl⟩
theorem eX5_isAtRest_1 : decode cX5_isAtRest 1 = .ok (.iload_n 1, 1) ∧ 1 + 1 = 2 := ⟨by decide +kernel, rfl⟩
theorem eX5_isAtRest_2 : decode cX5_isAtRest 2 = .ok (.iload_n 2, 1) ∧ 2 + 1 = 3 := ⟨by decide +kernel, rfl⟩
theorem eX5_isAtRest_3 : decode cX5_isAtRest 3 = .ok (.iload_n 3, 1) ∧ 3 + 1 = 4 := ⟨by decide +kernel, rfl⟩
theorem eX5_isAtRest_4 : decode cX5_isAtRest 4 = .ok (.iload 4, 2) ∧ 4 + 2 = 6 := ⟨by decide +kernel, rfl⟩
theorem eX5_isAtRest_6 : decode cX5_isAtRest 6 = .ok (.invokevirtual 264, 3) ∧ 6 + 3 = 9 := ⟨by decide +kernel, rfl⟩
theorem eX5_isAtRest_9 : decode cX5_isAtRest 9 = .ok (.aload_n 0, 1) ∧ 9 + 1 = 10 := ⟨by decide +kernel, rfl⟩
theorem eX5_isAtRest_10 : decode cX5_isAtRest 10 = .ok (.iload_n 1, 1) ∧ 10 + 1 = 11 := ⟨by decide +kernel, rfl⟩
theorem eX5_isAtRest_11 : decode cX5_isAtRest 11 = .ok (.iload_n 2, 1) ∧ 11 + 1 = 12 := ⟨by decide +kernel, rfl⟩
theorem eX5_isAtRest_12 : decode cX5_isAtRest 12 = .ok (.iconst 1, 1) ∧ 12 + 1 = 13 := ⟨by decide +kernel, rfl⟩
theorem eX5_isAtRest_13 : decode cX5_isAtRest 13 = .ok (.iload_n 3, 1) ∧ 13 + 1 = 14 := ⟨by decide +kernel, rfl⟩
theorem eX5_isAtRest_14 : decode cX5_isAtRest 14 = .ok (.isub, 1) ∧ 14 + 1 = 15 := ⟨by decide +kernel, rfl⟩
theorem eX5_isAtRest_15 : decode cX5_isAtRest 15 = .ok (.iload 4, 2) ∧ 15 + 2 = 17 := ⟨by decide +kernel, rfl⟩
theorem eX5_isAtRest_17 : decode cX5_isAtRest 17 = .ok (.invokevirtual 264, 3) ∧ 17 + 3 = 20 := ⟨by decide +kernel, rfl⟩
theorem eX5_isAtRest_20 : decode cX5_isAtRest 20 = .ok (.if_icmp .lt 30, 3) ∧ ((20 : Nat) : Int) + 30 = ((50 : Nat) : Int) ∧ 20 + 3 = 23 := ⟨by decide +kernel, by decide, rfl⟩
theorem eX5_isAtRest_23 : decode cX5_isAtRest 23 = .ok (.aload_n 0, 1) ∧ 23 + 1 = 24 := ⟨by decide +kernel, rfl⟩
theorem eX5_isAtRest_24 : decode cX5_isAtRest 24 = .ok (.iload_n 2, 1) ∧ 24 + 1 = 25 := ⟨by decide +kernel, rfl⟩
theorem eX5_isAtRest_25 : decode cX5_isAtRest 25 = .ok (.iload_n 1, 1) ∧ 25 + 1 = 26 := ⟨by decide +kernel, rfl⟩
theorem eX5_isAtRest_26 : decode cX5_isAtRest 26 = .ok (.iload 4, 2) ∧ 26 + 2 = 28 := ⟨by decide +kernel, rfl⟩
theorem eX5_isAtRest_28 : decode cX5_isAtRest 28 = .ok (.iload_n 3, 1) ∧ 28 + 1 = 29 := ⟨by decide +kernel, rfl⟩
theorem eX5_isAtRest_29 : decode cX5_isAtRest 29 = .ok (.invokevirtual 264, 3) ∧ 29 + 3 = 32 := ⟨by decide +kernel, rfl⟩
theorem eX5_isAtRest_32 : decode cX5_isAtRest 32 = .ok (.aload_n 0, 1) ∧ 32 + 1 = 33 := ⟨by decide +kernel, rfl⟩
theorem eX5_isAtRest_33 : decode cX5_isAtRest 33 = .ok (.iload_n 2, 1) ∧ 33 + 1 = 34 := ⟨by decide +kernel, rfl⟩
theorem eX5_isAtRest_34 : decode cX5_isAtRest 34 = .ok (.iload_n 1, 1) ∧ 34 + 1 = 35 := ⟨by decide +kernel, rfl⟩
theorem eX5_isAtRest_35 : decode cX5_isAtRest 35 = .ok (.iconst 1, 1) ∧ 35 + 1 = 36 := ⟨by decide +kernel, rfl⟩
theorem eX5_isAtRest_36 : decode cX5_isAtRest 36 = .ok (.iload 4, 2) ∧ 36 + 2 = 38 := ⟨by decide +kernel, rfl⟩
theorem eX5_isAtRest_38 : decode cX5_isAtRest 38 = .ok (.isub, 1) ∧ 38 + 1 = 39 := ⟨by decide +kernel, rfl⟩
theorem eX5_isAtRest_39 : decode cX5_isAtRest 39 = .ok (.iload_n 3, 1) ∧ 39 + 1 = 40 := ⟨by decide +kernel, rfl⟩
theorem eX5_isAtRest_40 : decode cX5_isAtRest 40 = .ok (.invokevirtual 264, 3) ∧ 40 + 3 = 43 := ⟨by decide +kernel, rfl⟩
theorem eX5_isAtRest_43 : decode cX5_isAtRest 43 = .ok (.if_icmp .lt 7, 3) ∧ ((43 : Nat) : Int) + 7 = ((50 : Nat) : Int) ∧ 43 + 3 = 46 := ⟨by decide +kernel, by decide, rfl⟩
theorem eX5_isAtRest_46 : decode cX5_isAtRest 46 = .ok (.iconst 1, 1) ∧ 46 + 1 = 47 := ⟨by decide +kernel, rfl⟩
theorem eX5_isAtRest_47 : decode cX5_isAtRest 47 = .ok (.goto 4, 3) ∧ ((47 : Nat) : Int) + 4 = ((51 : Nat) : Int) := ⟨by decide +kernel, by decide⟩
theorem eX5_isAtRest_50 : decode cX5_isAtRest 50 = .ok (.iconst 0, 1) ∧ 50 + 1 = 51 := ⟨by decide +kernel, rfl⟩
theorem eX5_isAtRest_51 : decode cX5_isAtRest 51 = .ok (.ireturn, 1) := by decide +kernel
theorem eX5_gain_0 : decode cX5_gain 0 = .ok (.iload_n 3, 1) ∧ 0 + 1 = 1 := ⟨by decide +kernel, rfl⟩
theorem eX5_gain_1 : decode cX5_gain 1 = .ok (.iload 4, 2) ∧ 1 + 2 = 3 := ⟨by decide +kernel, rfl⟩
theorem eX5_gain_3 : decode cX5_gain 3 = .ok (.if_icmp .ne 16, 3) ∧ ((3 : Nat) : Int) + 16 = ((19 : Nat) : Int) ∧ 3 + 3 = 6 := ⟨by decide +kernel, by decide, rfl⟩
theorem eX5_gain_6 : decode cX5_gain 6 = .ok (.iload_n 1, 1) ∧ 6 + 1 = 7 := ⟨by decide +kernel, rfl⟩
theorem eX5_gain_7 : decode cX5_gain 7 = .ok (.iload_n 2, 1) ∧ 7 + 1 = 8 := ⟨by decide +kernel, rfl⟩
theorem eX5_gain_8 : decode cX5_gain 8 = .ok (.if_icmp .ge 7, 3) ∧ ((8 : Nat) : Int) + 7 = ((15 : Nat) : Int) ∧ 8 + 3 = 11 := ⟨by decide +kernel, by decide, rfl⟩
theorem eX5_gain_11 : decode cX5_gain 11 = .ok (.iconst 1, 1) ∧ 11 + 1 = 12 := ⟨by decide +kernel, rfl⟩
theorem eX5_gain_12 : decode cX5_gain 12 = .ok (.goto 17, 3) ∧ ((12 : Nat) : Int) + 17 = ((29 : Nat) : Int) := ⟨by decide +kernel, by decide⟩
theorem eX5_gain_15 : decode cX5_gain 15 = .ok (.iconst 0, 1) ∧ 15 + 1 = 16 := ⟨by decide +kernel, rfl⟩
theorem eX5_gain_16 : decode cX5_gain 16 = .ok (.goto 13, 3) ∧ ((16 : Nat) : Int) + 13 = ((29 : Nat) : Int) := ⟨by decide +kernel, by decide⟩
theorem eX5_gain_19 : decode cX5_gain 19 = .ok (.iload_n 3, 1) ∧ 19 + 1 = 20 := ⟨by decide +kernel, rfl⟩
theorem eX5_gain_20 : decode cX5_gain 20 = .ok (.iconst 1, 1) ∧ 20 + 1 = 21 := ⟨by decide +kernel, rfl⟩
theorem eX5_gain_21 : decode cX5_gain 21 = .ok (.if_icmp .ne 7, 3) ∧ ((21 : Nat) : Int) + 7 = ((28 : Nat) : Int) ∧ 21 + 3 = 24 := ⟨by decide +kernel, by decide, rfl⟩
theorem eX5_gain_24 : decode cX5_gain 24 = .ok (.iconst 1, 1) ∧ 24 + 1 = 25 := ⟨by decide +kernel, rfl⟩
theorem eX5_gain_25 : decode cX5_gain 25 = .ok (.goto 4, 3) ∧ ((25 : Nat) : Int) + 4 = ((29 : Nat) : Int) := ⟨by decide +kernel, by decide⟩
theorem eX5_gain_28 : decode cX5_gain 28 = .ok (.iconst 0, 1) ∧ 28 + 1 = 29 := ⟨by decide +kernel, rfl⟩
theorem eX5_gain_29 : decode cX5_gain 29 = .ok (.istore 5, 2) ∧ 29 + 2 = 31 := ⟨by decide +kernel, rfl⟩
theorem eX5_gain_31 : decode cX5_gain 31 = .ok (.aload_n 0, 1) ∧ 31 + 1 = 32 := ⟨by decide +kernel, rfl⟩
theorem eX5_gain_32 : decode cX5_gain 32 = .ok (.getfield 30, 3) ∧ 32 + 3 = 35 := ⟨by decide +kernel, rfl⟩
theorem eX5_gain_35 : decode cX5_gain 35 = .ok (.aload_n 0, 1) ∧ 35 + 1 = 36 := ⟨by decide +kernel, rfl⟩
theorem eX5_gain_36 : decode cX5_gain 36 = .ok (.getfield 26, 3) ∧ 36 + 3 = 39 := ⟨by decide +kernel, rfl⟩
theorem eX5_gain_39 : decode cX5_gain 39 = .ok (.invokevirtual 165, 3) ∧ 39 + 3 = 42 := ⟨by decide +kernel, rfl⟩
theorem eX5_gain_42 : decode cX5_gain 42 = .ok (.iload 5, 2) ∧ 42 + 2 = 44 := ⟨by decide +kernel, rfl⟩
theorem eX5_gain_44 : decode cX5_gain 44 = .ok (.ifCond .ne 16, 3) ∧ ((44 : Nat) : Int) + 16 = ((60 : Nat) : Int) ∧ 44 + 3 = 47 := ⟨by decide +kernel, by decide, rfl⟩
theorem eX5_gain_47 : decode cX5_gain 47 = .ok (.aload_n 0, 1) ∧ 47 + 1 = 48 := ⟨by decide +kernel, rfl⟩
theorem eX5_gain_48 : decode cX5_gain 48 = .ok (.getfield 19, 3) ∧ 48 + 3 = 51 := ⟨by decide +kernel, rfl⟩
theorem eX5_gain_51 : decode cX5_gain 51 = .ok (.aload_n 0, 1) ∧ 51 + 1 = 52 := ⟨by decide +kernel, rfl⟩
theorem eX5_gain_52 : decode cX5_gain 52 = .ok (.getfield 30, 3) ∧ 52 + 3 = 55 := ⟨by decide +kernel, rfl⟩
theorem eX5_gain_55 : decode cX5_gain 55 = .ok (.iload_n 2, 1) ∧ 55 + 1 = 56 := ⟨by decide +kernel, rfl⟩
theorem eX5_gain_56 : decode cX5_gain 56 = .ok (.invokevirtual 129, 3) ∧ 56 + 3 = 59 := ⟨by decide +kernel, rfl⟩
theorem eX5_gain_59 : decode cX5_gain 59 = .ok (.pop, 1) ∧ 59 + 1 = 60 := ⟨by decide +kernel, rfl⟩
theorem eX5_gain_60 : decode cX5_gain 60 = .ok (.aload_n 0, 1) ∧ 60 + 1 = 61 := ⟨by decide +kernel, rfl⟩
theorem eX5_gain_61 : decode cX5_gain 61 = .ok (.getfield 19, 3) ∧ 61 + 3 = 64 := ⟨by decide +kernel, rfl⟩
theorem eX5_gain_64 : decode cX5_gain 64 = .ok (.aload_n 0, 1) ∧ 64 + 1 = 65 := ⟨by decide +kernel, rfl⟩
theorem eX5_gain_65 : decode cX5_gain 65 = .ok (.getfield 30, 3) ∧ 65 + 3 = 68 := ⟨by decide +kernel, rfl⟩
theorem eX5_gain_68 : decode cX5_gain 68 = .ok (.iload_n 1, 1) ∧ 68 + 1 = 69 := ⟨by decide +kernel, rfl⟩
theorem eX5_gain_69 : decode cX5_gain 69 = .ok (.invokevirtual 105, 3) ∧ 69 + 3 = 72 := ⟨by decide +kernel, rfl⟩
theorem eX5_gain_72 : decode cX5_gain 72 = .ok (.istore 6, 2) ∧ 72 + 2 = 74 := ⟨by decide +kernel, rfl⟩
theorem eX5_gain_74 : decode cX5_gain 74 = .ok (.iload 6, 2) ∧ 74 + 2 = 76 := ⟨by decide +kernel, rfl⟩
theorem eX5_gain_76 : decode cX5_gain 76 = .ok (.bipush (-9), 2) ∧ 76 + 2 = 78 := ⟨by decide +kernel, rfl⟩
theorem eX5_gain_78 : decode cX5_gain 78 = .ok (.if_icmp .ne 7, 3) ∧ ((78 : Nat) : Int) + 7 = ((85 : Nat) : Int) ∧ 78 + 3 = 81 := ⟨by decide +kernel, by decide, rfl⟩
theorem eX5_gain_81 : decode cX5_gain 81 = .ok (.iconst 0, 1) ∧ 81 + 1 = 82 := ⟨by decide +kernel, rfl⟩
theorem eX5_gain_82 : decode cX5_gain 82 = .ok (.goto 19, 3) ∧ ((82 : Nat) : Int) + 19 = ((101 : Nat) : Int) := ⟨by decide +kernel, by decide⟩
theorem eX5_gain_85 : decode cX5_gain 85 = .ok (.iconst 0, 1) ∧ 85 + 1 = 86 := ⟨by decide +kernel, rfl⟩
theorem eX5_gain_86 : decode cX5_gain 86 = .ok (.iconst 4, 1) ∧ 86 + 1 = 87 := ⟨by decide +kernel, rfl⟩
theorem eX5_gain_87 : decode cX5_gain 87 = .ok (.iload 6, 2) ∧ 87 + 2 = 89 := ⟨by decide +kernel, rfl⟩
theorem eX5_gain_89 : decode cX5_gain 89 = .ok (.aload_n 0, 1) ∧ 89 + 1 = 90 := ⟨by decide +kernel, rfl⟩
theorem eX5_gain_90 : decode cX5_gain 90 = .ok (.getfield 26, 3) ∧ 90 + 3 = 93 := ⟨by decide +kernel, rfl⟩
theorem eX5_gain_93 : decode cX5_gain 93 = .ok (.getfield 133, 3) ∧ 93 + 3 = 96 := ⟨by decide +kernel, rfl⟩
theorem eX5_gain_96 : decode cX5_gain 96 = .ok (.isub, 1) ∧ 96 + 1 = 97 := ⟨by decide +kernel, rfl⟩
theorem eX5_gain_97 : decode cX5_gain 97 = .ok (.isub, 1) ∧ 97 + 1 = 98 := ⟨by decide +kernel, rfl⟩
theorem eX5_gain_98 : decode cX5_gain 98 = .ok (.invokestatic 259, 3) ∧ 98 + 3 = 101 := ⟨by decide +kernel, rfl⟩
theorem eX5_gain_101 : decode cX5_gain 101 = .ok (.istore 7, 2) ∧ 101 + 2 = 103 := ⟨by decide +kernel, rfl⟩
theorem eX5_gain_103 : decode cX5_gain 103 = .ok (.iload 7, 2) ∧ 103 + 2 = 105 := ⟨by decide +kernel, rfl⟩
theorem eX5_gain_105 : decode cX5_gain 105 = .ok (.iload_n 3, 1) ∧ 105 + 1 = 106 := ⟨by decide +kernel, rfl⟩
theorem eX5_gain_106 : decode cX5_gain 106 = .ok (.isub, 1) ∧ 106 + 1 = 107 := ⟨by decide +kernel, rfl⟩
theorem eX5_gain_107 : decode cX5_gain 107 = .ok (.ireturn, 1) := by decide +kernel
theorem eX5_isRowOfOpenWeddings_0 : decode cX5_isRowOfOpenWeddings 0 = .ok (.aload_n 0, 1) ∧ 0 + 1 = 1 := ⟨by decide +kernel, rfl⟩
theorem eX5_isRowOfOpenWeddings_1 : decode cX5_isRowOfOpenWeddings 1 = .ok (.getfield 26, 3) ∧ 1 + 3 = 4 := ⟨by decide +kernel, rfl⟩
theorem eX5_isRowOfOpenWeddings_4 : decode cX5_isRowOfOpenWeddings 4 = .ok (.getfield 210, 3) ∧ 4 + 3 = 7 := ⟨by decide +kernel, rfl⟩
theorem eX5_isRowOfOpenWeddings_7 : decode cX5_isRowOfOpenWeddings 7 = .ok (.istore_n 3, 1) ∧ 7 + 1 = 8 := ⟨by decide +kernel, rfl⟩
theorem eX5_isRowOfOpenWeddings_8 : decode cX5_isRowOfOpenWeddings 8 = .ok (.iconst 0, 1) ∧ 8 + 1 = 9 := ⟨by decide +kernel, rfl⟩
theorem eX5_isRowOfOpenWeddings_9 : decode cX5_isRowOfOpenWeddings 9 = .ok (.istore 4, 2) ∧ 9 + 2 = 11 := ⟨by decide +kernel, rfl⟩
theorem eX5_isRowOfOpenWeddings_11 : decode cX5_isRowOfOpenWeddings 11 = .ok (.iload 4, 2) ∧ 11 + 2 = 13 := ⟨by decide +kernel, rfl⟩
theorem eX5_isRowOfOpenWeddings_13 : decode cX5_isRowOfOpenWeddings 13 = .ok (.iload_n 1, 1) ∧ 13 + 1 = 14 := ⟨by decide +kernel, rfl⟩
theorem eX5_isRowOfOpenWeddings_14 : decode cX5_isRowOfOpenWeddings 14 = .ok (.if_icmp .ge 48, 3) ∧ ((14 : Nat) : Int) + 48 = ((62 : Nat) : Int) ∧ 14 + 3 = 17 := ⟨by decide +kernel, by decide, rfl⟩
theorem eX5_isRowOfOpenWeddings_17 : decode cX5_isRowOfOpenWeddings 17 = .ok (.iload_n 1, 1) ∧ 17 + 1 = 18 := ⟨by decide +kernel, rfl⟩
theorem eX5_isRowOfOpenWeddings_18 : decode cX5_isRowOfOpenWeddings 18 = .ok (.iload_n 2, 1) ∧ 18 + 1 = 19 := ⟨by decide +kernel, rfl⟩
theorem eX5_isRowOfOpenWeddings_19 : decode cX5_isRowOfOpenWeddings 19 = .ok (.iload 4, 2) ∧ 19 + 2 = 21 := ⟨by decide +kernel, rfl⟩
theorem eX5_isRowOfOpenWeddings_21 : decode cX5_isRowOfOpenWeddings 21 = .ok (.invokestatic 172, 3) ∧ 21 + 3 = 24 := ⟨by decide +kernel, rfl⟩
theorem eX5_isRowOfOpenWeddings_24 : decode cX5_isRowOfOpenWeddings 24 = .ok (.istore 5, 2) ∧ 24 + 2 = 26 := ⟨by decide +kernel, rfl⟩
theorem eX5_isRowOfOpenWeddings_26 : decode cX5_isRowOfOpenWeddings 26 = .ok (.aload_n 0, 1) ∧ 26 + 1 = 27 := ⟨by decide +kernel, rfl⟩
theorem eX5_isRowOfOpenWeddings_27 : decode cX5_isRowOfOpenWeddings 27 = .ok (.getfield 19, 3) ∧ 27 + 3 = 30 := ⟨by decide +kernel, rfl⟩
theorem eX5_isRowOfOpenWeddings_30 : decode cX5_isRowOfOpenWeddings 30 = .ok (.iload 5, 2) ∧ 30 + 2 = 32 := ⟨by decide +kernel, rfl⟩
theorem eX5_isRowOfOpenWeddings_32 : decode cX5_isRowOfOpenWeddings 32 = .ok (.invokevirtual 95, 3) ∧ 32 + 3 = 35 := ⟨by decide +kernel, rfl⟩
theorem eX5_isRowOfOpenWeddings_35 : decode cX5_isRowOfOpenWeddings 35 = .ok (.ifCond .eq 12, 3) ∧ ((35 : Nat) : Int) + 12 = ((47 : Nat) : Int) ∧ 35 + 3 = 38 := ⟨by decide +kernel, by decide, rfl⟩
theorem eX5_isRowOfOpenWeddings_38 : decode cX5_isRowOfOpenWeddings 38 = .ok (.iload_n 3, 1) ∧ 38 + 1 = 39 := ⟨by decide +kernel, rfl⟩
theorem eX5_isRowOfOpenWeddings_39 : decode cX5_isRowOfOpenWeddings 39 = .ok (.iload 5, 2) ∧ 39 + 2 = 41 := ⟨by decide +kernel, rfl⟩
theorem eX5_isRowOfOpenWeddings_41 : decode cX5_isRowOfOpenWeddings 41 = .ok (.ishr, 1) ∧ 41 + 1 = 42 := ⟨by decide +kernel, rfl⟩
theorem eX5_isRowOfOpenWeddings_42 : decode cX5_isRowOfOpenWeddings 42 = .ok (.iconst 1, 1) ∧ 42 + 1 = 43 := ⟨by decide +kernel, rfl⟩
theorem eX5_isRowOfOpenWeddings_43 : decode cX5_isRowOfOpenWeddings 43 = .ok (.iand, 1) ∧ 43 + 1 = 44 := ⟨by decide +kernel, rfl⟩
theorem eX5_isRowOfOpenWeddings_44 : decode cX5_isRowOfOpenWeddings 44 = .ok (.ifCond .eq 5, 3) ∧ ((44 : Nat) : Int) + 5 = ((49 : Nat) : Int) ∧ 44 + 3 = 47 := ⟨by decide +kernel, by decide, rfl⟩
theorem eX5_isRowOfOpenWeddings_47 : decode cX5_isRowOfOpenWeddings 47 = .ok (.iconst 0, 1) ∧ 47 + 1 = 48 := ⟨by decide +kernel, rfl⟩
theorem eX5_isRowOfOpenWeddings_48 : decode cX5_isRowOfOpenWeddings 48 = .ok (.ireturn, 1) := by decide +kernel
theorem eX5_isRowOfOpenWeddings_49 : decode cX5_isRowOfOpenWeddings 49 = .ok (.iload_n 3, 1) ∧ 49 + 1 = 50 := ⟨by decide +kernel, rfl⟩
theorem eX5_isRowOfOpenWeddings_50 : decode cX5_isRowOfOpenWeddings 50 = .ok (.iconst 1, 1) ∧ 50 + 1 = 51 := ⟨by decide +kernel, rfl⟩
theorem eX5_isRowOfOpenWeddings_51 : decode cX5_isRowOfOpenWeddings 51 = .ok (.iload 5, 2) ∧ 51 + 2 = 53 := ⟨by decide +kernel, rfl⟩
theorem eX5_isRowOfOpenWeddings_53 : decode cX5_isRowOfOpenWeddings 53 = .ok (.ishl, 1) ∧ 53 + 1 = 54 := ⟨by decide +kernel, rfl⟩
theorem eX5_isRowOfOpenWeddings_54 : decode cX5_isRowOfOpenWeddings 54 = .ok (.ior, 1) ∧ 54 + 1 = 55 := ⟨by decide +kernel, rfl⟩
theorem eX5_isRowOfOpenWeddings_55 : decode cX5_isRowOfOpenWeddings 55 = .ok (.istore_n 3, 1) ∧ 55 + 1 = 56 := ⟨by decide +kernel, rfl⟩
theorem eX5_isRowOfOpenWeddings_56 : decode cX5_isRowOfOpenWeddings 56 = .ok (.iinc 4 1, 3) ∧ 56 + 3 = 59 := ⟨by decide +kernel, rfl⟩
theorem eX5_isRowOfOpenWeddings_59 : decode cX5_isRowOfOpenWeddings 59 = .ok (.goto (-48), 3) ∧ ((59 : Nat) : Int) + (-48) = ((11 : Nat) : Int) := ⟨by decide +kernel, by decide⟩
theorem eX5_isRowOfOpenWeddings_62 : decode cX5_isRowOfOpenWeddings 62 = .ok (.iconst 1, 1) ∧ 62 + 1 = 63 := ⟨by decide +kernel, rfl⟩
theorem eX5_isRowOfOpenWeddings_63 : decode cX5_isRowOfOpenWeddings 63 = .ok (.ireturn, 1) := by decide +kernel
theorem eX5_weightOfFalls_0 : decode cX5_weightOfFalls 0 = .ok (.iconst 1, 1) ∧ 0 + 1 = 1 := ⟨by decide +kernel, rfl⟩
theorem eX5_weightOfFalls_1 : decode cX5_weightOfFalls 1 = .ok (.istore 5, 2) ∧ 1 + 2 = 3 := ⟨by decide +kernel, rfl⟩
theorem eX5_weightOfFalls_3 : decode cX5_weightOfFalls 3 = .ok (.aload_n 0, 1) ∧ 3 + 1 = 4 := ⟨by decide +kernel, rfl⟩
theorem eX5_weightOfFalls_4 : decode cX5_weightOfFalls 4 = .ok (.getfield 26, 3) ∧ 4 + 3 = 7 := ⟨by decide +kernel, rfl⟩
theorem eX5_weightOfFalls_7 : decode cX5_weightOfFalls 7 = .ok (.getfield 136, 3) ∧ 7 + 3 = 10 := ⟨by decide +kernel, rfl⟩
theorem eX5_weightOfFalls_10 : decode cX5_weightOfFalls 10 = .ok (.istore 6, 2) ∧ 10 + 2 = 12 := ⟨by decide +kernel, rfl⟩
theorem eX5_weightOfFalls_12 : decode cX5_weightOfFalls 12 = .ok (.iconst 0, 1) ∧ 12 + 1 = 13 := ⟨by decide +kernel, rfl⟩
theorem eX5_weightOfFalls_13 : decode cX5_weightOfFalls 13 = .ok (.istore 7, 2) ∧ 13 + 2 = 15 := ⟨by decide +kernel, rfl⟩
theorem eX5_weightOfFalls_15 : decode cX5_weightOfFalls 15 = .ok (.iload 7, 2) ∧ 15 + 2 = 17 := ⟨by decide +kernel, rfl⟩
theorem eX5_weightOfFalls_17 : decode cX5_weightOfFalls 17 = .ok (.iload_n 1, 1) ∧ 17 + 1 = 18 := ⟨by decide +kernel, rfl⟩
theorem eX5_weightOfFalls_18 : decode cX5_weightOfFalls 18 = .ok (.if_icmp .ge 98, 3) ∧ ((18 : Nat) : Int) + 98 = ((116 : Nat) : Int) ∧ 18 + 3 = 21 := ⟨by decide +kernel, by decide, rfl⟩
theorem eX5_weightOfFalls_21 : decode cX5_weightOfFalls 21 = .ok (.aload_n 0, 1) ∧ 21 + 1 = 22 := ⟨by decide +kernel, rfl⟩
theorem eX5_weightOfFalls_22 : decode cX5_weightOfFalls 22 = .ok (.getfield 19, 3) ∧ 22 + 3 = 25 := ⟨by decide +kernel, rfl⟩
theorem eX5_weightOfFalls_25 : decode cX5_weightOfFalls 25 = .ok (.iload_n 1, 1) ∧ 25 + 1 = 26 := ⟨by decide +kernel, rfl⟩
theorem eX5_weightOfFalls_26 : decode cX5_weightOfFalls 26 = .ok (.iload_n 2, 1) ∧ 26 + 1 = 27 := ⟨by decide +kernel, rfl⟩
theorem eX5_weightOfFalls_27 : decode cX5_weightOfFalls 27 = .ok (.iload 7, 2) ∧ 27 + 2 = 29 := ⟨by decide +kernel, rfl⟩
theorem eX5_weightOfFalls_29 : decode cX5_weightOfFalls 29 = .ok (.invokestatic 172, 3) ∧ 29 + 3 = 32 := ⟨by decide +kernel, rfl⟩
theorem eX5_weightOfFalls_32 : decode cX5_weightOfFalls 32 = .ok (.iconst 0, 1) ∧ 32 + 1 = 33 := ⟨by decide +kernel, rfl⟩
theorem eX5_weightOfFalls_33 : decode cX5_weightOfFalls 33 = .ok (.invokevirtual 98, 3) ∧ 33 + 3 = 36 := ⟨by decide +kernel, rfl⟩
theorem eX5_weightOfFalls_36 : decode cX5_weightOfFalls 36 = .ok (.istore 8, 2) ∧ 36 + 2 = 38 := ⟨by decide +kernel, rfl⟩
theorem eX5_weightOfFalls_38 : decode cX5_weightOfFalls 38 = .ok (.iload 4, 2) ∧ 38 + 2 = 40 := ⟨by decide +kernel, rfl⟩
theorem eX5_weightOfFalls_40 : decode cX5_weightOfFalls 40 = .ok (.iload 7, 2) ∧ 40 + 2 = 42 := ⟨by decide +kernel, rfl⟩
theorem eX5_weightOfFalls_42 : decode cX5_weightOfFalls 42 = .ok (.ishr, 1) ∧ 42 + 1 = 43 := ⟨by decide +kernel, rfl⟩
theorem eX5_weightOfFalls_43 : decode cX5_weightOfFalls 43 = .ok (.iconst 1, 1) ∧ 43 + 1 = 44 := ⟨by decide +kernel, rfl⟩
theorem eX5_weightOfFalls_44 : decode cX5_weightOfFalls 44 = .ok (.iand, 1) ∧ 44 + 1 = 45 := ⟨by decide +kernel, rfl⟩
theorem eX5_weightOfFalls_45 : decode cX5_weightOfFalls 45 = .ok (.ifCond .eq 7, 3) ∧ ((45 : Nat) : Int) + 7 = ((52 : Nat) : Int) ∧ 45 + 3 = 48 := ⟨by decide +kernel, by decide, rfl⟩
theorem eX5_weightOfFalls_48 : decode cX5_weightOfFalls 48 = .ok (.iconst 1, 1) ∧ 48 + 1 = 49 := ⟨by decide +kernel, rfl⟩
theorem eX5_weightOfFalls_49 : decode cX5_weightOfFalls 49 = .ok (.goto 4, 3) ∧ ((49 : Nat) : Int) + 4 = ((53 : Nat) : Int) := ⟨by decide +kernel, by decide⟩
theorem eX5_weightOfFalls_52 : decode cX5_weightOfFalls 52 = .ok (.iconst 0, 1) ∧ 52 + 1 = 53 := ⟨by decide +kernel, rfl⟩
theorem eX5_weightOfFalls_53 : decode cX5_weightOfFalls 53 = .ok (.istore 9, 2) ∧ 53 + 2 = 55 := ⟨by decide +kernel, rfl⟩
theorem eX5_weightOfFalls_55 : decode cX5_weightOfFalls 55 = .ok (.aload_n 0, 1) ∧ 55 + 1 = 56 := ⟨by decide +kernel, rfl⟩
theorem eX5_weightOfFalls_56 : decode cX5_weightOfFalls 56 = .ok (.getfield 26, 3) ∧ 56 + 3 = 59 := ⟨by decide +kernel, rfl⟩
theorem eX5_weightOfFalls_59 : decode cX5_weightOfFalls 59 = .ok (.iload 6, 2) ∧ 59 + 2 = 61 := ⟨by decide +kernel, rfl⟩
theorem eX5_weightOfFalls_61 : decode cX5_weightOfFalls 61 = .ok (.iload 8, 2) ∧ 61 + 2 = 63 := ⟨by decide +kernel, rfl⟩
theorem eX5_weightOfFalls_63 : decode cX5_weightOfFalls 63 = .ok (.invokevirtual 122, 3) ∧ 63 + 3 = 66 := ⟨by decide +kernel, rfl⟩
theorem eX5_weightOfFalls_66 : decode cX5_weightOfFalls 66 = .ok (.ifCond .le 24, 3) ∧ ((66 : Nat) : Int) + 24 = ((90 : Nat) : Int) ∧ 66 + 3 = 69 := ⟨by decide +kernel, by decide, rfl⟩
theorem eX5_weightOfFalls_69 : decode cX5_weightOfFalls 69 = .ok (.iload 5, 2) ∧ 69 + 2 = 71 := ⟨by decide +kernel, rfl⟩
theorem eX5_weightOfFalls_71 : decode cX5_weightOfFalls 71 = .ok (.iload 9, 2) ∧ 71 + 2 = 73 := ⟨by decide +kernel, rfl⟩
theorem eX5_weightOfFalls_73 : decode cX5_weightOfFalls 73 = .ok (.ifCond .eq 7, 3) ∧ ((73 : Nat) : Int) + 7 = ((80 : Nat) : Int) ∧ 73 + 3 = 76 := ⟨by decide +kernel, by decide, rfl⟩
theorem eX5_weightOfFalls_76 : decode cX5_weightOfFalls 76 = .ok (.iload_n 3, 1) ∧ 76 + 1 = 77 := ⟨by decide +kernel, rfl⟩
theorem eX5_weightOfFalls_77 : decode cX5_weightOfFalls 77 = .ok (.goto 7, 3) ∧ ((77 : Nat) : Int) + 7 = ((84 : Nat) : Int) := ⟨by decide +kernel, by decide⟩
theorem eX5_weightOfFalls_80 : decode cX5_weightOfFalls 80 = .ok (.bipush 10, 2) ∧ 80 + 2 = 82 := ⟨by decide +kernel, rfl⟩
theorem eX5_weightOfFalls_82 : decode cX5_weightOfFalls 82 = .ok (.iload_n 3, 1) ∧ 82 + 1 = 83 := ⟨by decide +kernel, rfl⟩
theorem eX5_weightOfFalls_83 : decode cX5_weightOfFalls 83 = .ok (.isub, 1) ∧ 83 + 1 = 84 := ⟨by decide +kernel, rfl⟩
theorem eX5_weightOfFalls_84 : decode cX5_weightOfFalls 84 = .ok (.imul, 1) ∧ 84 + 1 = 85 := ⟨by decide +kernel, rfl⟩
theorem eX5_weightOfFalls_85 : decode cX5_weightOfFalls 85 = .ok (.istore 5, 2) ∧ 85 + 2 = 87 := ⟨by decide +kernel, rfl⟩
theorem eX5_weightOfFalls_87 : decode cX5_weightOfFalls 87 = .ok (.goto 19, 3) ∧ ((87 : Nat) : Int) + 19 = ((106 : Nat) : Int) := ⟨by decide +kernel, by decide⟩
theorem eX5_weightOfFalls_90 : decode cX5_weightOfFalls 90 = .ok (.iload 5, 2) ∧ 90 + 2 = 92 := ⟨by decide +kernel, rfl⟩
theorem eX5_weightOfFalls_92 : decode cX5_weightOfFalls 92 = .ok (.iload 9, 2) ∧ 92 + 2 = 94 := ⟨by decide +kernel, rfl⟩
theorem eX5_weightOfFalls_94 : decode cX5_weightOfFalls 94 = .ok (.ifCond .eq 7, 3) ∧ ((94 : Nat) : Int) + 7 = ((101 : Nat) : Int) ∧ 94 + 3 = 97 := ⟨by decide +kernel, by decide, rfl⟩
theorem eX5_weightOfFalls_97 : decode cX5_weightOfFalls 97 = .ok (.iconst 0, 1) ∧ 97 + 1 = 98 := ⟨by decide +kernel, rfl⟩
theorem eX5_weightOfFalls_98 : decode cX5_weightOfFalls 98 = .ok (.goto 5, 3) ∧ ((98 : Nat) : Int) + 5 = ((103 : Nat) : Int) := ⟨by decide +kernel, by decide⟩
theorem eX5_weightOfFalls_101 : decode cX5_weightOfFalls 101 = .ok (.bipush 10, 2) ∧ 101 + 2 = 103 := ⟨by decide +kernel, rfl⟩
theorem eX5_weightOfFalls_103 : decode cX5_weightOfFalls 103 = .ok (.imul, 1) ∧ 103 + 1 = 104 := ⟨by decide +kernel, rfl⟩
theorem eX5_weightOfFalls_104 : decode cX5_weightOfFalls 104 = .ok (.istore 5, 2) ∧ 104 + 2 = 106 := ⟨by decide +kernel, rfl⟩
theorem eX5_weightOfFalls_106 : decode cX5_weightOfFalls 106 = .ok (.iload 8, 2) ∧ 106 + 2 = 108 := ⟨by decide +kernel, rfl⟩
theorem eX5_weightOfFalls_108 : decode cX5_weightOfFalls 108 = .ok (.istore 6, 2) ∧ 108 + 2 = 110 := ⟨by decide +kernel, rfl⟩
theorem eX5_weightOfFalls_110 : decode cX5_weightOfFalls 110 = .ok (.iinc 7 1, 3) ∧ 110 + 3 = 113 := ⟨by decide +kernel, rfl⟩
theorem eX5_weightOfFalls_113 : decode cX5_weightOfFalls 113 = .ok (.goto (-98), 3) ∧ ((113 : Nat) : Int) + (-98) = ((15 : Nat) : Int) := ⟨by decide +kernel, by decide⟩
theorem eX5_weightOfFalls_116 : decode cX5_weightOfFalls 116 = .ok (.iload 5, 2) ∧ 116 + 2 = 118 := ⟨by decide +kernel, rfl⟩
theorem eX5_weightOfFalls_118 : decode cX5_weightOfFalls 118 = .ok (.ireturn, 1) := by decide +kernel
theorem eX5_holdsWithFalls_0 : decode cX5_holdsWithFalls 0 = .ok (.aload_n 0, 1) ∧ 0 + 1 = 1 := ⟨by decide +kernel, rfl⟩
theorem eX5_holdsWithFalls_1 : decode cX5_holdsWithFalls 1 = .ok (.getfield 30, 3) ∧ 1 + 3 = 4 := ⟨by decide +kernel, rfl⟩
theorem eX5_holdsWithFalls_4 : decode cX5_holdsWithFalls 4 = .ok (.aload_n 0, 1) ∧ 4 + 1 = 5 := ⟨by decide +kernel, rfl⟩
theorem eX5_holdsWithFalls_5 : decode cX5_holdsWithFalls 5 = .ok (.getfield 26, 3) ∧ 5 + 3 = 8 := ⟨by decide +kernel, rfl⟩
theorem eX5_holdsWithFalls_8 : decode cX5_holdsWithFalls 8 = .ok (.invokevirtual 165, 3) ∧ 8 + 3 = 11 := ⟨by decide +kernel, rfl⟩
theorem eX5_holdsWithFalls_11 : decode cX5_holdsWithFalls 11 = .ok (.iconst 0, 1) ∧ 11 + 1 = 12 := ⟨by decide +kernel, rfl⟩
theorem eX5_holdsWithFalls_12 : decode cX5_holdsWithFalls 12 = .ok (.istore 4, 2) ∧ 12 + 2 = 14 := ⟨by decide +kernel, rfl⟩
theorem eX5_holdsWithFalls_14 : decode cX5_holdsWithFalls 14 = .ok (.iload 4, 2) ∧ 14 + 2 = 16 := ⟨by decide +kernel, rfl⟩
theorem eX5_holdsWithFalls_16 : decode cX5_holdsWithFalls 16 = .ok (.iload_n 1, 1) ∧ 16 + 1 = 17 := ⟨by decide +kernel, rfl⟩
theorem eX5_holdsWithFalls_17 : decode cX5_holdsWithFalls 17 = .ok (.if_icmp .ge 50, 3) ∧ ((17 : Nat) : Int) + 50 = ((67 : Nat) : Int) ∧ 17 + 3 = 20 := ⟨by decide +kernel, by decide, rfl⟩
theorem eX5_holdsWithFalls_20 : decode cX5_holdsWithFalls 20 = .ok (.aload_n 0, 1) ∧ 20 + 1 = 21 := ⟨by decide +kernel, rfl⟩
theorem eX5_holdsWithFalls_21 : decode cX5_holdsWithFalls 21 = .ok (.getfield 30, 3) ∧ 21 + 3 = 24 := ⟨by decide +kernel, rfl⟩
theorem eX5_holdsWithFalls_24 : decode cX5_holdsWithFalls 24 = .ok (.dup, 1) ∧ 24 + 1 = 25 := ⟨by decide +kernel, rfl⟩
theorem eX5_holdsWithFalls_25 : decode cX5_holdsWithFalls 25 = .ok (.getfield 133, 3) ∧ 25 + 3 = 28 := ⟨by decide +kernel, rfl⟩
theorem eX5_holdsWithFalls_28 : decode cX5_holdsWithFalls 28 = .ok (.iload_n 3, 1) ∧ 28 + 1 = 29 := ⟨by decide +kernel, rfl⟩
theorem eX5_holdsWithFalls_29 : decode cX5_holdsWithFalls 29 = .ok (.iload 4, 2) ∧ 29 + 2 = 31 := ⟨by decide +kernel, rfl⟩
theorem eX5_holdsWithFalls_31 : decode cX5_holdsWithFalls 31 = .ok (.ishr, 1) ∧ 31 + 1 = 32 := ⟨by decide +kernel, rfl⟩
theorem eX5_holdsWithFalls_32 : decode cX5_holdsWithFalls 32 = .ok (.iconst 1, 1) ∧ 32 + 1 = 33 := ⟨by decide +kernel, rfl⟩
theorem eX5_holdsWithFalls_33 : decode cX5_holdsWithFalls 33 = .ok (.iand, 1) ∧ 33 + 1 = 34 := ⟨by decide +kernel, rfl⟩
theorem eX5_holdsWithFalls_34 : decode cX5_holdsWithFalls 34 = .ok (.iadd, 1) ∧ 34 + 1 = 35 := ⟨by decide +kernel, rfl⟩
theorem eX5_holdsWithFalls_35 : decode cX5_holdsWithFalls 35 = .ok (.putfield 133, 3) ∧ 35 + 3 = 38 := ⟨by decide +kernel, rfl⟩
theorem eX5_holdsWithFalls_38 : decode cX5_holdsWithFalls 38 = .ok (.aload_n 0, 1) ∧ 38 + 1 = 39 := ⟨by decide +kernel, rfl⟩
theorem eX5_holdsWithFalls_39 : decode cX5_holdsWithFalls 39 = .ok (.getfield 19, 3) ∧ 39 + 3 = 42 := ⟨by decide +kernel, rfl⟩
theorem eX5_holdsWithFalls_42 : decode cX5_holdsWithFalls 42 = .ok (.aload_n 0, 1) ∧ 42 + 1 = 43 := ⟨by decide +kernel, rfl⟩
theorem eX5_holdsWithFalls_43 : decode cX5_holdsWithFalls 43 = .ok (.getfield 30, 3) ∧ 43 + 3 = 46 := ⟨by decide +kernel, rfl⟩
theorem eX5_holdsWithFalls_46 : decode cX5_holdsWithFalls 46 = .ok (.iload_n 1, 1) ∧ 46 + 1 = 47 := ⟨by decide +kernel, rfl⟩
theorem eX5_holdsWithFalls_47 : decode cX5_holdsWithFalls 47 = .ok (.iload_n 2, 1) ∧ 47 + 1 = 48 := ⟨by decide +kernel, rfl⟩
theorem eX5_holdsWithFalls_48 : decode cX5_holdsWithFalls 48 = .ok (.iload 4, 2) ∧ 48 + 2 = 50 := ⟨by decide +kernel, rfl⟩
theorem eX5_holdsWithFalls_50 : decode cX5_holdsWithFalls 50 = .ok (.invokestatic 172, 3) ∧ 50 + 3 = 53 := ⟨by decide +kernel, rfl⟩
theorem eX5_holdsWithFalls_53 : decode cX5_holdsWithFalls 53 = .ok (.invokevirtual 129, 3) ∧ 53 + 3 = 56 := ⟨by decide +kernel, rfl⟩
theorem eX5_holdsWithFalls_56 : decode cX5_holdsWithFalls 56 = .ok (.ifCond .ne 5, 3) ∧ ((56 : Nat) : Int) + 5 = ((61 : Nat) : Int) ∧ 56 + 3 = 59 := ⟨by decide +kernel, by decide, rfl⟩
theorem eX5_holdsWithFalls_59 : decode cX5_holdsWithFalls 59 = .ok (.iconst 0, 1) ∧ 59 + 1 = 60 := ⟨by decide +kernel, rfl⟩
theorem eX5_holdsWithFalls_60 : decode cX5_holdsWithFalls 60 = .ok (.ireturn, 1) := by decide +kernel
theorem eX5_holdsWithFalls_61 : decode cX5_holdsWithFalls 61 = .ok (.iinc 4 1, 3) ∧ 61 + 3 = 64 := ⟨by decide +kernel, rfl⟩
theorem eX5_holdsWithFalls_64 : decode cX5_holdsWithFalls 64 = .ok (.goto (-50), 3) ∧ ((64 : Nat) : Int) + (-50) = ((14 : Nat) : Int) := ⟨by decide +kernel, by decide⟩
theorem eX5_holdsWithFalls_67 : decode cX5_holdsWithFalls 67 = .ok (.iconst 1, 1) ∧ 67 + 1 = 68 := ⟨by decide +kernel, rfl⟩
theorem eX5_holdsWithFalls_68 : decode cX5_holdsWithFalls 68 = .ok (.ireturn, 1) := by decide +kernel
